/-! MOVES: takes, copies, one who comes -/
theorem cy_ok {s : pv_F} {a za b zb n : Nat} (h1 : n ≤ za) (h2 : n ≤ zb) (h3 : n < 2 ^ 31) : pv_cy s a za b zb (0:Int32) (0:Int32) (nI n) = some (pv_upf s b (va_cpy (s a) (s b) 0 0 n)) := by
  unfold pv_cy
  have e0 : (0:Int32).toNatClampNeg = 0 := rfl
  rw [nI_clamp h3, e0, if_pos ⟨by decide, by decide, nI_pos h3, by omega, by omega⟩]
theorem upf_ne {s : pv_F} {a c : Nat} {f : Nat → Int32} (h : c ≠ a) : pv_upf s a f c = s c := if_neg h
theorem upf_eq {s : pv_F} {a : Nat} {f : Nat → Int32} : pv_upf s a f a = f := if_pos rfl
theorem cy_ex {s : pv_F} {a za b zb n : Nat} {z : Int32} (hz : z = nI n) (h1 : n ≤ za) (h2 : n ≤ zb) (h3 : n < 2 ^ 31) : ∃ s', pv_cy s a za b zb (0:Int32) (0:Int32) z = some s' ∧ (∀ i, i < n → s' b i = s a i) ∧ ∀ c, c ≠ b → s' c = s c := by
  rw [hz, cy_ok h1 h2 h3]
  refine ⟨_, rfl, fun i hi => ?_, fun c hc => upf_ne hc⟩
  rw [upf_eq, pk_cpy_in (by omega) (by omega)]
  simp
theorem take_ok {s : pv_F} {o c n : Nat} {K : Nat → Nat} {nm : Nat → List Nat} {du : Nat → Nat} (hn : n ≤ 7) (h : FC s c n K nm du) (hd : o + 3 < c ∨ c + 3 < o) : ∃ s', f5_take o c s = some s' ∧ FC s' o n K nm du ∧ ∀ a, a ≠ o → a ≠ o + 1 → a ≠ o + 2 → a ≠ o + 3 → s' a = s a := by
  obtain ⟨h1, h2⟩ := h
  unfold f5_take
  obtain ⟨s1, e1, z1, f1⟩ : ∃ s1, pv_pf s o 3 (s c 3) = some s1 ∧ s1 o 3 = nI n ∧ ∀ a, a ≠ o → s1 a = s a := ⟨_, rfl, by rw [up_at, h1], fun a ha => up_ne ha⟩
  rw [e1]
  simp only [bs]
  obtain ⟨s3, e3, g3, f3⟩ := cy_ex (s := s1) (a := c + 1) (za := 7) (b := o + 1) (zb := 7) z1 hn hn (by omega)
  have z3 : s3 o 3 = nI n := by rw [f3 o (by omega)]; exact z1
  rw [e3]
  simp only [bs]
  obtain ⟨s5, e5, g5, f5⟩ := cy_ex (s := s3) (a := c + 2) (za := 7) (b := o + 2) (zb := 7) z3 hn hn (by omega)
  have z5 : s5 o 3 = nI n := by rw [f5 o (by omega)]; exact z3
  rw [e5]
  simp only [bs]
  obtain ⟨s7, e7, g7, f7⟩ := cy_ex (s := s5) (a := c + 3) (za := 7) (b := o + 3) (zb := 7) z5 hn hn (by omega)
  rw [e7]
  refine ⟨s7, rfl, ⟨by rw [f7 o (by omega)]; exact z5, fun x hx => ?_⟩, fun a a0 a1 a2 a3 => by rw [f7 a a3, f5 a a2, f3 a a1, f1 a a0]⟩
  obtain ⟨k1, k2, k3⟩ := h2 x hx
  refine ⟨?_, ?_, ?_⟩
  · rw [f7 _ (by omega), f5 _ (by omega), g3 x hx, f1 _ (by omega)]; exact k1
  · rw [f7 _ (by omega), g5 x hx, f3 _ (by omega), f1 _ (by omega)]; exact k2
  · rw [g7 x hx, f5 _ (by omega), f3 _ (by omega), f1 _ (by omega)]; exact k3
theorem takeD_ok {s : pv_F} {o c : Nat} {ds : List Deed} (hn : ds.length ≤ 60) (h : CDeeds s c ds) (hd : o + 4 < c ∨ c + 4 < o) : ∃ s', f3_take o c s = some s' ∧ CDeeds s' o ds ∧ (∀ j, j ≠ 4 → s' o j = s o j) ∧ ∀ a, a ≠ o → a ≠ o + 1 → a ≠ o + 2 → a ≠ o + 3 → a ≠ o + 4 → s' a = s a := by
  obtain ⟨h1, h2⟩ := h
  unfold f3_take
  obtain ⟨s1, e1, z1, y1, f1⟩ : ∃ s1, pv_pf s o 4 (s c 4) = some s1 ∧ s1 o 4 = nI ds.length ∧ (∀ j, j ≠ 4 → s1 o j = s o j) ∧ ∀ a, a ≠ o → s1 a = s a := ⟨_, rfl, by rw [up_at, h1], fun j hj => up_nj hj, fun a ha => up_ne ha⟩
  rw [e1]
  simp only [bs]
  obtain ⟨s3, e3, g3, f3⟩ := cy_ex (s := s1) (a := c + 1) (za := 60) (b := o + 1) (zb := 60) z1 hn hn (by omega)
  have z3 : s3 o 4 = nI ds.length := by rw [f3 o (by omega)]; exact z1
  rw [e3]
  simp only [bs]
  obtain ⟨s5, e5, g5, f5⟩ := cy_ex (s := s3) (a := c + 2) (za := 60) (b := o + 2) (zb := 60) z3 hn hn (by omega)
  have z5 : s5 o 4 = nI ds.length := by rw [f5 o (by omega)]; exact z3
  rw [e5]
  simp only [bs]
  obtain ⟨s7, e7, g7, f7⟩ := cy_ex (s := s5) (a := c + 3) (za := 60) (b := o + 3) (zb := 60) z5 hn hn (by omega)
  have z7 : s7 o 4 = nI ds.length := by rw [f7 o (by omega)]; exact z5
  rw [e7]
  simp only [bs]
  obtain ⟨s9, e9, g9, f9⟩ := cy_ex (s := s7) (a := c + 4) (za := 60) (b := o + 4) (zb := 60) z7 hn hn (by omega)
  rw [e9]
  refine ⟨s9, rfl, ⟨by rw [f9 o (by omega)]; exact z7, fun j d hj => ?_⟩, fun j hj => by rw [f9 o (by omega), f7 o (by omega), f5 o (by omega), f3 o (by omega)]; exact y1 j hj, fun a a0 a1 a2 a3 a4 => by rw [f9 a a4, f7 a a3, f5 a a2, f3 a a1, f1 a a0]⟩
  obtain ⟨k1, k2, k3, k4⟩ := h2 j d hj
  have hl : j < ds.length := (List.getElem?_eq_some_iff.mp hj).1
  refine ⟨?_, ?_, ?_, ?_⟩
  · rw [f9 _ (by omega), f7 _ (by omega), f5 _ (by omega), g3 j hl, f1 _ (by omega)]; exact k1
  · rw [f9 _ (by omega), f7 _ (by omega), g5 j hl, f3 _ (by omega), f1 _ (by omega)]; exact k2
  · rw [f9 _ (by omega), g7 j hl, f5 _ (by omega), f3 _ (by omega), f1 _ (by omega)]; exact k3
  · rw [g9 j hl, f7 _ (by omega), f5 _ (by omega), f3 _ (by omega), f1 _ (by omega)]; exact k4
/-- a loop of the model that copies -/
theorem copy_loop {B : Int32 × pv_T → Option ((Int32 × pv_T) ⊕ (Int32 × pv_T))} {T : pv_T} {a b p q z : Nat} (hz : z < 20000) (hab : a ≠ b) (hs : ∀ i (U : pv_T), i < z → (∀ c, c ≠ b → U.1 c = T.1 c) → B (nI i, U) = some (.inl (nI (i + 1), (pv_up U.1 b (q + i) (U.1 a (p + i)), U.2)))) (he : ∀ U : pv_T, B (nI z, U) = some (.inr (nI z, U))) : ∃ T', pv_lq B 20000 ((0:Int32), T) = some (nI z, T') ∧ (∀ i, i < z → T'.1 b (q + i) = T.1 a (p + i)) ∧ (∀ c, c ≠ b → T'.1 c = T.1 c) ∧ ∀ j, j < q ∨ q + z ≤ j → T'.1 b j = T.1 b j := by
  obtain ⟨e, h1, h2⟩ := lq_inv (B := B) (P := fun i st => st.1 = nI i ∧ (∀ j, j < i → st.2.1 b (q + j) = T.1 a (p + j)) ∧ (∀ c, c ≠ b → st.2.1 c = T.1 c) ∧ ∀ j, j < q ∨ q + z ≤ j → st.2.1 b j = T.1 b j) (Q := fun st => st.1 = nI z ∧ (∀ j, j < z → st.2.1 b (q + j) = T.1 a (p + j)) ∧ (∀ c, c ≠ b → st.2.1 c = T.1 c) ∧ ∀ j, j < q ∨ q + z ≤ j → st.2.1 b j = T.1 b j) z (fun i st hi hP => by
    obtain ⟨v, U⟩ := st
    obtain ⟨p1, p2, p3, p4⟩ := hP
    simp only at p1 p2 p3 p4
    subst p1
    refine ⟨_, hs i U hi p3, rfl, fun j hj => ?_, fun c hc => ?_, fun j hj => ?_⟩
    · show pv_up U.1 b (q + i) (U.1 a (p + i)) b (q + j) = _
      by_cases hji : j = i
      · subst hji
        rw [up_at, p3 a hab]
      · rw [up_nj (by omega)]
        exact p2 j (by omega)
    · show pv_up U.1 b (q + i) (U.1 a (p + i)) c = _
      rw [up_ne hc]
      exact p3 c hc
    · show pv_up U.1 b (q + i) (U.1 a (p + i)) b j = _
      rw [up_nj (by omega)]
      exact p4 j hj) (fun st hP => by
    obtain ⟨v, U⟩ := st
    obtain ⟨p1, p2, p3, p4⟩ := hP
    simp only at p1 p2 p3 p4
    subst p1
    exact ⟨_, he U, rfl, p2, p3, p4⟩) ((0:Int32), T) ⟨nI_0.symm, fun j hj => by omega, fun c hc => rfl, fun j hj => rfl⟩ hz
  obtain ⟨v, U⟩ := e
  obtain ⟨q1, q2, q3, q4⟩ := h2
  simp only at q1 q2 q3 q4
  subst q1
  exact ⟨U, h1, q2, q3, q4⟩
theorem copies_ok {T : pv_T} {a b p q N M : Nat} (hab : a ≠ b) (hN : pv_an a = N) (hM : pv_an b = M) (hp : p + 78 ≤ N) (hq : q + 78 ≤ M) (hN2 : N < 2 ^ 31) (hM2 : M < 2 ^ 31) : ∃ T', f162_copies a (nI p) b (nI q) T = some T' ∧ (∀ i, i < 78 → T'.1 b (q + i) = T.1 a (p + i)) ∧ (∀ c, c ≠ b → T'.1 c = T.1 c) ∧ ∀ j, j < q ∨ q + 78 ≤ j → T'.1 b j = T.1 b j := by
  unfold f162_copies
  obtain ⟨T', h1, h2⟩ := copy_loop (B := f162_copies_b1 a (nI p) b (nI q)) (T := T) (a := a) (b := b) (p := p) (q := q) (z := 78) (by omega) hab (fun i U hi _ => by
    unfold f162_copies_b1
    simp only
    rw [if_neg (show ¬ (78:Int32) ≤ nI i from nI_ge (b := 78) hi (by omega)), nI_add, nI_add, nI_1, hN, hM, rd_nI (by omega) hN2]
    simp only [bs]
    rw [wm_nI (by omega) hM2]
    rfl) (fun U => by
    unfold f162_copies_b1
    simp only
    rw [if_pos (by decide)])
  rw [h1]
  exact ⟨T', rfl, h2⟩
theorem MRep.copy {t t' : Nat → Int32} {o o' n : Nat} {K : Nat → Nat} {A : TS} (h : MRep t o n A) (hF : okT n K A) (e : ∀ i, i < 78 → t' (o' + i) = t (o + i)) : MRep t' o' n A := by
  have hn := hF.1
  refine ⟨fun x hx => ?_, ?_⟩
  · obtain ⟨a1, a2, a3, a4, a5, a6⟩ := h.1 x hx
    have h6 := (hF.2 x hx).2.1.1
    refine ⟨fun i hi => ?_, ?_, ?_, ?_, ?_, ?_⟩
    · rw [e _ (by omega)]; exact a1 i hi
    · rw [e _ (by omega)]; exact a2
    · rw [e _ (by omega)]; exact a3
    · rw [e _ (by omega)]; exact a4
    · rw [e _ (by omega)]; exact a5
    · rw [e _ (by omega)]; exact a6
  · rw [e _ (by omega)]; exact h.2
/-- one comes, in the model -/
theorem comeM_ok {T : pv_T} {x w d : Nat} {K : Nat → Nat} {l : List Nat} (hx : x < 7) (hK5 : K x ≤ 5) (hK : T.1 101 x = nI (K x)) (hw : w ≤ 2) (hT : T.1 94 9 = nI w) (hl : okN l) (hd : d ≤ 1) (h1 : ∀ i, i < l.length → T.1 105 (6 * x + i) = nI (96 + l.getD i 0)) (h2 : T.1 105 (42 + x) = nI l.length) (h3 : T.1 105 (49 + x) = nI d) : ∃ T', f156_comeOne (nI x) T = some T' ∧ (∀ i, i < (comeOne K w x l d).1.length → T'.1 105 (6 * x + i) = nI (96 + (comeOne K w x l d).1.getD i 0)) ∧ T'.1 105 (42 + x) = nI (comeOne K w x l d).1.length ∧ T'.1 105 (49 + x) = nI (comeOne K w x l d).2 ∧ (∀ c, c ≠ 105 → T'.1 c = T.1 c) ∧ ∀ j, j ≠ 42 + x → j ≠ 49 + x → (j < 6 * x ∨ 6 * x + 6 ≤ j) → T'.1 105 j = T.1 105 j := by
  have h6 := hl.1
  unfold f156_comeOne
  rw [rd_nI (by omega), hK]
  simp only [bs]
  rw [nI49, rd_nI (by omega), h3]
  simp only [bs]
  unfold comeOne
  by_cases hs : K x = 4 ∧ d = 0
  · rw [if_pos hs, hs.1, hs.2, if_pos (show nI 4 = (4:Int32) by decide), if_pos (show nI 0 = (0:Int32) by decide)]
    simp only [bs]
    rw [if_neg (show ¬ (1:Int32) = 0 by decide)]
    simp only [bs]
    rw [wm_nI (by omega)]
    simp only [bs]
    rw [if_neg (show ¬ (1:Int32) = 0 by decide)]
    refine ⟨_, rfl, fun i hi => ?_, ?_, ?_, fun c hc => ?_, fun j j1 j2 j3 => ?_⟩
    · show pv_up T.1 105 (49 + x) _ 105 _ = _
      rw [up_nj (by omega)]
      exact h1 i hi
    · show pv_up T.1 105 (49 + x) _ 105 _ = _
      rw [up_nj (by omega)]
      exact h2
    · show pv_up T.1 105 (49 + x) _ 105 _ = _
      rw [up_at]
      rfl
    · show pv_up T.1 105 (49 + x) _ c = _
      rw [up_ne hc]
    · show pv_up T.1 105 (49 + x) _ 105 j = _
      rw [up_nj j2]
  · have ht : ((if nI (K x) = 4 then if nI d = 0 then some (1:Int32) else some 0 else some 0) : Option Int32) = some 0 := by
      by_cases h4 : K x = 4
      · rw [if_pos (by rw [h4]; decide), if_neg (nI_ne0 (by omega) (by omega))]
      · rw [if_neg (show ¬ nI (K x) = (4:Int32) from fun q => h4 ((nI_eq (by omega) (by omega)).mp (show nI (K x) = nI 4 from q)))]
    rw [ht, if_neg hs]
    simp only [bs]
    rw [if_pos True.intro]
    simp only [bs]
    rw [wm_nI (by omega)]
    simp only [bs]
    rw [if_pos True.intro]
    unfold f142_lenOf
    rw [nI42, rd_nI (by omega)]
    simp only [bs]
    rw [up_nj (show 42 + x ≠ 49 + x by omega), h2]
    by_cases he : l = []
    · subst he
      rw [if_pos (show nI [].length ≤ (0:Int32) by decide)]
      simp only [wearA_nil]
      refine ⟨_, rfl, fun i hi => by simp at hi, ?_, ?_, fun c hc => ?_, fun j j1 j2 j3 => ?_⟩
      · show pv_up T.1 105 (49 + x) _ 105 _ = _
        rw [up_nj (by omega)]
        exact h2
      · show pv_up T.1 105 (49 + x) _ 105 _ = _
        rw [up_at]
        rfl
      · show pv_up T.1 105 (49 + x) _ c = _
        rw [up_ne hc]
      · show pv_up T.1 105 (49 + x) _ 105 j = _
        rw [up_nj j2]
    · have h0 : 0 < l.length := List.length_pos_iff.mpr he
      rw [if_neg (nI_nle h0 (by omega)), nI6m]
      obtain ⟨T', g1, g2, g3, g4⟩ := wearM_ok (T := (pv_up T.1 105 (49 + x) 0, T.2)) (c := 105) (o := 6 * x) (w := w) (N := 78) hl he hw (by
        show pv_up T.1 105 (49 + x) 0 94 9 = _
        rw [up_ne (by decide)]
        exact hT) rfl (by omega) (by omega) (fun i hi => by
        show pv_up T.1 105 (49 + x) 0 105 (6 * x + i) = _
        rw [up_nj (by omega)]
        exact h1 i hi)
      rw [g1]
      simp only [bs]
      rw [wm_nI (by omega)]
      simp only [bs]
      refine ⟨_, rfl, fun i hi => ?_, ?_, ?_, fun c hc => ?_, fun j j1 j2 j3 => ?_⟩
      · show pv_up T'.1 105 (42 + x) _ 105 _ = _
        rw [wearA_len] at hi
        rw [up_nj (by omega)]
        exact g2 i hi
      · show pv_up T'.1 105 (42 + x) _ 105 _ = _
        rw [up_at, wearA_len]
      · show pv_up T'.1 105 (42 + x) _ 105 _ = _
        rw [up_nj (by omega), g4 _ (by omega)]
        show pv_up T.1 105 (49 + x) 0 105 (49 + x) = _
        rw [up_at]
        rfl
      · show pv_up T'.1 105 (42 + x) _ c = _
        rw [up_ne hc, g3 c hc]
        show pv_up T.1 105 (49 + x) 0 c = _
        rw [up_ne hc]
      · show pv_up T'.1 105 (42 + x) _ 105 j = _
        rw [up_nj j1, g4 j (by omega)]
        show pv_up T.1 105 (49 + x) 0 105 j = _
        rw [up_nj j2]
