/-! HELD, COULD: class and model side by side -/
theorem branchKeep {k : Nat} {v : Int32} {S S2 S3 : pv_F} {U U2 U3 U4 : pv_T} (hk : k < 6) (hS2 : ∀ c, (c < 49 + 4 * k ∨ 52 + 4 * k < c) → S2 c = pv_up S 42 k v c) (hU2 : ∀ c, c ≠ 105 → U2.1 c = pv_up U.1 113 k v c) (h3 : sKeep (k + 1) S2 S3 U2 U3) (hU4 : ∀ c, c ≠ 105 → U4.1 c = U3.1 c) : sKeep k S S3 U U4 := by
  obtain ⟨⟨a1, a2, a3⟩, a4, a5, a6, a7⟩ := h3
  refine ⟨⟨fun c c1 c2 c3 c4 c5 => ?_, ?_, fun j hj => ?_⟩, fun c c1 c2 c3 c4 c5 c6 => ?_, fun j j1 j2 j3 => ?_, fun j hj => ?_, fun j hj => ?_⟩
  · rw [a1 c c1 c2 c3 c4 (by omega), hS2 c (by omega), up_ne c2]
  · rw [a2, hS2 40 (by omega), up_ne (by decide)]
  · rw [a3 j (by omega), hS2 42 (by omega), up_nj (by omega)]
  · rw [hU4 c c2, a4 c c1 c2 c3 c4 c5 c6, hU2 c c2, up_ne c4]
  · rw [hU4 94 (by decide), a5 j j1 j2 j3, hU2 94 (by decide), up_ne (by decide)]
  · rw [hU4 112 (by decide), a6 j (by omega), hU2 112 (by decide), up_ne (by decide)]
  · rw [hU4 113 (by decide), a7 j (by omega), hU2 113 (by decide), up_nj (by omega)]
def Sets (s : pv_F) (T : pv_T) (r z : Nat) : Prop := s (74 + 2 * r) 2 = nI z ∧ T.1 96 r = nI z ∧ ∀ i, i < z → s (75 + 2 * r) i = T.1 97 (40 * r + i)
theorem Sets.frame {s s' : pv_F} {T T' : pv_T} {r z : Nat} (h : Sets s T r z) (h1 : s' (74 + 2 * r) = s (74 + 2 * r)) (h2 : s' (75 + 2 * r) = s (75 + 2 * r)) (h3 : T'.1 96 = T.1 96) (h4 : T'.1 97 = T.1 97) : Sets s' T' r z := by
  unfold Sets
  rw [h1, h2, h3, h4]
  exact h
theorem hRes.frame {s s' : pv_F} {T T' : pv_T} (h : hRes s T) (h1 : s' 40 = s 40) (h2 : s' 44 = s 44) (h3 : T'.1 94 = T.1 94) (h4 : T'.1 115 = T.1 115) : hRes s' T' := by
  unfold hRes
  rw [h1, h2, h3, h4]
  exact h
theorem heldSim {n r z w b : Nat} {K : Nat → Nat} (hr : r < 6) (hz : z ≤ 4) (hw : w ≤ 2) (hb : b < n) : ∀ (d f k : Nat) (A : TS) (t : Nat → Nat) (s : pv_F) (T : pv_T), k + d = z → d < f → okT n K A → FC s (45 + 4 * k) n K A.1 A.2.1 → MR T n K A → s 40 4 = nI w → T.1 94 9 = nI w → Sets s T r z → (∀ j, j < k → s 42 j = nI (t j) ∧ T.1 113 j = nI (t j)) → hRes s T → ∃ s' T', f39_seekCalled f (nI b) (74 + 2 * r) (nI k) s = some s' ∧ f196_heldOn f (nI b) (nI r) (nI k) (nI (codeT t k)) T = some T' ∧ hRes s' T' ∧ sKeep k s s' T T' ∧ ∀ i, i < 78 → T'.1 105 i = T.1 105 i := by
  intro d
  induction d with
  | zero =>
    intro f k A t s T hk hf hF hC hM h4 h9 hS ht hR
    obtain ⟨f, rfl⟩ : ∃ g, f = g + 1 := ⟨f - 1, by omega⟩
    obtain rfl : k = z := by omega
    show ∃ s' T', f39_seekCalled_s (f39_seekCalled f) (nI b) (74 + 2 * r) (nI k) s = some s' ∧ f196_heldOn_s (f196_heldOn f) (nI b) (nI r) (nI k) (nI (codeT t k)) T = some T' ∧ _
    unfold f39_seekCalled_s f196_heldOn_s
    rw [hS.1, if_pos (nI_le (by omega) (by omega)), rd_nI hr, hS.2.1]
    simp only [bs]
    rw [if_pos True.intro]
    obtain ⟨s1, a1, a2, a3, a4, a5, a6, a7⟩ := holdC hz (fun j hj => (ht j hj).1)
    rw [a1]
    have hif : ((if T.1 94 32 = 0 then some (nI (codeT t k)) else some (T.1 94 33)) : Option Int32) = some (if s 40 7 = 0 then nI (codeT t k) else s 40 8) := by
      rw [hR.1, hR.2.1]
      by_cases e : s 40 7 = 0
      · rw [if_pos e, if_pos e]
      · rw [if_neg e, if_neg e]
    rw [hif]
    simp only [bs, pv_pm]
    obtain ⟨v, T1, b1, b2, b3, b4⟩ := holdM (T := (pv_up (pv_up T.1 94 33 (if s 40 7 = 0 then nI (codeT t k) else s 40 8)) 94 32 (pv_up T.1 94 33 (if s 40 7 = 0 then nI (codeT t k) else s 40 8) 94 32 + 1), T.2)) (rec := f196_heldOn f) (t := t) hz (fun j hj => by
      simp only
      rw [up_ne (by decide), up_ne (by decide)]; exact (ht j hj).2)
    rw [b1]
    simp only [bs]
    have b2' : ∀ j, j < k → T1.1 115 j = T.1 115 j ||| ((1:Int32) <<< (nI (t j) &&& 31)) := fun j hj => by
      have := b2 j hj
      simp only at this
      rw [up_ne (by decide), up_ne (by decide)] at this
      exact this
    have b3' : ∀ j, k ≤ j → T1.1 115 j = T.1 115 j := fun j hj => by
      have := b3 j hj
      simp only at this
      rw [up_ne (by decide), up_ne (by decide)] at this
      exact this
    have b4' : ∀ c, c ≠ 94 → c ≠ 115 → T1.1 c = T.1 c := fun c c1 c2 => by
      have := b4 c c2
      simp only at this
      rw [up_ne c1, up_ne c1] at this
      exact this
    have b5 : T1.1 94 = pv_up (pv_up T.1 94 33 (if s 40 7 = 0 then nI (codeT t k) else s 40 8)) 94 32 (pv_up T.1 94 33 (if s 40 7 = 0 then nI (codeT t k) else s 40 8) 94 32 + 1) 94 := b4 94 (by decide)
    refine ⟨s1, T1, rfl, rfl, ⟨?_, ?_, fun j hj => ?_⟩, ⟨⟨fun c c1 c2 c3 c4 c5 => a7 c c1 c4, a6, fun j hj => by rw [a7 42 (by decide) (by decide)]⟩, fun c c1 c2 c3 c4 c5 c6 => b4' c c1 c6, fun j j1 j2 j3 => ?_, fun j hj => by rw [b4' 112 (by decide) (by decide)], fun j hj => by rw [b4' 113 (by decide) (by decide)]⟩, fun i hi => by rw [b4' 105 (by decide) (by decide)]⟩
    · rw [b5, up_at, up_nj (by decide), a2, hR.1]
    · rw [b5, up_nj (by decide), up_at, a3]
    · by_cases e : j < k
      · rw [a4 j e, b2' j e, hR.2.2 j hj]
      · rw [a5 j (by omega), b3' j (by omega)]; exact hR.2.2 j hj
    · rw [b5, up_nj j2, up_nj j3]
  | succ d ih =>
    intro f k A t s T hk hf hF hC hM h4 h9 hS ht hR
    obtain ⟨f, rfl⟩ : ∃ g, f = g + 1 := ⟨f - 1, by omega⟩
    have hn := hF.1
    show ∃ s' T', f39_seekCalled_s (f39_seekCalled f) (nI b) (74 + 2 * r) (nI k) s = some s' ∧ f196_heldOn_s (f196_heldOn f) (nI b) (nI r) (nI k) (nI (codeT t k)) T = some T' ∧ _
    unfold f39_seekCalled_s f196_heldOn_s
    rw [hS.1, if_neg (nI_ge (by omega) (by omega)), if_pos (show nI k < (4:Int32) from nI_lt (b := 4) (by omega) (by omega)), rd_nI hr, hS.2.1]
    simp only [bs]
    rw [if_neg (fun q => by have := (nI_eq (by omega) (by omega)).mp q; omega)]
    obtain ⟨T1, k1, k2, k3, k4⟩ := saveM T (show k < 6 by omega)
    rw [k1]
    simp only [bs]
    obtain ⟨o, o', g1, g2, g3⟩ := two_loops (lq_eqs (f39_seekCalled_b1 (f39_seekCalled f) (nI b) (74 + 2 * r) (nI k))) (lq_eqs (f196_heldOn_b2 (f196_heldOn f) (nI b) (nI r) (nI k) (nI (codeT t k)))) (fun x (a : Int32 × pv_F) (c : Int32 × pv_T) => a.1 = nI x ∧ c.1 = nI x ∧ hRes a.2 c.2 ∧ sKeep k s a.2 T c.2 ∧ (∀ i, i < 78 → c.2.1 105 i = T.1 105 i) ∧ ∀ i, i < 78 → c.2.1 112 (78 * k + i) = T.1 105 i) (fun (a : Int32 × pv_F) (c : Int32 × pv_T) => hRes a.2 c.2 ∧ sKeep k s a.2 T c.2 ∧ ∀ i, i < 78 → c.2.1 105 i = T.1 105 i) n (fun x a c hx hP => by
      obtain ⟨v, S⟩ := a
      obtain ⟨u, U⟩ := c
      obtain ⟨p1, p2, p3, p4, p5, p6⟩ := hP
      simp only at p1 p2 p3 p4 p5 p6
      subst p1 p2
      obtain ⟨⟨a1, a2, a3⟩, a4, a5, a6, a7⟩ := p4
      have hCS : FC S (45 + 4 * k) n K A.1 A.2.1 := hC.frame (fun c hc => a1 c (by omega) (by omega) (by omega) (by omega) (by omega))
      have hMU : MR U n K A := hM.same hF (a5 8 (by decide) (by decide) (by decide)) (a4 101 (by decide) (by decide) (by decide) (by decide) (by decide) (by decide)) p5
      have hSU : Sets S U r z := hS.frame (a1 _ (by omega) (by omega) (by omega) (by omega) (by omega)) (a1 _ (by omega) (by omega) (by omega) (by omega) (by omega)) (a4 96 (by decide) (by decide) (by decide) (by decide) (by decide) (by decide)) (a4 97 (by decide) (by decide) (by decide) (by decide) (by decide) (by decide))
      have p4 : sKeep k s S T U := ⟨⟨a1, a2, a3⟩, a4, a5, a6, a7⟩
      unfold f39_seekCalled_b1 f196_heldOn_b2
      simp only
      rw [ra_l (show k < 7 by omega)]
      simp only [bs]
      rw [hCS.1, hMU.1]
      by_cases e : x = n
      · subst e
        rw [if_pos (nI_le (by omega) (by omega)), if_pos (nI_le (by omega) (by omega))]
        exact Or.inr ⟨_, _, rfl, rfl, p3, p4, p5⟩
      have hxn : x < n := by omega
      rw [if_neg (nI_ge hxn (by omega)), if_neg (nI_ge hxn (by omega)), mayCall_ok hF hMU hb hxn, nI_1 x]
      refine Or.inl ⟨hxn, ?_⟩
      rcases comersQ hF hCS hb hxn with ⟨q1, q2⟩ | ⟨q1, q2, q3⟩
      · rw [q1, q2]
        simp only [bs]
        rw [if_pos True.intro, if_pos (show (if false = true then (1:Int32) else 0) = 0 from rfl)]
        simp only [bs]
        exact ⟨_, _, rfl, rfl, rfl, rfl, p3, p4, p5, p6⟩
      · rw [q1, q2]
        simp only [bs]
        rw [if_neg q3, if_neg (show ¬ (if True then (1:Int32) else 0) = 0 by decide), comersM_ok hF hMU hb hxn q1, an_r hr, rd_nI (by omega), rowAt_ok hr (by omega), show 74 + 2 * r + 1 = 75 + 2 * r by omega, hSU.2.2 k (by omega)]
        simp only [bs]
        by_cases hv : nI (bits (comeB K n A.1 b x) n) = U.1 97 (40 * r + k)
        · rw [if_pos hv, if_pos hv, wr_nI (by omega), wm_nI (by omega)]
          simp only [bs]
          obtain ⟨S2, c1, c2, c3⟩ := goOn_ok (s := pv_up S 42 k (nI x)) (x := x) (w := w) (show k < 6 by omega) hF (hCS.frame (fun c hc => up_ne (by omega))) (by rw [up_ne (by decide), a2]; exact h4) hb hw
          obtain ⟨U2, d1, d2, d3⟩ := doCall_ok (T := (pv_up U.1 113 k (nI x), U.2)) hF (hMU.up (by decide) (by decide) (by omega)) hb hxn q1 hw (by
            show pv_up U.1 113 k (nI x) 94 9 = _
            rw [up_ne (by decide), a5 9 (by decide) (by decide) (by decide)]; exact h9)
          rw [c1, d1]
          simp only [bs]
          have hS2 : ∀ c, c ≠ 42 → (c < 49 + 4 * k ∨ 52 + 4 * k < c) → S2 c = S c := fun c e1 e2 => by rw [c3 c e2, up_ne e1]
          have hU2 : ∀ c, c ≠ 105 → c ≠ 113 → U2.1 c = U.1 c := fun c e1 e2 => by
            rw [d3 c e1]
            show pv_up U.1 113 k (nI x) c = _
            rw [up_ne e2]
          have hcode : codeT (fun j => if j = k then x else t j) (k + 1) = 7 * codeT t k + x := by
            rw [codeT, if_pos rfl, codeT_congr (t' := t) k (fun j hj => if_neg (by omega))]
          obtain ⟨S3, U3, i1, i2, i3, i4, i5⟩ := ih f (k + 1) (callA K n b x w A) (fun j => if j = k then x else t j) S2 U2 (by omega) (by omega) (okT_call hF hb hxn q1 hw) c2 d2 (by rw [hS2 40 (by omega) (by omega), a2]; exact h4) (by rw [hU2 94 (by decide) (by decide), a5 9 (by decide) (by decide) (by decide)]; exact h9) (hSU.frame (hS2 _ (by omega) (by omega)) (hS2 _ (by omega) (by omega)) (hU2 96 (by decide) (by decide)) (hU2 97 (by decide) (by decide))) (fun j hj => by
            rw [c3 42 (by omega), d3 113 (by decide)]
            show pv_up S 42 k (nI x) 42 j = _ ∧ pv_up U.1 113 k (nI x) 113 j = _
            by_cases ej : j = k
            · subst ej; rw [up_at, up_at, if_pos rfl]; exact ⟨rfl, rfl⟩
            · rw [up_nj ej, up_nj ej, if_neg ej, a3 j (by omega), a7 j (by omega)]; exact ht j (by omega)) (p3.frame (hS2 40 (by omega) (by omega)) (hS2 44 (by omega) (by omega)) (hU2 94 (by decide) (by decide)) (hU2 115 (by decide) (by decide)))
          rw [hcode] at i2
          rw [show (7:Int32) * nI (codeT t k) = nI (7 * codeT t k) from pk_mul 7 _, nI_add, nI_1, i1, i2]
          simp only [bs]
          obtain ⟨U4, l1, l2, l3⟩ := loadM U3 (show k < 6 by omega)
          rw [l1]
          simp only [bs]
          have h112 : ∀ i, i < 78 → U3.1 112 (78 * k + i) = T.1 105 i := fun i hi => by
            rw [i4.2.2.2.1 (78 * k + i) (by omega), hU2 112 (by decide) (by decide)]; exact p6 i hi
          refine ⟨_, _, rfl, rfl, rfl, rfl, i3.frame rfl rfl (l3 94 (by decide)) (l3 115 (by decide)), p4.trans (branchKeep (by omega) c3 (fun c hc => d3 c hc) i4 l3), fun i hi => ?_, fun i hi => ?_⟩
          · simp only
            rw [l2 i hi]; exact h112 i hi
          · simp only
            rw [l3 112 (by decide)]; exact h112 i hi
        · rw [if_neg hv, if_neg hv]
          simp only [bs]
          exact ⟨_, _, rfl, rfl, rfl, rfl, p3, p4, p5, p6⟩) ((0:Int32), s) ((0:Int32), T1) ⟨nI_0.symm, nI_0.symm, hR.frame rfl rfl (k3 94 (by decide)) (k3 115 (by decide)), ⟨⟨fun _ _ _ _ _ _ => rfl, rfl, fun _ _ => rfl⟩, fun c c1 c2 c3 c4 c5 c6 => k3 c c3, fun j j1 j2 j3 => by rw [k3 94 (by decide)], fun j hj => k4 j hj, fun j hj => by rw [k3 113 (by decide)]⟩, fun i hi => by rw [k3 105 (by decide)], k2⟩ (by omega)
    rw [g1, g2]
    obtain ⟨v, S⟩ := o
    obtain ⟨u, U⟩ := o'
    exact ⟨S, U, rfl, rfl, g3.1, g3.2.1, g3.2.2⟩
