/-! SEARCHES: levels of the class, depths of the model -/
theorem ra_l {k : Nat} (h : k < 7) : pv_ra 41 7 (nI k) = some (45 + 4 * k) := by
  match k, h with
  | 0, _ => rfl
  | 1, _ => rfl
  | 2, _ => rfl
  | 3, _ => rfl
  | 4, _ => rfl
  | 5, _ => rfl
  | 6, _ => rfl
theorem goOn_ok {s : pv_F} {n k b x w : Nat} {K : Nat → Nat} {A : TS} (hk : k < 6) (hF : okT n K A) (hC : FC s (45 + 4 * k) n K A.1 A.2.1) (h4 : s 40 4 = nI w) (hb : b < n) (hw : w ≤ 2) : ∃ s', f35_goOn (nI k) (nI b) (nI (bits (comeB K n A.1 b x) n)) s = some s' ∧ FC s' (45 + 4 * (k + 1)) n K (callA K n b x w A).1 (callA K n b x w A).2.1 ∧ ∀ c, (c < 49 + 4 * k ∨ 52 + 4 * k < c) → s' c = s c := by
  unfold f35_goOn
  rw [nI_1, ra_l (show k + 1 < 7 by omega), ra_l (show k < 7 by omega)]
  simp only [bs]
  obtain ⟨s1, h1, h2, h3⟩ := take_ok (o := 45 + 4 * (k + 1)) hF.1 hC (by omega)
  rw [h1]
  simp only [bs]
  rw [h3 40 (by omega) (by omega) (by omega) (by omega), h4]
  obtain ⟨s2, g1, g2, g3⟩ := wearCall (x := x) hF h2 hb hw
  rw [g1]
  exact ⟨s2, rfl, g2, fun c hc => by rw [g3 c (by omega) (by omega), h3 c (by omega) (by omega) (by omega) (by omega)]⟩
theorem saveM (T : pv_T) {k : Nat} (hk : k < 6) : ∃ T', f162_copies 105 (0:Int32) 112 ((78:Int32) * nI k) T = some T' ∧ (∀ i, i < 78 → T'.1 112 (78 * k + i) = T.1 105 i) ∧ (∀ c, c ≠ 112 → T'.1 c = T.1 c) ∧ ∀ j, j < 78 * k → T'.1 112 j = T.1 112 j := by
  rw [← nI_0, show (78:Int32) * nI k = nI (78 * k) from pk_mul 78 k]
  obtain ⟨T', h1, h2, h3, h4⟩ := copies_ok (T := T) (a := 105) (b := 112) (p := 0) (q := 78 * k) (N := 78) (M := 468) (by decide) rfl rfl (by omega) (by omega) (by omega) (by omega)
  exact ⟨T', h1, fun i hi => by have := h2 i hi; rwa [Nat.zero_add] at this, h3, fun j hj => h4 j (Or.inl hj)⟩
theorem loadM (T : pv_T) {k : Nat} (hk : k < 6) : ∃ T', f162_copies 112 ((78:Int32) * nI k) 105 (0:Int32) T = some T' ∧ (∀ i, i < 78 → T'.1 105 i = T.1 112 (78 * k + i)) ∧ ∀ c, c ≠ 105 → T'.1 c = T.1 c := by
  rw [← nI_0, show (78:Int32) * nI k = nI (78 * k) from pk_mul 78 k]
  obtain ⟨T', h1, h2, h3, h4⟩ := copies_ok (T := T) (a := 112) (b := 105) (p := 78 * k) (q := 0) (N := 468) (M := 78) (by decide) rfl rfl (by omega) (by omega) (by omega) (by omega)
  exact ⟨T', h1, fun i hi => by have := h2 i hi; rwa [Nat.zero_add] at this, h3⟩
theorem MR.same {T T' : pv_T} {n : Nat} {K : Nat → Nat} {A : TS} (h : MR T n K A) (hF : okT n K A) (h8 : T'.1 94 8 = T.1 94 8) (h1 : T'.1 101 = T.1 101) (h2 : ∀ i, i < 78 → T'.1 105 i = T.1 105 i) : MR T' n K A := ⟨by rw [h8]; exact h.1, fun y hy => by rw [h1]; exact h.2.1 y hy, h.2.2.copy hF (fun i hi => by rw [Nat.zero_add]; exact h2 i hi)⟩
/-! HELD, COULD -/
def codeT (t : Nat → Nat) : Nat → Nat
  | 0 => 0
  | k + 1 => 7 * codeT t k + t k
theorem codeT_congr {t t' : Nat → Nat} : ∀ k, (∀ j, j < k → t j = t' j) → codeT t k = codeT t' k := by
  intro k
  induction k with
  | zero => intro _; rfl
  | succ k ih =>
    intro h
    rw [codeT, codeT, ih (fun j hj => h j (by omega)), h k (by omega)]
/-- what was found -/
def hRes (s : pv_F) (T : pv_T) : Prop := T.1 94 32 = s 40 7 ∧ T.1 94 33 = s 40 8 ∧ ∀ j, j < 4 → s 44 j = T.1 115 j
theorem holdC {s : pv_F} {k : Nat} {t : Nat → Nat} (hk : k ≤ 4) (ht : ∀ j, j < k → s 42 j = nI (t j)) : ∃ s', f40_holdTrial (nI k) s = some s' ∧ s' 40 7 = s 40 7 + 1 ∧ s' 40 8 = (if s 40 7 = 0 then nI (codeT t k) else s 40 8) ∧ (∀ j, j < k → s' 44 j = s 44 j ||| ((1:Int32) <<< (nI (t j) &&& 31))) ∧ (∀ j, k ≤ j → s' 44 j = s 44 j) ∧ s' 40 4 = s 40 4 ∧ ∀ c, c ≠ 40 → c ≠ 44 → s' c = s c := by
  unfold f40_holdTrial
  obtain ⟨e, h1, h2⟩ := lq_inv (B := f40_holdTrial_b1 (nI k)) (P := fun i st => st.1 = nI (codeT t i) ∧ st.2.1 = nI i ∧ (∀ j, j < i → st.2.2 44 j = s 44 j ||| ((1:Int32) <<< (nI (t j) &&& 31))) ∧ (∀ j, i ≤ j → st.2.2 44 j = s 44 j) ∧ ∀ c, c ≠ 44 → st.2.2 c = s c) (Q := fun st => st.1 = nI (codeT t k) ∧ (∀ j, j < k → st.2.2 44 j = s 44 j ||| ((1:Int32) <<< (nI (t j) &&& 31))) ∧ (∀ j, k ≤ j → st.2.2 44 j = s 44 j) ∧ ∀ c, c ≠ 44 → st.2.2 c = s c) k (fun i st hi hP => by
    obtain ⟨v2, v3, S⟩ := st
    obtain ⟨p1, p2, p3, p4, p5⟩ := hP
    simp only at p1 p2 p3 p4 p5
    subst p1 p2
    unfold f40_holdTrial_b1
    simp only
    rw [if_neg (nI_ge hi (by omega)), rd_nI (by omega), rd_nI (by omega), p4 i (by omega), p5 42 (by decide), ht i hi]
    simp only [bs]
    rw [wr_nI (by omega)]
    simp only [bs]
    rw [rd_nI (by omega), up_ne (by decide), p5 42 (by decide), ht i hi, nI_1, show (7:Int32) * nI (codeT t i) = nI (7 * codeT t i) from pk_mul 7 _]
    simp only [bs]
    rw [nI_add]
    refine ⟨_, rfl, rfl, rfl, fun j hj => ?_, fun j hj => ?_, fun c hc => ?_⟩
    · simp only
      by_cases e : j = i
      · subst e; rw [up_at]
      · rw [up_nj e]; exact p3 j (by omega)
    · simp only
      rw [up_nj (by omega)]; exact p4 j (by omega)
    · simp only
      rw [up_ne hc]; exact p5 c hc) (fun st hP => by
    obtain ⟨v2, v3, S⟩ := st
    obtain ⟨p1, p2, p3, p4, p5⟩ := hP
    simp only at p1 p2 p3 p4 p5
    subst p1 p2
    unfold f40_holdTrial_b1
    simp only
    rw [if_pos (nI_le (by omega) (by omega))]
    exact ⟨_, rfl, rfl, p3, p4, p5⟩) ((0:Int32), (0:Int32), s) ⟨nI_0.symm, nI_0.symm, fun j hj => by omega, fun j hj => rfl, fun c hc => rfl⟩
  rw [h1]
  obtain ⟨v2, v3, S⟩ := e
  obtain ⟨q1, q2, q3, q4⟩ := h2
  simp only at q1 q2 q3 q4
  subst q1
  simp only [bs, pv_pf]
  rw [q4 40 (by decide)]
  have hif : ((if s 40 7 = 0 then some (nI (codeT t k)) else some (s 40 8)) : Option Int32) = some (if s 40 7 = 0 then nI (codeT t k) else s 40 8) := by
    by_cases e : s 40 7 = 0
    · rw [if_pos e, if_pos e]
    · rw [if_neg e, if_neg e]
  rw [hif]
  simp only [bs]
  refine ⟨_, rfl, ?_, ?_, fun j hj => ?_, fun j hj => ?_, ?_, fun c c1 c2 => ?_⟩
  · rw [up_at, up_nj (by decide), q4 40 (by decide)]
  · rw [up_nj (by decide), up_at]
  · rw [up_ne (by decide), up_ne (by decide)]; exact q2 j hj
  · rw [up_ne (by decide), up_ne (by decide)]; exact q3 j hj
  · rw [up_nj (by decide), up_nj (by decide), q4 40 (by decide)]
  · rw [up_ne c1, up_ne c1]; exact q4 c c2
theorem holdM {T : pv_T} {rec : Int32 → Int32 → Int32 → Int32 → pv_T → Option pv_T} {k : Nat} {t : Nat → Nat} (hk : k ≤ 4) (ht : ∀ j, j < k → T.1 113 j = nI (t j)) : ∃ v T', pv_lq (f196_heldOn_b1 rec (nI k)) 20000 ((0:Int32), T) = some (v, T') ∧ (∀ j, j < k → T'.1 115 j = T.1 115 j ||| ((1:Int32) <<< (nI (t j) &&& 31))) ∧ (∀ j, k ≤ j → T'.1 115 j = T.1 115 j) ∧ ∀ c, c ≠ 115 → T'.1 c = T.1 c := by
  obtain ⟨e, h1, h2⟩ := lq_inv (B := f196_heldOn_b1 rec (nI k)) (P := fun i st => st.1 = nI i ∧ (∀ j, j < i → st.2.1 115 j = T.1 115 j ||| ((1:Int32) <<< (nI (t j) &&& 31))) ∧ (∀ j, i ≤ j → st.2.1 115 j = T.1 115 j) ∧ ∀ c, c ≠ 115 → st.2.1 c = T.1 c) (Q := fun st => (∀ j, j < k → st.2.1 115 j = T.1 115 j ||| ((1:Int32) <<< (nI (t j) &&& 31))) ∧ (∀ j, k ≤ j → st.2.1 115 j = T.1 115 j) ∧ ∀ c, c ≠ 115 → st.2.1 c = T.1 c) k (fun i st hi hP => by
    obtain ⟨v, U⟩ := st
    obtain ⟨p1, p2, p3, p4⟩ := hP
    simp only at p1 p2 p3 p4
    subst p1
    unfold f196_heldOn_b1
    simp only
    rw [if_neg (nI_ge hi (by omega)), rd_nI (by omega), rd_nI (by omega), p3 i (by omega), p4 113 (by decide), ht i hi]
    simp only [bs]
    rw [wm_nI (by omega), nI_1]
    simp only [bs]
    refine ⟨_, rfl, rfl, fun j hj => ?_, fun j hj => ?_, fun c hc => ?_⟩
    · simp only
      by_cases e : j = i
      · subst e; rw [up_at]
      · rw [up_nj e]; exact p2 j (by omega)
    · simp only
      rw [up_nj (by omega)]; exact p3 j (by omega)
    · simp only
      rw [up_ne hc]; exact p4 c hc) (fun st hP => by
    obtain ⟨v, U⟩ := st
    obtain ⟨p1, p2, p3, p4⟩ := hP
    simp only at p1 p2 p3 p4
    subst p1
    unfold f196_heldOn_b1
    simp only
    rw [if_pos (nI_le (by omega) (by omega))]
    exact ⟨_, rfl, p2, p3, p4⟩) ((0:Int32), T) ⟨nI_0.symm, fun j hj => by omega, fun j hj => rfl, fun c hc => rfl⟩
  obtain ⟨v, U⟩ := e
  exact ⟨v, U, h1, h2⟩
/-- what a search leaves: the class's levels up to k, the model's depths below k -/
def sKeep (k : Nat) (s s' : pv_F) (T T' : pv_T) : Prop := ((∀ c, c ≠ 40 → c ≠ 42 → c ≠ 43 → c ≠ 44 → (c < 49 + 4 * k ∨ 73 ≤ c) → s' c = s c) ∧ s' 40 4 = s 40 4 ∧ ∀ j, j < k → s' 42 j = s 42 j) ∧ (∀ c, c ≠ 94 → c ≠ 105 → c ≠ 112 → c ≠ 113 → c ≠ 114 → c ≠ 115 → T'.1 c = T.1 c) ∧ (∀ j, j ≠ 30 → j ≠ 32 → j ≠ 33 → T'.1 94 j = T.1 94 j) ∧ (∀ j, j < 78 * k → T'.1 112 j = T.1 112 j) ∧ ∀ j, j < k → T'.1 113 j = T.1 113 j
theorem sKeep.refl (k : Nat) (s : pv_F) (T : pv_T) : sKeep k s s T T := ⟨⟨fun _ _ _ _ _ _ => rfl, rfl, fun _ _ => rfl⟩, fun _ _ _ _ _ _ _ => rfl, fun _ _ _ _ => rfl, fun _ _ => rfl, fun _ _ => rfl⟩
theorem sKeep.trans {k : Nat} {s s' s2 : pv_F} {T T' T2 : pv_T} (h : sKeep k s s' T T') (g : sKeep k s' s2 T' T2) : sKeep k s s2 T T2 := ⟨⟨fun c c1 c2 c3 c4 c5 => (g.1.1 c c1 c2 c3 c4 c5).trans (h.1.1 c c1 c2 c3 c4 c5), g.1.2.1.trans h.1.2.1, fun j hj => (g.1.2.2 j hj).trans (h.1.2.2 j hj)⟩, fun c c1 c2 c3 c4 c5 c6 => (g.2.1 c c1 c2 c3 c4 c5 c6).trans (h.2.1 c c1 c2 c3 c4 c5 c6), fun j j1 j2 j3 => (g.2.2.1 j j1 j2 j3).trans (h.2.2.1 j j1 j2 j3), fun j hj => (g.2.2.2.1 j hj).trans (h.2.2.2.1 j hj), fun j hj => (g.2.2.2.2 j hj).trans (h.2.2.2.2 j hj)⟩
theorem sKeep.down {k : Nat} {s s' : pv_F} {T T' : pv_T} (h : sKeep (k + 1) s s' T T') : sKeep k s s' T T' := ⟨⟨fun c c1 c2 c3 c4 c5 => h.1.1 c c1 c2 c3 c4 (by omega), h.1.2.1, fun j hj => h.1.2.2 j (by omega)⟩, h.2.1, h.2.2.1, fun j hj => h.2.2.2.1 j (by omega), fun j hj => h.2.2.2.2 j (by omega)⟩
