/-! SPARE -/
def grw (x : Nat) (A : TS) : Nat → TS
  | 0 => A
  | i + 1 => mendA x 1 0 (grw x A i)
theorem grw_len (x : Nat) (A : TS) : ∀ i, ((grw x A i).1 x).length = (A.1 x).length + i := by
  intro i
  induction i with
  | zero => rfl
  | succ i ih =>
    show (if x = x then (grw x A i).1 x ++ [1] else (grw x A i).1 x).length = _
    rw [if_pos rfl, List.length_append, ih]
    rfl
theorem grw_mis (x n : Nat) (A : TS) : ∀ i, misN (grw x A i) n = misN A n := by
  intro i
  induction i with
  | zero => rfl
  | succ i ih => exact ih
theorem okT_grw {n x : Nat} {K : Nat → Nat} {A : TS} (hF : okT n K A) : ∀ i, (A.1 x).length + i ≤ 6 → okT n K (grw x A i) := by
  intro i
  induction i with
  | zero => intro _; exact hF
  | succ i ih =>
    intro hi
    have h1 := ih (by omega)
    have h2 := grw_len x A i
    refine ⟨hF.1, fun y hy => ⟨(hF.2 y hy).1, ?_, (h1.2 y hy).2.2⟩⟩
    show okN (if y = x then (grw x A i).1 y ++ [1] else (grw x A i).1 y)
    by_cases e : y = x
    · subst e
      rw [if_pos rfl]
      exact okN_app (h1.2 y hy).2.1 (by omega) (by omega) (by omega)
    · rw [if_neg e]
      exact (h1.2 y hy).2.1
theorem nI_same {a m : Nat} (h : m < 2 ^ 31) : nI (a + m) = nI a ↔ m = 0 := by
  refine ⟨fun q => ?_, fun q => by rw [q, Nat.add_zero]⟩
  have h1 : nI (a + m) - nI a = nI m := by rw [pk_sub (Nat.le_add_right _ _), Nat.add_sub_cancel_left]
  rw [q] at h1
  have h2 : nI a - nI a = nI 0 := by rw [pk_sub (Nat.le_refl _), Nat.sub_self]
  exact (nI_eq h (by omega)).mp (h1.symm.trans h2)
theorem growC {s : pv_F} {n c x k : Nat} {K : Nat → Nat} {A : TS} (hF : okT n K A) (hC : FC s 45 n K A.1 A.2.1) (hk : k = 0 ∨ (x < n ∧ (A.1 x).length + k ≤ 6)) (hk6 : k ≤ 6) : ∃ s', pv_lq (f110_goesWell_b1 c (nI x) (nI k)) 20000 ((0:Int32), s) = some (nI k, s') ∧ FC s' 45 n K (grw x A k).1 (grw x A k).2.1 ∧ ∀ a, a ≠ 47 → s' a = s a := by
  have h7 := hF.1
  obtain ⟨e, h1, h2⟩ := lq_inv (B := f110_goesWell_b1 c (nI x) (nI k)) (P := fun i st => st.1 = nI i ∧ FC st.2 45 n K (grw x A i).1 (grw x A i).2.1 ∧ ∀ a, a ≠ 47 → st.2 a = s a) (Q := fun st => st.1 = nI k ∧ FC st.2 45 n K (grw x A k).1 (grw x A k).2.1 ∧ ∀ a, a ≠ 47 → st.2 a = s a) k (fun i st hi hP => by
    obtain ⟨v, S⟩ := st
    obtain ⟨p1, p2, p3⟩ := hP
    simp only at p1 p2 p3
    subst p1
    have hk' : x < n ∧ (A.1 x).length + k ≤ 6 := by
      rcases hk with q | q
      · omega
      · exact q
    have hFi := okT_grw (x := x) hF i (by omega)
    have hlen := grw_len x A i
    unfold f110_goesWell_b1
    simp only
    rw [if_neg (nI_ge hi (by omega)), rd_nI (by omega), (p2.2 x hk'.1).2.1]
    simp only [bs]
    rw [show f221_with (nI (pack ((grw x A i).1 x))) (1:Int32) = some (nI (pack ((grw x A i).1 x ++ [1]))) from with_ok (a := 1) (hFi.2 x hk'.1).2.1 (by omega) (by omega), nI_1]
    simp only [bs]
    rw [wr_nI (by omega)]
    simp only [bs]
    refine ⟨_, rfl, rfl, ⟨?_, fun y hy => ⟨?_, ?_, ?_⟩⟩, fun a ha => ?_⟩
    · simp only
      rw [up_ne (by decide)]; exact p2.1
    · simp only
      rw [up_ne (by decide)]; exact (p2.2 y hy).1
    · simp only
      show pv_up S 47 x _ 47 y = nI (pack (if y = x then (grw x A i).1 y ++ [1] else (grw x A i).1 y))
      by_cases e : y = x
      · subst e
        rw [up_at, if_pos rfl]
      · rw [up_nj e, if_neg e]; exact (p2.2 y hy).2.1
    · simp only
      rw [up_ne (by decide)]; exact (p2.2 y hy).2.2
    · simp only
      rw [up_ne ha]; exact p3 a ha) (fun st hP => by
    obtain ⟨v, S⟩ := st
    obtain ⟨p1, p2, p3⟩ := hP
    simp only at p1 p2 p3
    subst p1
    unfold f110_goesWell_b1
    simp only
    rw [if_pos (nI_le (by omega) (by omega))]
    exact ⟨_, rfl, rfl, p2, p3⟩) ((0:Int32), s) ⟨nI_0.symm, hC, fun _ _ => rfl⟩
  obtain ⟨v, S⟩ := e
  obtain ⟨q1, q2, q3⟩ := h2
  simp only at q1 q2 q3
  subst q1
  exact ⟨S, h1, q2, q3⟩
theorem growM {T : pv_T} {n x k : Nat} {v : Int32} {K : Nat → Nat} {A : TS} (hF : okT n K A) (hM : MR T n K A) (hk : k = 0 ∨ (x < n ∧ (A.1 x).length + k ≤ 6)) (hk6 : k ≤ 6) : ∃ T', pv_lq (f193_isSpared_b1 v (nI x) (nI k)) 20000 ((0:Int32), T) = some (nI k, T') ∧ MR T' n K (grw x A k) ∧ ∀ c, c ≠ 105 → T'.1 c = T.1 c := by
  have h7 := hF.1
  obtain ⟨e, h1, h2⟩ := lq_inv (B := f193_isSpared_b1 v (nI x) (nI k)) (P := fun i st => st.1 = nI i ∧ MR st.2 n K (grw x A i) ∧ ∀ c, c ≠ 105 → st.2.1 c = T.1 c) (Q := fun st => st.1 = nI k ∧ MR st.2 n K (grw x A k) ∧ ∀ c, c ≠ 105 → st.2.1 c = T.1 c) k (fun i st hi hP => by
    obtain ⟨v, U⟩ := st
    obtain ⟨p1, p2, p3⟩ := hP
    simp only at p1 p2 p3
    subst p1
    have hk' : x < n ∧ (A.1 x).length + k ≤ 6 := by
      rcases hk with q | q
      · omega
      · exact q
    have hFi := okT_grw (x := x) hF i (by omega)
    have hlen := grw_len x A i
    generalize hG : grw x A i = G at *
    have hst : grw x A (i + 1) = mendA x 1 0 G := by rw [← hG]; rfl
    unfold f193_isSpared_b1
    simp only
    rw [if_neg (nI_ge hi (by omega)), lenOf_ok h7 p2 hk'.1, nI6m]
    simp only [bs]
    rw [nI_add, wm_nI (by omega)]
    simp only [bs]
    rw [nI42, rd_nI (by omega), up_nj (by omega), p2.len hk'.1]
    simp only [bs]
    rw [wm_nI (by omega), nI_1, nI_1]
    simp only [bs]
    refine ⟨_, rfl, rfl, ⟨?_, fun y hy => ?_, fun y hy => ?_, ?_⟩, fun c hc => ?_⟩
    · simp only
      rw [up_ne (by decide), up_ne (by decide)]; exact p2.1
    · simp only
      rw [up_ne (by decide), up_ne (by decide)]; exact p2.2.1 y hy
    · have hy6 := (hFi.2 y hy).2.1.1
      obtain ⟨r1, r2, r3, r4, r5, r6⟩ := p2.2.2.1 y hy
      simp only [Nat.zero_add] at r1 r2 r3 r4 r5 r6 ⊢
      rw [hst]
      unfold mendA
      simp only
      by_cases e : y = x
      · subst e
        rw [if_pos rfl]
        refine ⟨fun j hj => ?_, ?_, ?_, ?_, ?_, ?_⟩
        · rw [List.length_append] at hj
          have hj' : j < (G.1 y).length + 1 := hj
          rw [up_nj (by omega), getD_app]
          by_cases ej : j = (G.1 y).length
          · subst ej
            rw [up_at, if_neg (by omega), if_pos rfl]
            rfl
          · rw [up_nj (by omega), if_pos (by omega)]
            exact r1 j (by omega)
        · rw [up_at, List.length_append]; rfl
        · rw [up_nj (by omega), up_nj (by omega)]; exact r3
        · rw [up_nj (by omega), up_nj (by omega)]; exact r4
        · rw [up_nj (by omega), up_nj (by omega)]; exact r5
        · rw [up_nj (by omega), up_nj (by omega)]; exact r6
      · rw [if_neg e]
        refine ⟨fun j hj => ?_, ?_, ?_, ?_, ?_, ?_⟩
        · rw [up_nj (by omega), up_nj (by omega)]; exact r1 j hj
        · rw [up_nj (by omega), up_nj (by omega)]; exact r2
        · rw [up_nj (by omega), up_nj (by omega)]; exact r3
        · rw [up_nj (by omega), up_nj (by omega)]; exact r4
        · rw [up_nj (by omega), up_nj (by omega)]; exact r5
        · rw [up_nj (by omega), up_nj (by omega)]; exact r6
    · have := p2.2.2.2
      simp only
      rw [up_nj (by omega), up_nj (by omega), hst]
      exact this
    · simp only
      rw [up_ne hc, up_ne hc]; exact p3 c hc) (fun st hP => by
    obtain ⟨v, U⟩ := st
    obtain ⟨p1, p2, p3⟩ := hP
    simp only at p1 p2 p3
    subst p1
    unfold f193_isSpared_b1
    simp only
    rw [if_pos (nI_le (by omega) (by omega))]
    exact ⟨_, rfl, rfl, p2, p3⟩) ((0:Int32), T) ⟨nI_0.symm, hM, fun _ _ => rfl⟩
  obtain ⟨v, U⟩ := e
  obtain ⟨q1, q2, q3⟩ := h2
  simp only at q1 q2 q3
  subst q1
  exact ⟨U, h1, q2, q3⟩
theorem spare_ok {s : pv_F} {T : pv_T} {n r z w : Nat} {K : Nat → Nat} {A : TS} {B X : Nat → Nat} (hr : r < 6) (hF : okT n K A) (hC : FC s 8 n K A.1 A.2.1) (hM : MR T n K A) (hR : Calls s T n r z B X) (hw : w ≤ 2) (h6 : s 0 6 = nI w) (hT : T.1 94 9 = nI w) {x k : Nat} (hk : k = 0 ∨ (x < n ∧ (A.1 x).length + k ≤ 6)) (hk6 : k ≤ 6) : ∃ v s' T', f110_goesWell (74 + 2 * r) (nI x) (nI k) s = some (v, s') ∧ f193_isSpared (nI r) (nI x) (nI k) T = some (v, T') ∧ (v = 0 ∨ v = 1) ∧ (∀ c, c < 40 ∨ 48 < c → s' c = s c) ∧ (∀ c, c ≠ 105 → c ≠ 110 → T'.1 c = T.1 c) ∧ ∀ i, i < 78 → T'.1 105 i = T.1 105 i := by
  have hn := hF.1
  unfold f110_goesWell f193_isSpared
  rw [h6]
  obtain ⟨s1, e1, e2, e3, e4, -, -, -, -, e5⟩ := from_ok hn hC (nI w)
  rw [e1]
  obtain ⟨T1, k1, k2, k3⟩ := putAside_ok T
  rw [k1]
  simp only [bs]
  have hM1 : MR T1 n K A := hM.frame (by rw [k3 94 (by decide)]) (k3 101 (by decide)) (k3 105 (by decide))
  obtain ⟨s2, a1, a2, a3⟩ := growC (c := 74 + 2 * r) hF e2 hk hk6
  obtain ⟨T2, b1, b2, b3⟩ := growM (v := nI r) hF hM1 hk hk6
  have hFk : okT n K (grw x A k) := by
    rcases hk with q | q
    · subst q; exact hF
    · exact okT_grw hF k q.2
  rw [a1, b1]
  simp only [bs]
  have hcal : Calls s2 T2 n r z B X := hR.frame (by rw [a3 _ (by omega), e5 _ (by omega) (by omega)]) (by rw [a3 _ (by omega), e5 _ (by omega) (by omega)]) (by rw [b3 96 (by decide), k3 96 (by decide)]) (by rw [b3 97 (by decide), k3 97 (by decide)])
  obtain ⟨i, m, s3, T3, A', q0, q1, q2, q3, q4, q5, q6, q7, q8⟩ := judge_ok hr hFk a2 b2 hcal hw (by rw [a3 40 (by decide)]; exact e3) (by rw [a3 40 (by decide)]; exact e4) (by rw [b3 94 (by decide), k3 94 (by decide)]; exact hT)
  have hz40 := hR.1
  rw [missed_ok hn b2, q1]
  simp only [bs]
  rw [q2]
  simp only [bs]
  rw [rd_nI hr, q8 96 (by decide), hcal.2.2.1, q7 (74 + 2 * r) (by omega) (by omega) (by omega), hcal.2.1]
  simp only [bs, q3]
  rw [missed_ok hn q5, q6]
  simp only [bs]
  obtain ⟨T4, l1, l2, l3⟩ := comeBack_ok T3
  have fr1 : ∀ c, c < 40 ∨ 48 < c → s3 c = s c := fun c hc => by rw [q7 c (by omega) (by omega) (by omega), a3 c (by omega), e5 c (by omega) (by omega)]
  have fr2 : ∀ c, c ≠ 105 → c ≠ 110 → T4.1 c = T.1 c := fun c c1 c2 => by rw [l3 c c1, q8 c c1, b3 c c1, k3 c c2]
  have fr3 : ∀ i, i < 78 → T4.1 105 i = T.1 105 i := fun i hi => by rw [l2 i hi, q8 110 (by decide), b3 110 (by decide), k2 i hi]
  by_cases hiz : i = z
  · subst hiz
    rw [if_pos rfl, if_pos rfl]
    by_cases hm : m = 0
    · subst hm
      rw [if_pos nI_0, if_pos ((nI_same (by omega)).mpr rfl)]
      simp only [bs]
      rw [l1]
      simp only [bs, pv_bl1]
      exact ⟨_, _, _, rfl, rfl, Or.inr rfl, fr1, fr2, fr3⟩
    · rw [if_neg (nI_ne0 (by omega) (by omega)), if_neg (fun q => hm ((nI_same (by omega)).mp q))]
      simp only [bs]
      rw [l1]
      simp only [bs, pv_bl0]
      exact ⟨_, _, _, rfl, rfl, Or.inl rfl, fr1, fr2, fr3⟩
  · rw [if_neg (fun q => hiz ((nI_eq (by omega) (by omega)).mp q)), if_neg (fun q => hiz ((nI_eq (by omega) (by omega)).mp q))]
    simp only [bs]
    rw [l1]
    simp only [bs, pv_bl0]
    exact ⟨_, _, _, rfl, rfl, Or.inl rfl, fr1, fr2, fr3⟩
def spJ (s : pv_F) (T : pv_T) (s' : pv_F) (T' : pv_T) : Prop := (∀ c, c < 40 ∨ 48 < c → s' c = s c) ∧ (∀ c, c ≠ 105 → c ≠ 110 → T'.1 c = T.1 c) ∧ ∀ i, i < 78 → T'.1 105 i = T.1 105 i
theorem spJ.trans {s s' s2 : pv_F} {T T' T2 : pv_T} (h : spJ s T s' T') (h2 : spJ s' T' s2 T2) : spJ s T s2 T2 := ⟨fun c hc => (h2.1 c hc).trans (h.1 c hc), fun c c1 c2 => (h2.2.1 c c1 c2).trans (h.2.1 c c1 c2), fun i hi => (h2.2.2 i hi).trans (h.2.2 i hi)⟩
theorem spJ.inv {s s' : pv_F} {T T' : pv_T} (j : spJ s T s' T') (h : Inv s T) : Inv s' T' := h.aside (fun a ha => j.1 a (by omega)) (fun c hc => j.2.1 c (by omega) (by omega)) j.2.2 (fun i hi => by rw [j.2.1 94 (by decide) (by decide)])
theorem op31 : OP31 Inv := by
  intro a s T h
  obtain ⟨n, K, A, hn, hF, hC, hM, hR⟩ := h.2.2.2.view
  obtain ⟨w, hw, hwC, hwM⟩ := h.way_
  unfold f85_spare f194_spare
  rcases pk_ix a (n := 6) (by omega) with ha | ha | ⟨r, hr, rfl⟩
  · rw [(noRow (Or.inl ha)).1, noRowM T (Or.inl ha)]
    exact ⟨-1, s, T, rfl, rfl, h⟩
  · rw [(noRow (Or.inr ha)).1, noRowM T (Or.inr ha)]
    exact ⟨-1, s, T, rfl, rfl, h⟩
  rw [isRowC_in hr]
  simp only [bs]
  rw [if_neg (show ¬ (1:Int32) = 0 by decide), ra_r hr]
  simp only [bs]
  rcases callsAsk h hn hC.1 hM.1 hr (most := 40) (by omega) with ⟨f, f1, f2, f3, f4⟩ | ⟨z, B, X, z1, z2, z3, z4, -⟩
  · have f3' : f108_callsFinding (74 + 2 * r) (40:Int32) s = some (nI f) := f3
    have f4' : f183_askedCalls (nI r) (40:Int32) T = some (-3, fndM T f) := f4
    rw [f3', f4']
    simp only [bs]
    rw [if_neg (nI_ne0 f1 (by omega)), find_ok f f2, if_neg (show ¬ (0:Int32) ≤ -3 by decide)]
    exact ⟨_, _, _, rfl, rfl, h.fnd f1 f2⟩
  have z2' : f108_callsFinding (74 + 2 * r) (40:Int32) s = some 0 := z2
  have z3' : f183_askedCalls (nI r) (40:Int32) T = some (0, T) := z3
  rw [z2', z3']
  simp only [bs]
  rw [if_pos True.intro, if_pos (show (0:Int32) ≤ 0 by decide)]
  have hgo : ∀ s' T', spJ s T s' T' → ∀ x k, k = 0 ∨ (x < n ∧ (A.1 x).length + k ≤ 6) → k ≤ 6 → ∃ v s2 T2, f110_goesWell (74 + 2 * r) (nI x) (nI k) s' = some (v, s2) ∧ f193_isSpared (nI r) (nI x) (nI k) T' = some (v, T2) ∧ (v = 0 ∨ v = 1) ∧ spJ s T s2 T2 := fun s' T' j x k hk hk6 => by
    obtain ⟨v, s2, T2, q1, q2, q3, q4, q5, q6⟩ := spare_ok hr hF (hC.frame (fun a ha => j.1 a (by omega))) (T := T') ⟨by rw [j.2.1 94 (by decide) (by decide)]; exact hM.1, fun y hy => by rw [j.2.1 101 (by decide) (by decide)]; exact hM.2.1 y hy, hM.2.2.copy hF (fun i hi => by rw [Nat.zero_add]; exact j.2.2 i hi)⟩ (z4.frame (j.1 _ (by omega)) (j.1 _ (by omega)) (j.2.1 96 (by decide) (by decide)) (j.2.1 97 (by decide) (by decide))) hw (by rw [j.1 0 (by omega)]; exact hwC) (by rw [j.2.1 94 (by decide) (by decide)]; exact hwM) hk hk6
    exact ⟨v, s2, T2, q1, q2, q3, j.trans ⟨q4, q5, q6⟩⟩
  have htell : ∀ s' T' (x : Int32), spJ s T s' T' → Inv (pv_up s' 0 8 x) (pv_up T'.1 94 2 x, T'.2) := fun s' T' x j => (j.inv h).tell x
  obtain ⟨v, s1, T1, y1, y2, y3, y4⟩ := hgo s T ⟨fun _ _ => rfl, fun _ _ _ => rfl, fun _ _ => rfl⟩ 0 0 (Or.inl rfl) (by omega)
  rw [nI_0] at y1 y2
  rw [y1, y2]
  simp only [bs]
  rcases y3 with rfl | rfl
  · rw [if_pos rfl, if_pos rfl]
    obtain ⟨o, o', g1, g2, g3⟩ := two_loops (lp_eqs (f85_spare_b1 (nI r))) (lp_eqs (f194_spare_b1 (nI r))) (fun i (a : Int32 × pv_F) (b : Int32 × pv_T) => a.1 = nI (i + 1) ∧ b.1 = nI (i + 1) ∧ spJ s T a.2 b.2) (fun o o' => (∃ a b S U, o = .inl (a, S) ∧ o' = .inl (b, U) ∧ spJ s T S U) ∨ ∃ v S U, o = .inr (v, S) ∧ o' = .inr (v, U) ∧ Inv S U) 6 (fun i a b hi hP => by
      obtain ⟨v3, S⟩ := a
      obtain ⟨u3, U⟩ := b
      obtain ⟨p1, p2, p3⟩ := hP
      simp only at p1 p2 p3
      subst p1 p2
      unfold f85_spare_b1 f194_spare_b1
      simp only
      by_cases e : i = 6
      · subst e
        rw [if_pos (by decide), if_pos (by decide)]
        exact Or.inr ⟨_, _, rfl, rfl, Or.inl ⟨_, _, S, U, rfl, rfl, p3⟩⟩
      rw [if_neg (show ¬ (6:Int32) < nI (i + 1) from nI_nlt (a := 6) (by omega) (by omega)), if_neg (show ¬ (6:Int32) < nI (i + 1) from nI_nlt (a := 6) (by omega) (by omega))]
      obtain ⟨o, o', g1, g2, g3⟩ := two_loops (lp_eqs (f85_spare_b2 (nI r) (nI (i + 1)))) (lp_eqs (f194_spare_b2 (nI r) (nI (i + 1)))) (fun j (a : Int32 × pv_F) (b : Int32 × pv_T) => a.1 = nI j ∧ b.1 = nI j ∧ spJ s T a.2 b.2) (fun o o' => (∃ a b S U, o = .inl (a, S) ∧ o' = .inl (b, U) ∧ spJ s T S U) ∨ ∃ v S U, o = .inr (v, S) ∧ o' = .inr (v, U) ∧ Inv S U) n (fun j a b hj hP => by
        obtain ⟨v4, S⟩ := a
        obtain ⟨u4, U⟩ := b
        obtain ⟨p1, p2, p3⟩ := hP
        simp only at p1 p2 p3
        subst p1 p2
        unfold f85_spare_b2 f194_spare_b2
        simp only
        have hC' : FC S 8 n K A.1 A.2.1 := hC.frame (fun a ha => p3.1 a (by omega))
        have hM' : MR U n K A := ⟨by rw [p3.2.1 94 (by decide) (by decide)]; exact hM.1, fun y hy => by rw [p3.2.1 101 (by decide) (by decide)]; exact hM.2.1 y hy, hM.2.2.copy hF (fun i hi => by rw [Nat.zero_add]; exact p3.2.2 i hi)⟩
        rw [hC'.1, hM'.1]
        by_cases e : j = n
        · subst e
          rw [if_pos (nI_le (by omega) (by omega)), if_pos (nI_le (by omega) (by omega))]
          exact Or.inr ⟨_, _, rfl, rfl, Or.inl ⟨_, _, S, U, rfl, rfl, p3⟩⟩
        have hjn : j < n := by omega
        obtain ⟨h5, hN, -⟩ := hF.2 j hjn
        have h6 := hN.1
        rw [if_neg (nI_ge hjn (by omega)), if_neg (nI_ge hjn (by omega)), canGrow_ok hF hC' hjn (by omega), rd_nI (by omega), hM'.2.1 j hjn, lenOf_ok hn hM' hjn]
        simp only [bs]
        rw [nI_1, nI_add]
        by_cases h3 : K j = 3
        · rw [if_neg (show ¬ (K j ≠ 3 ∧ (A.1 j).length + (i + 1) ≤ 6) from fun q => q.1 h3), if_pos rfl, if_pos (by rw [h3]; decide)]
          exact Or.inl ⟨by omega, _, _, rfl, rfl, rfl, rfl, p3⟩
        rw [if_neg (show ¬ nI (K j) = (3:Int32) from fun q => h3 ((nI_eq (by omega) (by omega)).mp (show nI (K j) = nI 3 from q)))]
        by_cases hl : 6 < (A.1 j).length + (i + 1)
        · rw [if_neg (show ¬ (K j ≠ 3 ∧ (A.1 j).length + (i + 1) ≤ 6) from fun q => by omega), if_pos rfl, if_pos (show (6:Int32) < nI ((A.1 j).length + (i + 1)) from nI_lt (a := 6) hl (by omega))]
          exact Or.inl ⟨by omega, _, _, rfl, rfl, rfl, rfl, p3⟩
        rw [if_pos (show K j ≠ 3 ∧ (A.1 j).length + (i + 1) ≤ 6 from ⟨h3, by omega⟩), if_neg (show ¬ (1:Int32) = 0 by decide), if_neg (show ¬ (6:Int32) < nI ((A.1 j).length + (i + 1)) from nI_nlt (a := 6) (by omega) (by omega)), ra_r hr]
        simp only [bs]
        obtain ⟨v, s2, T2, y1, y2, y3, y4⟩ := hgo S U p3 j (i + 1) (Or.inr ⟨hjn, by omega⟩) (by omega)
        rw [y1, y2]
        simp only [bs]
        rcases y3 with rfl | rfl
        · rw [if_pos rfl, if_pos rfl]
          exact Or.inl ⟨by omega, _, _, rfl, rfl, rfl, rfl, y4⟩
        · rw [if_neg (show ¬ (1:Int32) = 0 by decide), if_neg (show ¬ (1:Int32) = 0 by decide)]
          unfold f116_ask
          simp only [bs, pv_pf, pv_pm]
          exact Or.inr ⟨_, _, rfl, rfl, Or.inr ⟨_, _, _, rfl, rfl, htell _ _ _ y4⟩⟩) ((0:Int32), S) ((0:Int32), U) ⟨nI_0.symm, nI_0.symm, p3⟩ (by omega)
      rw [g1, g2]
      simp only [bs]
      rcases g3 with ⟨a, b, S', U', rfl, rfl, j'⟩ | ⟨v, S', U', rfl, rfl, j'⟩
      · exact Or.inl ⟨by omega, _, _, rfl, rfl, by simp only; rw [nI_1], by simp only; rw [nI_1], j'⟩
      · exact Or.inr ⟨_, _, rfl, rfl, Or.inr ⟨v, S', U', rfl, rfl, j'⟩⟩) ((1:Int32), s1) ((1:Int32), T1) ⟨rfl, rfl, y4⟩ (by omega)
    rw [g1, g2]
    simp only [bs]
    rcases g3 with ⟨a, b, S', U', rfl, rfl, j'⟩ | ⟨v, S', U', rfl, rfl, j'⟩
    · exact ⟨_, _, _, rfl, rfl, j'.inv h⟩
    · exact ⟨_, _, _, rfl, rfl, j'⟩
  · rw [if_neg (show ¬ (1:Int32) = 0 by decide), if_neg (show ¬ (1:Int32) = 0 by decide)]
    unfold f116_ask
    simp only [bs, pv_pf, pv_pm]
    exact ⟨_, _, _, rfl, rfl, htell _ _ _ y4⟩
