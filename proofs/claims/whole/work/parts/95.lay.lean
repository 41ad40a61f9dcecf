/-! ORDER: what is found is laid -/
theorem layM_loop {T : pv_T} {to z : Nat} (hto : to < 6) (hz : z ≤ 6) : ∃ v T', pv_lq (f189_layBest_b1 (nI to) (nI z)) 20000 ((0:Int32), T) = some (v, T') ∧ (∀ j, j < z → T'.1 97 (40 * to + j) = T.1 114 j) ∧ (∀ j, (j < 40 * to ∨ 40 * to + z ≤ j) → T'.1 97 j = T.1 97 j) ∧ ∀ c, c ≠ 97 → T'.1 c = T.1 c := by
  obtain ⟨e, h1, h2⟩ := lq_inv (B := f189_layBest_b1 (nI to) (nI z)) (P := fun i st => st.1 = nI i ∧ (∀ j, j < i → st.2.1 97 (40 * to + j) = T.1 114 j) ∧ (∀ j, (j < 40 * to ∨ 40 * to + i ≤ j) → st.2.1 97 j = T.1 97 j) ∧ ∀ c, c ≠ 97 → st.2.1 c = T.1 c) (Q := fun st => (∀ j, j < z → st.2.1 97 (40 * to + j) = T.1 114 j) ∧ (∀ j, (j < 40 * to ∨ 40 * to + z ≤ j) → st.2.1 97 j = T.1 97 j) ∧ ∀ c, c ≠ 97 → st.2.1 c = T.1 c) z (fun i st hi hP => by
    obtain ⟨v, U⟩ := st
    obtain ⟨p1, p2, p3, p4⟩ := hP
    simp only at p1 p2 p3 p4
    subst p1
    unfold f189_layBest_b1 f124_setRow
    simp only
    rw [if_neg (nI_ge hi (by omega)), rd_nI (by omega), p4 114 (by decide), ix40]
    simp only [bs]
    rw [wm_nI (by omega), nI_1]
    simp only [bs]
    refine ⟨_, rfl, rfl, fun j hj => ?_, fun j hj => ?_, fun c hc => ?_⟩
    · simp only
      by_cases e : j = i
      · subst e; rw [up_at]
      · rw [up_nj (by omega)]; exact p2 j (by omega)
    · simp only
      rw [up_nj (by omega)]; exact p3 j (by omega)
    · simp only
      rw [up_ne hc]; exact p4 c hc) (fun st hP => by
    obtain ⟨v, U⟩ := st
    obtain ⟨p1, p2, p3, p4⟩ := hP
    simp only at p1 p2 p3 p4
    subst p1
    unfold f189_layBest_b1
    simp only
    rw [if_pos (nI_le (by omega) (by omega))]
    exact ⟨_, rfl, p2, p3, p4⟩) ((0:Int32), T) ⟨nI_0.symm, fun j hj => by omega, fun j hj => rfl, fun c hc => rfl⟩
  obtain ⟨v, U⟩ := e
  exact ⟨v, U, h1, h2⟩
theorem layFewest {s : pv_F} {T : pv_T} {to z : Nat} {o : Option Nat} (h : Inv s T) (hto : to < 6) (hz : z ≤ 6) (hB : bR o z s T) : ∃ v s' T', f109_fewestInto (nI to) (nI z) s = some (v, s') ∧ f189_layBest (nI to) (nI z) T = some (v, T') ∧ Inv s' T' := by
  unfold f109_fewestInto f189_layBest
  match o, hB with
  | none, hB =>
    rw [hB.1, hB.2, if_pos rfl, if_pos rfl]
    exact ⟨_, _, _, rfl, rfl, h⟩
  | some f, hB =>
    obtain ⟨b1, b2, b3, b4⟩ := hB
    rw [b2, b3, if_neg (show ¬ nI f = (1000:Int32) from fun q => by have := (nI_eq (b := 1000) (by omega) (by omega)).mp q; omega), if_neg (show ¬ nI f = (1048576:Int32) from fun q => by have := (nI_eq (b := 1048576) (by omega) (by omega)).mp q; omega), ra_r hto]
    simp only [bs]
    obtain ⟨s1, r1, r2, r3, r4, r5⟩ := renew_ok (s := s) (c := 74 + 2 * to) (v := 0) (an_r hto) (show z ≤ 40 by omega) (by omega)
    rw [r1]
    simp only [bs]
    obtain ⟨s2, c1, c2, c3⟩ := cy_ex (s := s1) (a := 43) (za := 6) (b := 74 + 2 * to + 1) (zb := pv_an (74 + 2 * to + 1)) (n := z) (z := nI z) rfl hz (by rw [an_r hto]; omega) (by omega)
    rw [c1]
    simp only [bs]
    obtain ⟨T1, m1, m2, m3, m4, m5, m6, -⟩ := rowM_ok (T := T) hto (show z ≤ 40 by omega)
    rw [m1]
    simp only [bs]
    obtain ⟨v, T2, l1, l2, l3, l4⟩ := layM_loop (T := T1) hto hz
    rw [l1]
    simp only [bs]
    rw [c3 40 (by omega), r5 40 (by omega) (by omega), b2, l4 94 (by decide), m6 94 (by decide) (by decide), b3]
    have F : ∀ a, a ≠ 74 + 2 * to → a ≠ 75 + 2 * to → s2 a = s a := fun a a1 a2 => by rw [c3 a (by omega), r5 a a1 (by omega)]
    have G : ∀ c, c ≠ 96 → c ≠ 97 → T2.1 c = T.1 c := fun c d1 d2 => by rw [l4 c d2, m6 c d1 d2]
    obtain ⟨i1, i2, i3, i4⟩ := h
    refine ⟨_, _, _, rfl, rfl, i1.frame (F 0 (by omega) (by omega)) (F 73 (by omega) (by omega)) (G 94 (by decide) (by decide)) (G 95 (by decide) (by decide)), i2.set hto (Or.inr ⟨?_, z, by omega, ?_, ?_, fun i hi => ?_⟩) (fun a _ _ a3 a4 => F a a3 a4) (fun q hq hqr => ?_) (fun q i hq hqr hi => ?_), i3.frame (fun a a1 a2 => F a (by omega) (by omega)) (G 99 (by decide) (by decide)) (G 100 (by decide) (by decide)), i4.frame (fun a a1 a2 => F a (by omega) (by omega)) (fun a ha => G a (by omega) (by omega)) (by rw [G 94 (by decide) (by decide)]) (by rw [G 94 (by decide) (by decide)])⟩
    · rw [c3 (74 + 2 * to) (by omega)]; exact r2
    · rw [c3 (74 + 2 * to) (by omega)]; exact r3
    · rw [l4 96 (by decide)]; exact m2
    · simp only
      have := c2 i hi
      rw [show 74 + 2 * to + 1 = 75 + 2 * to by omega] at this
      rw [this, r5 43 (by omega) (by omega), b4 i hi, l2 i hi, m6 114 (by decide) (by decide)]
    · rw [l4 96 (by decide)]; exact m3 q hqr
    · rw [l3 (40 * q + i) (by omega)]; exact m5 q i hqr hi
theorem op29 : OP29 Inv := by
  intro a c s T h
  obtain ⟨n, K, A, hn, hF, hC, hM, hR⟩ := h.2.2.2.view
  obtain ⟨w, hw, hwC, hwM⟩ := h.way_
  unfold f83_order f190_order
  rcases pk_ix a (n := 6) (by omega) with ha | ha | ⟨r, hr, rfl⟩
  · rw [(noRow (Or.inl ha)).1, noRowM T (Or.inl ha)]
    rcases pk_ix c (n := 6) (by omega) with hc | hc | ⟨to, hto, rfl⟩
    · rw [(noRow (Or.inl hc)).2]
      exact ⟨-1, s, T, rfl, rfl, h⟩
    · rw [(noRow (Or.inr hc)).2]
      exact ⟨-1, s, T, rfl, rfl, h⟩
    · rw [isRowM_in hto]
      exact ⟨-1, s, T, rfl, rfl, h⟩
  · rw [(noRow (Or.inr ha)).1, noRowM T (Or.inr ha)]
    rcases pk_ix c (n := 6) (by omega) with hc | hc | ⟨to, hto, rfl⟩
    · rw [(noRow (Or.inl hc)).2]
      exact ⟨-1, s, T, rfl, rfl, h⟩
    · rw [(noRow (Or.inr hc)).2]
      exact ⟨-1, s, T, rfl, rfl, h⟩
    · rw [isRowM_in hto]
      exact ⟨-1, s, T, rfl, rfl, h⟩
  rw [isRowC_in hr]
  simp only [bs]
  rw [if_neg (show ¬ (1:Int32) = 0 by decide)]
  rcases pk_ix c (n := 6) (by omega) with hc | hc | ⟨to, hto, rfl⟩
  · rw [(noRow (Or.inl hc)).1, (noRow (Or.inl hc)).2]
    exact ⟨-1, s, T, rfl, rfl, h⟩
  · rw [(noRow (Or.inr hc)).1, (noRow (Or.inr hc)).2]
    exact ⟨-1, s, T, rfl, rfl, h⟩
  rw [isRowC_in hto, isRowM_in hto]
  simp only [bs]
  rw [if_neg (show ¬ (1:Int32) = 0 by decide), if_neg (show ¬ (1:Int32) = 0 by decide), ra_r hr]
  simp only [bs]
  rcases callsAsk h hn hC.1 hM.1 hr (most := 6) (by omega) with ⟨f, f1, f2, f3, f4⟩ | ⟨z, B, X, z1, z2, z3, z4, -⟩
  · have f3' : f108_callsFinding (74 + 2 * r) (6:Int32) s = some (nI f) := f3
    have f4' : f183_askedCalls (nI r) (6:Int32) T = some (-3, fndM T f) := f4
    rw [f3', f4']
    simp only [bs]
    rw [if_neg (nI_ne0 f1 (by omega)), find_ok f f2, if_neg (show ¬ (0:Int32) ≤ -3 by decide)]
    exact ⟨_, _, _, rfl, rfl, h.fnd f1 f2⟩
  have z2' : f108_callsFinding (74 + 2 * r) (6:Int32) s = some 0 := z2
  have z3' : f183_askedCalls (nI r) (6:Int32) T = some (0, T) := z3
  rw [z2', z3']
  simp only [bs, pv_pm]
  rw [if_pos True.intro, if_pos (show (0:Int32) ≤ 0 by decide), hwC]
  obtain ⟨s1, e1, e2, e3, -, e6, -, -, -, e5⟩ := from_ok hn hC (nI w)
  rw [e1]
  simp only [bs]
  have hM1 : MR (pv_up T.1 94 30 1048576, T.2) n K A := hM.up (by decide) (by decide) (by decide)
  rw [missed_ok hn hM1]
  simp only [bs]
  have hM2 : MR (pv_up (pv_up T.1 94 30 1048576) 94 31 (nI (misN A n)), T.2) n K A := hM1.up (by decide) (by decide) (by decide)
  have G94 : ∀ j, j ≠ 30 → j ≠ 31 → pv_up (pv_up T.1 94 30 1048576) 94 31 (nI (misN A n)) 94 j = T.1 94 j := fun j j1 j2 => by rw [up_nj j2, up_nj j1]
  have G : ∀ c, c ≠ 94 → pv_up (pv_up T.1 94 30 1048576) 94 31 (nI (misN A n)) c = T.1 c := fun c c1 => by rw [up_ne c1, up_ne c1]
  have H30 : pv_up (pv_up T.1 94 30 1048576) 94 31 (nI (misN A n)) 94 30 = 1048576 := by rw [up_nj (by decide), up_at]
  have H31 : pv_up (pv_up T.1 94 30 1048576) 94 31 (nI (misN A n)) 94 31 = nI (misN A n) := up_at _ _ _ _
  generalize pv_up (pv_up T.1 94 30 1048576) 94 31 (nI (misN A n)) = F2 at hM2 G94 G H30 H31 ⊢
  have hcal : Calls s1 (F2, T.2) n r z B X := z4.frame (e5 _ (by omega) (by omega)) (e5 _ (by omega) (by omega)) (G 96 (by decide)) (G 97 (by decide))
  obtain ⟨s2, T2, o', g1, g2, g3, g4, g5⟩ := orderSim (n := n) (r := r) (z := z) (w := w) (a0 := misN A n) (K := K) (B := B) (X := X) hr z1 hw z 8 0 0 (fun _ => false) A s1 (F2, T.2) none (by omega) (by omega) ⟨⟨hF, hM2, by show F2 94 9 = _; rw [G94 9 (by decide) (by decide)]; exact hwM, H31, by omega, by omega⟩, e2, e3, fun j hj => by omega⟩ hcal ⟨e6, H30⟩ True.intro
  have hu0 : nI (bits (fun _ => false) z) = 0 := by rw [bits_0 (fun x hx => rfl)]; exact nI_0
  have hl0 : ((1:Int32) <<< (nI z &&& 31)) - (1:Int32) = nI (bits (fun _ => !false) z) := by
    rw [one_shl (by omega), show bits (fun _ => !false) z = 2 ^ z - 1 from bits_all z]
    exact pk_sub (b := 1) (Nat.two_pow_pos z)
  rw [hu0, nI_0] at g1
  rw [nI_0] at g2
  have h96 : F2 96 r = nI z := hcal.2.2.1
  rw [rd_nI hr, h96]
  simp only [bs]
  rw [hl0, g2, g1]
  simp only [bs]
  rw [rd_nI hr, g4.2.1 96 (by decide) (by decide) (by decide) (by decide) (by decide) (by decide), hcal.2.2.1]
  simp only [bs]
  rw [g4.1.1 (74 + 2 * r) (by omega) (by omega) (by omega) (by omega) (by omega), hcal.2.1]
  have hI : Inv s2 T2 := h.aside (fun a ha => by rw [g4.1.1 a (by omega) (by omega) (by omega) (by omega) (by omega), e5 a (by omega) (by omega)]) (fun c hc => by rw [g4.2.1 c (by omega) (by omega) (by omega) (by omega) (by omega) (by omega)]; exact G c (by omega)) (fun i hi => by rw [g5 i hi]; show F2 105 i = _; rw [G 105 (by decide)]) (fun j hj => by rw [g4.2.2.1 j (by omega) (by omega) (by omega)]; exact G94 j (by omega) (by omega))
  obtain ⟨v, s3, T3, y1, y2, y3⟩ := layFewest hI hto z1 g3
  rw [y1, y2]
  exact ⟨_, _, _, rfl, rfl, y3⟩
