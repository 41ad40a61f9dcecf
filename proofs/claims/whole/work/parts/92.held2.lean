/-! HELD, COULD: asked -/
def hG (n : Nat) (v : Int32) : Bool := decide (¬ v < 0) && decide (v < nI (2 ^ n))
theorem pow_128 {n : Nat} (hn : n ≤ 7) : 1 ≤ 2 ^ n ∧ 2 ^ n ≤ 128 := ⟨Nat.two_pow_pos n, Nat.pow_le_pow_right (n := 2) (by omega) hn⟩
theorem hG_ok {T : pv_T} {n : Nat} (h8 : T.1 94 8 = nI n) (hn : n ≤ 7) (v : Int32) : f114_in v (0:Int32) (((1:Int32) <<< ((T.1 94 8) &&& 31)) - (1:Int32)) = some (if hG n v then 1 else 0) := by
  obtain ⟨p1, p2⟩ := pow_128 hn
  rw [h8, one_shl (by omega), in_eq, show nI (2 ^ n) - (1:Int32) = nI (2 ^ n - 1) from pk_sub (b := 1) p1]
  unfold hG
  by_cases h0 : v < 0
  · rw [if_pos h0]; simp [h0]
  · rw [if_neg h0]
    obtain ⟨u, hu, rfl⟩ := nI_of h0
    by_cases h1 : u < 2 ^ n
    · rw [if_neg (nI_nlt (by omega) (by omega))]
      simp [h0, nI_lt h1 (by omega)]
    · rw [if_pos (nI_lt (by omega) hu)]
      simp [nI_nlt (show 2 ^ n ≤ u by omega) hu]
theorem clear4 (T : pv_T) (v1 v2 : Int32) : ∃ v T', pv_lq (f197_askedHeld_b2 v1 v2) 20000 ((0:Int32), T) = some (v, T') ∧ (∀ j, j < 4 → T'.1 115 j = 0) ∧ ∀ c, c ≠ 115 → T'.1 c = T.1 c := by
  obtain ⟨e, h1, h2⟩ := lq_inv (B := f197_askedHeld_b2 v1 v2) (P := fun i st => st.1 = nI i ∧ (∀ j, j < i → st.2.1 115 j = 0) ∧ ∀ c, c ≠ 115 → st.2.1 c = T.1 c) (Q := fun st => (∀ j, j < 4 → st.2.1 115 j = 0) ∧ ∀ c, c ≠ 115 → st.2.1 c = T.1 c) 4 (fun i st hi hP => by
    obtain ⟨v, U⟩ := st
    obtain ⟨p1, p2, p3⟩ := hP
    simp only at p1 p2 p3
    subst p1
    unfold f197_askedHeld_b2
    simp only
    rw [if_neg (show ¬ (4:Int32) ≤ nI i from nI_ge (b := 4) hi (by omega)), wm_nI (by omega), nI_1]
    simp only [bs]
    refine ⟨_, rfl, rfl, fun j hj => ?_, fun c hc => ?_⟩
    · simp only
      by_cases e : j = i
      · subst e; rw [up_at]
      · rw [up_nj e]; exact p2 j (by omega)
    · simp only
      rw [up_ne hc]; exact p3 c hc) (fun st hP => by
    obtain ⟨v, U⟩ := st
    obtain ⟨p1, p2, p3⟩ := hP
    simp only at p1 p2 p3
    subst p1
    unfold f197_askedHeld_b2
    simp only
    rw [if_pos (by decide)]
    exact ⟨_, rfl, p2, p3⟩) ((0:Int32), T) ⟨nI_0.symm, fun j hj => by omega, fun c hc => rfl⟩
  obtain ⟨v, U⟩ := e
  exact ⟨v, U, h1, h2⟩
theorem heldAsk {s : pv_F} {T : pv_T} {n : Nat} {K : Nat → Nat} {A : TS} {b r w : Nat} (h : Inv s T) (hF : okT n K A) (hC : FC s 8 n K A.1 A.2.1) (hM : MR T n K A) (hw : w ≤ 2) (hwM : T.1 94 9 = nI w) (hb : b < n) (h3 : K b ≠ 3) (hr : r < 6) : (∃ f, 1 ≤ f ∧ f < 6 ∧ f107_numbersFinding (74 + 2 * r) (4:Int32) (nI (2 ^ n)) s = some (nI f) ∧ f197_askedHeld (nI b) (nI r) T = some (-3, fndM T f)) ∨ ∃ z s1 s2 T2, z ≤ 4 ∧ s (74 + 2 * r) 2 = nI z ∧ T.1 96 r = nI z ∧ f107_numbersFinding (74 + 2 * r) (4:Int32) (nI (2 ^ n)) s = some 0 ∧ f33_from 8 (nI w) s = some s1 ∧ f39_seekCalled 8 (nI b) (74 + 2 * r) (0:Int32) s1 = some s2 ∧ f197_askedHeld (nI b) (nI r) T = some (0, T2) ∧ hRes s2 T2 ∧ (∀ c, c < 40 ∨ 73 ≤ c → s2 c = s c) ∧ (∀ c, c ≠ 94 → c ≠ 105 → c < 112 → T2.1 c = T.1 c) ∧ (∀ j, j ≠ 30 → j ≠ 32 → j ≠ 33 → T2.1 94 j = T.1 94 j) ∧ ∀ i, i < 78 → T2.1 105 i = T.1 105 i := by
  have hn := hF.1
  obtain ⟨p1, p2⟩ := pow_128 hn
  have h5 := (hF.2 b hb).1
  unfold f197_askedHeld
  rw [rd_nI (by omega), hM.2.1 b hb]
  simp only [bs]
  rw [if_neg (show ¬ nI (K b) = (3:Int32) from fun q => h3 ((nI_eq (by omega) (by omega)).mp (show nI (K b) = nI 3 from q)))]
  rcases h.2.1 r hr with ⟨q1, q2⟩ | ⟨q1, z, q2, q3, q4, q5⟩
  · refine Or.inl ⟨1, by omega, by omega, ?_, ?_⟩
    · unfold f107_numbersFinding
      rw [q1, if_pos rfl]; rfl
    · rw [asked_miss hr q2]; rfl
  rw [asked_there hr (by omega) q4]
  simp only [bs]
  rw [if_pos (show (0:Int32) ≤ 0 by decide), rd_nI hr, q4]
  simp only [bs]
  have q5 : ∀ i, i < z → s (75 + 2 * r) i = T.1 97 (40 * r + i) := q5
  have e75 : 74 + 2 * r + 1 = 75 + 2 * r := by omega
  by_cases hz : 4 < z
  · refine Or.inl ⟨5, by omega, by omega, ?_, ?_⟩
    · unfold f107_numbersFinding
      rw [q1, if_neg (show ¬ (1:Int32) = 0 by decide), q3, if_neg (show ¬ nI z ≤ (4:Int32) from nI_ge (a := 4) hz (by omega))]; rfl
    · rw [if_neg (show ¬ nI z ≤ (4:Int32) from nI_ge (a := 4) hz (by omega)), meet_ok 5 (by omega)]; rfl
  rw [if_pos (show nI z ≤ (4:Int32) from nI_le (b := 4) (by omega) (by omega))]
  have hA := askM (T := T) (B := f197_askedHeld_b1 (nI b) (nI r) T) (ok := fun v => f114_in v (0:Int32) (((1:Int32) <<< ((T.1 94 8) &&& 31)) - (1:Int32))) (g := hG n) hr q4 (by omega) (fun v => rfl) (hG_ok hM.1 hn)
  rcases numsC (s := s) (c := 74 + 2 * r) (most := 4) (v2 := nI (2 ^ n)) (an_r hr) q1 q3 q2 (by omega) (by omega) (by omega) with ⟨a1, a2⟩ | ⟨a1, i, a2, a3⟩
  · have a1' : f107_numbersFinding (74 + 2 * r) (4:Int32) (nI (2 ^ n)) s = some 0 := a1
    rcases hA with ⟨v, m1, m2⟩ | ⟨m1, i, m2, m3⟩
    · rw [m1]
      simp only [bs, pv_pm]
      obtain ⟨v', T1, c1, c2, c3⟩ := clear4 (pv_up (pv_up T.1 94 32 0) 94 33 (-9), T.2) (nI b) (nI r)
      rw [c1]
      simp only [bs]
      obtain ⟨s1, e1, e2, e3, -, -, e7, e8, e9, e10⟩ := from_ok hn hC (nI w)
      have d94 : T1.1 94 = pv_up (pv_up T.1 94 32 0) 94 33 (-9) 94 := c3 94 (by decide)
      have dc : ∀ c, c ≠ 94 → c ≠ 115 → T1.1 c = T.1 c := fun c k1 k2 => by
        have := c3 c k2
        simp only at this
        rw [up_ne k1, up_ne k1] at this
        exact this
      have hM1 : MR T1 n K A := hM.frame (by rw [d94, up_nj (by decide), up_nj (by decide)]) (dc 101 (by decide) (by decide)) (dc 105 (by decide) (by decide))
      obtain ⟨s2, T2, g1, g2, g3, g4, g5⟩ := heldSim (n := n) (r := r) (z := z) (w := w) (b := b) (K := K) hr (by omega) hw hb z 8 0 A (fun _ => 0) s1 T1 (by omega) (by omega) hF e2 hM1 e3 (by rw [d94, up_nj (by decide), up_nj (by decide)]; exact hwM) ⟨by rw [e10 _ (by omega) (by omega)]; exact q3, by rw [dc 96 (by decide) (by decide)]; exact q4, fun i hi => by rw [e10 _ (by omega) (by omega), dc 97 (by decide) (by decide)]; exact q5 i hi⟩ (fun j hj => by omega) ⟨by rw [d94, up_nj (by decide), up_at, e7], by rw [d94, up_at, e8], fun j hj => by rw [e9 j hj, c2 j hj]⟩
      rw [nI_0] at g1 g2
      have g2' : f196_heldOn 8 (nI b) (nI r) (0:Int32) (0:Int32) T1 = some T2 := g2
      rw [g2']
      simp only [bs]
      refine Or.inr ⟨z, s1, s2, T2, by omega, q3, rfl, a1', e1, g1, rfl, g3, fun c hc => ?_, fun c k1 k2 k3 => ?_, fun j j1 j2 j3 => ?_, fun i hi => ?_⟩
      · rw [g4.1.1 c (by omega) (by omega) (by omega) (by omega) (by omega), e10 c (by omega) (by omega)]
      · rw [g4.2.1 c k1 k2 (by omega) (by omega) (by omega) (by omega), dc c k1 (by omega)]
      · rw [g4.2.2.1 j j1 j2 j3, d94, up_nj j3, up_nj j2]
      · rw [g5 i hi, dc 105 (by decide) (by decide)]
    · exfalso
      obtain ⟨b1, b2⟩ := a2 i m2
      rw [e75, q5 i m2] at b1 b2
      unfold hG at m3
      simp [b1, b2] at m3
  · rcases hA with ⟨v, m1, m2⟩ | ⟨m1, -⟩
    · exfalso
      have := m2 i a2
      unfold hG at this
      rw [Bool.and_eq_true, decide_eq_true_eq, decide_eq_true_eq] at this
      rw [e75, q5 i a2] at a3
      rcases a3 with a3 | a3
      · exact this.1 a3
      · exact a3 this.2
    · rw [m1]
      exact Or.inl ⟨3, by omega, by omega, a1, rfl⟩
theorem op33 : OP33 Inv := by
  intro a c s T h
  obtain ⟨n, K, A, hn, hF, hC, hM, hR⟩ := h.2.2.2.view
  obtain ⟨w, hw, hwC, hwM⟩ := h.way_
  unfold f87_held f198_held
  rcases per_cases a hn with ha | ⟨b, hb, rfl⟩
  · rw [perC_out hC.1 ha, perM_out hM.1 ha hn]
    exact ⟨-1, s, T, rfl, rfl, h⟩
  rw [perC_in hC.1 hb hn, perM_in hM.1 hb hn]
  simp only [bs]
  rw [if_neg (show ¬ (1:Int32) = 0 by decide), if_neg (show ¬ (1:Int32) = 0 by decide)]
  rcases pk_ix c (n := 6) (by omega) with hc | hc | ⟨r, hr, rfl⟩
  · rw [(noRow (Or.inl hc)).1, (noRow (Or.inl hc)).2]
    exact ⟨-1, s, T, rfl, rfl, h⟩
  · rw [(noRow (Or.inr hc)).1, (noRow (Or.inr hc)).2]
    exact ⟨-1, s, T, rfl, rfl, h⟩
  rw [isRowC_in hr, isRowM_in hr, lives_ok hF hC hb]
  simp only [bs]
  rw [if_neg (show ¬ (1:Int32) = 0 by decide), if_neg (show ¬ (1:Int32) = 0 by decide)]
  by_cases h3 : K b = 3
  · rw [if_pos h3, if_pos rfl]
    unfold f197_askedHeld
    rw [rd_nI (by omega), hM.2.1 b hb, h3]
    exact ⟨-4, s, T, rfl, rfl, h⟩
  rw [if_neg h3, if_neg (show ¬ (1:Int32) = 0 by decide), ra_r hr, hC.1, one_shl (by omega)]
  simp only [bs]
  rcases heldAsk h hF hC hM hw hwM hb h3 hr with ⟨f, f1, f2, f3, f4⟩ | ⟨z, s1, s2, T2, z1, z2, z3, z4, z5, z6, z7, z8, z9, z10, z11, z12⟩
  · rw [f3, f4]
    simp only [bs]
    rw [if_neg (nI_ne0 f1 (by omega)), find_ok f f2, if_neg (show ¬ (0:Int32) ≤ -3 by decide)]
    exact ⟨_, _, _, rfl, rfl, h.fnd f1 f2⟩
  · rw [z4, z7, hwC]
    simp only [bs]
    rw [if_pos True.intro, if_pos (show (0:Int32) ≤ 0 by decide), z5]
    simp only [bs]
    rw [z6]
    unfold f116_ask
    simp only [bs, pv_pf, pv_pm]
    rw [up_ne (by decide), z8.1, z8.2.1]
    refine ⟨_, _, _, rfl, rfl, ?_⟩
    refine Inv.aside (h.tell (s2 40 8)) (fun a ha => ?_) (fun c hc => ?_) (fun i hi => ?_) (fun j hj => ?_)
    · by_cases e0 : a = 0
      · subst e0
        funext j
        by_cases e8 : j = 8
        · subst e8; rw [up_at, up_at]
        · rw [up_nj e8, up_nj e8, z9 0 (by omega)]
      · rw [up_ne e0, up_ne e0, z9 a (by omega)]
    · rw [upT (by omega), upT (by omega), z10 c (by omega) (by omega) (by omega)]
    · rw [upT (by decide), upT (by decide), z12 i hi]
    · by_cases e2 : j = 2
      · subst e2; rw [upTa, upTa]
      · rw [upTj e2, upTj e2, z11 j (by omega) (by omega) (by omega)]
theorem op34 : OP34 Inv := by
  intro a c i s T h
  obtain ⟨n, K, A, hn, hF, hC, hM, hR⟩ := h.2.2.2.view
  obtain ⟨w, hw, hwC, hwM⟩ := h.way_
  unfold f88_could f199_could
  rcases per_cases a hn with ha | ⟨b, hb, rfl⟩
  · rw [perC_out hC.1 ha, perM_out hM.1 ha hn]
    exact ⟨-1, s, T, rfl, rfl, h⟩
  rw [perC_in hC.1 hb hn, perM_in hM.1 hb hn]
  simp only [bs]
  rw [if_neg (show ¬ (1:Int32) = 0 by decide), if_neg (show ¬ (1:Int32) = 0 by decide)]
  rcases pk_ix c (n := 6) (by omega) with hc | hc | ⟨r, hr, rfl⟩
  · rw [(noRow (Or.inl hc)).1, (noRow (Or.inl hc)).2]
    exact ⟨-1, s, T, rfl, rfl, h⟩
  · rw [(noRow (Or.inr hc)).1, (noRow (Or.inr hc)).2]
    exact ⟨-1, s, T, rfl, rfl, h⟩
  rw [isRowC_in hr, isRowM_in hr, in_eq]
  simp only [bs]
  rw [if_neg (show ¬ (1:Int32) = 0 by decide), if_neg (show ¬ (1:Int32) = 0 by decide)]
  rcases pk_ix i (n := 4) (by omega) with hi | hi | ⟨i, hi, rfl⟩
  · rw [if_pos hi, if_pos hi]
    exact ⟨-1, s, T, rfl, rfl, h⟩
  · obtain ⟨c1, -, c3, c4⟩ := cmp_big hi (by omega)
    have c5 : ¬ i < (4:Int32) := (c4 4 (by omega)).2
    have c6 : (3:Int32) < i := (c3 3 (by omega)).2
    rw [if_neg c1, if_neg c1, if_neg c5, if_pos c6]
    exact ⟨-1, s, T, rfl, rfl, h⟩
  rw [if_neg (nI_pos (by omega)), if_neg (nI_pos (by omega)), if_pos (show nI i < (4:Int32) from nI_lt (b := 4) hi (by omega)), if_neg (show ¬ (3:Int32) < nI i from nI_nlt (a := 3) (by omega) (by omega)), lives_ok hF hC hb]
  simp only [bs]
  rw [if_neg (show ¬ (1:Int32) = 0 by decide)]
  by_cases h3 : K b = 3
  · rw [if_pos h3, if_pos rfl]
    unfold f197_askedHeld
    rw [rd_nI (by omega), hM.2.1 b hb, h3]
    exact ⟨-4, s, T, rfl, rfl, h⟩
  rw [if_neg h3, if_neg (show ¬ (1:Int32) = 0 by decide), ra_r hr, hC.1, one_shl (by omega)]
  simp only [bs]
  rcases heldAsk h hF hC hM hw hwM hb h3 hr with ⟨f, f1, f2, f3, f4⟩ | ⟨z, s1, s2, T2, z1, z2, z3, z4, z5, z6, z7, z8, z9, z10, z11, z12⟩
  · rw [f3, f4]
    simp only [bs]
    rw [if_neg (nI_ne0 f1 (by omega)), find_ok f f2, if_neg (show ¬ (0:Int32) ≤ -3 by decide)]
    exact ⟨_, _, _, rfl, rfl, h.fnd f1 f2⟩
  · rw [z4, z7]
    simp only [bs]
    rw [if_pos True.intro, if_pos (show (0:Int32) ≤ 0 by decide), rd_nI hr, z10 96 (by decide) (by decide) (by decide), z3]
    simp only [bs]
    by_cases hiz : i < z
    · rw [hasC_in z2 hiz (by omega), if_neg (nI_ge hiz (by omega)), rd_nI (by omega)]
      simp only [bs]
      rw [if_neg (show ¬ (1:Int32) = 0 by decide), hwC, z5]
      simp only [bs]
      rw [z6]
      simp only [bs]
      rw [rd_nI (by omega), z8.2.2 i (by omega)]
      simp only [bs]
      exact ⟨_, _, _, rfl, rfl, h.aside (fun a ha => z9 a (by omega)) (fun c hc => z10 c (by omega) (by omega) (by omega)) z12 (fun j hj => z11 j (by omega) (by omega) (by omega))⟩
    · rw [hasC_out z2 (Or.inr (nI_le (by omega) (by omega))), if_pos (nI_le (by omega) (by omega))]
      simp only [bs]
      rw [if_pos True.intro]
      exact ⟨_, _, _, rfl, rfl, h.aside (fun a ha => rfl) (fun c hc => z10 c (by omega) (by omega) (by omega)) z12 (fun j hj => z11 j (by omega) (by omega) (by omega))⟩
