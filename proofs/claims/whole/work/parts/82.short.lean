/-! SHORTEST -/
theorem clr_set {p : Nat → Bool} {n x : Nat} (hn : n ≤ 7) (hx : x < n) : nI (bits p n) &&& (((1:Int32) <<< (nI x &&& 31)) ^^^ (-1:Int32)) = nI (bits (fun y => p y && !(decide (y = x))) n) := by
  rw [clr_bits hn (by omega)]
  refine congrArg nI (bits_congr fun y hy => ?_)
  by_cases e : y = x <;> simp [e]
theorem bits_z {p : Nat → Bool} {n : Nat} (hn : n ≤ 7) : (nI (bits p n) = 0) = (bits p n = 0) := by
  have := bits_128 p hn
  exact propext ⟨fun q => (nI_eq (by omega) (by omega)).mp (q.trans nI_0.symm), fun q => by rw [q]; exact nI_0⟩
/-- the letters of one of the people are put into one -/
theorem loadOne {T : pv_T} {n : Nat} {K : Nat → Nat} {A : TS} (hF : okT n K A) (hM : MR T n K A) {x : Nat} (hx : x < n) {B : Int32 × pv_T → Option ((Int32 × pv_T) ⊕ (Int32 × pv_T))} (hB : ∀ v U, B (v, U) = (f142_lenOf (nI x) U).bind fun q => if q ≤ v then some (.inr (v, U)) else (f143_letterOf (nI x) v U).bind fun q11 => (pv_wm U 111 6 v q11).bind fun T12 => some (.inl (v + (1:Int32), T12))) : ∃ T', pv_lq B 20000 ((0:Int32), T) = some (nI (A.1 x).length, T') ∧ (∀ i, i < (A.1 x).length → T'.1 111 i = nI (96 + (A.1 x).getD i 0)) ∧ ∀ c, c ≠ 111 → T'.1 c = T.1 c := by
  have hn := hF.1
  have h6 := (hF.2 x hx).2.1.1
  obtain ⟨e, h1, h2⟩ := lq_inv (B := B) (P := fun i st => st.1 = nI i ∧ (∀ j, j < i → st.2.1 111 j = nI (96 + (A.1 x).getD j 0)) ∧ ∀ c, c ≠ 111 → st.2.1 c = T.1 c) (Q := fun st => st.1 = nI (A.1 x).length ∧ (∀ j, j < (A.1 x).length → st.2.1 111 j = nI (96 + (A.1 x).getD j 0)) ∧ ∀ c, c ≠ 111 → st.2.1 c = T.1 c) (A.1 x).length (fun i st hi hP => by
    obtain ⟨v, U⟩ := st
    obtain ⟨p1, p2, p3⟩ := hP
    simp only at p1 p2 p3
    subst p1
    have hMU : MR U n K A := hM.frame (by rw [p3 94 (by decide)]) (p3 101 (by decide)) (p3 105 (by decide))
    rw [hB, lenOf_ok hn hMU hx]
    simp only [bs]
    rw [if_neg (nI_ge hi (by omega)), letterOf_ok hF hMU hx hi]
    simp only [bs]
    rw [wm_nI (by omega), nI_1]
    simp only [bs]
    refine ⟨_, rfl, rfl, fun j hj => ?_, fun c hc => ?_⟩
    · show pv_up U.1 111 i _ 111 j = _
      by_cases e : j = i
      · subst e; rw [up_at]
      · rw [up_nj e]; exact p2 j (by omega)
    · show pv_up U.1 111 i _ c = _
      rw [up_ne hc]; exact p3 c hc) (fun st hP => by
    obtain ⟨v, U⟩ := st
    obtain ⟨p1, p2, p3⟩ := hP
    simp only at p1 p2 p3
    subst p1
    have hMU : MR U n K A := hM.frame (by rw [p3 94 (by decide)]) (p3 101 (by decide)) (p3 105 (by decide))
    rw [hB, lenOf_ok hn hMU hx]
    simp only [bs]
    rw [if_pos (nI_le (by omega) (by omega))]
    exact ⟨_, rfl, rfl, p2, p3⟩) ((0:Int32), T) ⟨nI_0.symm, fun j hj => by omega, fun c hc => rfl⟩
  obtain ⟨v, U⟩ := e
  obtain ⟨q1, q2, q3⟩ := h2
  simp only at q1 q2 q3
  subst q1
  exact ⟨U, h1, q2, q3⟩
theorem op36 : OP36 Inv := by
  intro a s T h
  obtain ⟨n, K, A, hn, hF, hC, hM, hR⟩ := h.2.2.2.view
  unfold f90_shortest f202_shortest
  rcases per_cases a hn with ha | ⟨x, hx, rfl⟩
  · rw [perC_out hC.1 ha, perM_out hM.1 ha hn]
    exact ⟨-1, T, rfl, rfl, h⟩
  obtain ⟨h5, hN, hd⟩ := hF.2 x hx
  have h6 := hN.1
  rw [perC_in hC.1 hx hn, perM_in hM.1 hx hn]
  simp only [bs]
  rw [if_neg (show ¬ (1:Int32) = 0 by decide), if_neg (show ¬ (1:Int32) = 0 by decide), lives_ok hF hC hx, rd_nI (s := T.1) (by omega), hM.2.1 x hx]
  simp only [bs]
  by_cases h3 : K x = 3
  · rw [if_pos h3, if_pos rfl, if_pos (by rw [h3]; decide)]
    exact ⟨_, T, rfl, rfl, h⟩
  rw [if_neg h3, if_neg (show ¬ (1:Int32) = 0 by decide), if_neg (show ¬ nI (K x) = (3:Int32) from fun q => h3 ((nI_eq (by omega) (by omega)).mp (show nI (K x) = nI 3 from q))), rd_nI (by omega), (hR.1 x hx).1]
  simp only [bs]
  obtain ⟨T1, k1, k2, k3⟩ := loadOne hF hM hx (B := f202_shortest_b1 (nI x)) (fun v U => rfl)
  have hM1 : MR T1 n K A := hM.frame (by rw [k3 94 (by decide)]) (k3 101 (by decide)) (k3 105 (by decide))
  rw [k1]
  simp only [bs]
  obtain ⟨o, o1, o2⟩ := lp_inv (B := f90_shortest_b1 (nI x) (nI (pack (A.1 x))) s) (P := fun i st => st = nI (i + 1) ∧ ∀ m, 1 ≤ m → m ≤ i → ¬ bits (fun y => (decide (K y ≠ 3) && decide ((A.1 y).take m = (A.1 x).take m)) && !(decide (y = x))) n = 0) (Q := fun o => match o with
    | .inl _ => ∀ m, 1 ≤ m → m ≤ (A.1 x).length → ¬ bits (fun y => (decide (K y ≠ 3) && decide ((A.1 y).take m = (A.1 x).take m)) && !(decide (y = x))) n = 0
    | .inr q => ∃ m, 1 ≤ m ∧ m ≤ (A.1 x).length ∧ bits (fun y => (decide (K y ≠ 3) && decide ((A.1 y).take m = (A.1 x).take m)) && !(decide (y = x))) n = 0 ∧ (∀ j, 1 ≤ j → j < m → ¬ bits (fun y => (decide (K y ≠ 3) && decide ((A.1 y).take j = (A.1 x).take j)) && !(decide (y = x))) n = 0) ∧ q = nI m) (A.1 x).length (fun i st hi hP => by
    obtain ⟨rfl, p1⟩ := hP
    unfold f90_shortest_b1
    simp only
    rw [size_ok hN]
    simp only [bs]
    by_cases e : i = (A.1 x).length
    · rw [if_pos (nI_lt (by omega) (by omega))]
      exact Or.inr ⟨_, rfl, fun m m1 m2 => p1 m m1 (by omega)⟩
    · rw [if_neg (nI_nlt (by omega) (by omega)), start_ok hN (by omega)]
      simp only [bs]
      have hlt : ((A.1 x).take (i + 1)).length = i + 1 := by rw [List.length_take]; omega
      rw [beginning_ok hF hC (okN_take hN (i + 1)), hlt]
      simp only [bs]
      rw [clr_set hn hx]
      simp only [bits_z hn]
      by_cases hz : bits (fun y => (decide (K y ≠ 3) && decide ((A.1 y).take (i + 1) = (A.1 x).take (i + 1))) && !(decide (y = x))) n = 0
      · rw [if_pos hz]
        exact Or.inr ⟨_, rfl, i + 1, by omega, by omega, hz, fun j j1 j2 => p1 j j1 (by omega), rfl⟩
      · rw [if_neg hz, nI_1]
        refine Or.inl ⟨by omega, _, rfl, rfl, fun m m1 m2 => ?_⟩
        by_cases em : m = i + 1
        · subst em; exact hz
        · exact p1 m m1 (by omega)) (1:Int32) ⟨rfl, fun m m1 m2 => by omega⟩
  obtain ⟨u, u1, u2⟩ := lp_inv (B := f202_shortest_b2 (nI x) T1) (P := fun i st => st = nI (i + 1) ∧ ∀ m, 1 ≤ m → m ≤ i → ¬ bits (fun y => (decide (K y ≠ 3) && decide ((A.1 y).take m = (A.1 x).take m)) && !(decide (y = x))) n = 0) (Q := fun o => match o with
    | .inl _ => ∀ m, 1 ≤ m → m ≤ (A.1 x).length → ¬ bits (fun y => (decide (K y ≠ 3) && decide ((A.1 y).take m = (A.1 x).take m)) && !(decide (y = x))) n = 0
    | .inr q => ∃ m, 1 ≤ m ∧ m ≤ (A.1 x).length ∧ bits (fun y => (decide (K y ≠ 3) && decide ((A.1 y).take m = (A.1 x).take m)) && !(decide (y = x))) n = 0 ∧ (∀ j, 1 ≤ j → j < m → ¬ bits (fun y => (decide (K y ≠ 3) && decide ((A.1 y).take j = (A.1 x).take j)) && !(decide (y = x))) n = 0) ∧ q = (nI m, T1)) (A.1 x).length (fun i st hi hP => by
    obtain ⟨rfl, p1⟩ := hP
    unfold f202_shortest_b2
    simp only
    rw [lenOf_ok hn hM1 hx]
    simp only [bs]
    by_cases e : i = (A.1 x).length
    · rw [if_pos (nI_lt (by omega) (by omega))]
      exact Or.inr ⟨_, rfl, fun m m1 m2 => p1 m m1 (by omega)⟩
    · rw [if_neg (nI_nlt (by omega) (by omega)), beginSo_ok hF hM1 hN (by omega) k2 (ob_one hn hx)]
      simp only [bs]
      simp only [bits_z hn]
      by_cases hz : bits (fun y => (decide (K y ≠ 3) && decide ((A.1 y).take (i + 1) = (A.1 x).take (i + 1))) && !(decide (y = x))) n = 0
      · rw [if_pos hz]
        exact Or.inr ⟨_, rfl, i + 1, by omega, by omega, hz, fun j j1 j2 => p1 j j1 (by omega), rfl⟩
      · rw [if_neg hz, nI_1]
        refine Or.inl ⟨by omega, _, rfl, rfl, fun m m1 m2 => ?_⟩
        by_cases em : m = i + 1
        · subst em; exact hz
        · exact p1 m m1 (by omega)) (1:Int32) ⟨rfl, fun m m1 m2 => by omega⟩
  rw [o1, u1]
  simp only [bs]
  have hI : Inv s T1 := h.aside (fun _ _ => rfl) (fun c hc => k3 c (by omega)) (fun i hi => by rw [k3 105 (by decide)]) (fun j hj => by rw [k3 94 (by decide)])
  match o, u, o2, u2 with
  | .inl _, .inl _, o2, u2 => exact ⟨-9, T1, rfl, rfl, hI⟩
  | .inl _, .inr q, o2, ⟨m, m1, m2, m3, m4, m5⟩ => exact absurd m3 (o2 m m1 m2)
  | .inr q, .inl _, ⟨m, m1, m2, m3, m4, m5⟩, u2 => exact absurd m3 (u2 m m1 m2)
  | .inr q, .inr q', ⟨m, m1, m2, m3, m4, m5⟩, ⟨k, n1, n2, n3, n4, n5⟩ =>
    have hmk : m = k := by
      rcases Nat.lt_trichotomy m k with c | c | c
      · exact absurd m3 (n4 m m1 c)
      · exact c
      · exact absurd n3 (m4 k n1 c)
    subst hmk
    simp only
    rw [m5, n5]
    exact ⟨nI m, T1, rfl, rfl, hI⟩
