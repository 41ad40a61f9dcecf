/-! JUDGE: a row of calls, aside -/
def misN (A : TS) (n : Nat) : Nat := sumN (fun y => A.2.2.2.1 y) n
theorem mis_sum (c : Nat → Bool) (x : Nat) (a : Nat → Nat) : ∀ m, sumN (fun y => if (c y && decide (y ≠ x)) = true then a y + 1 else a y) m + (if x < m ∧ c x = true then 1 else 0) = sumN a m + sumN (fun y => if c y = true then 1 else 0) m := by
  intro m
  induction m with
  | zero => simp [sumN]
  | succ m ih =>
    simp only [sumN]
    generalize sumN (fun y => if (c y && decide (y ≠ x)) = true then a y + 1 else a y) m = s1 at ih ⊢
    generalize sumN a m = s2 at ih ⊢
    generalize sumN (fun y => if c y = true then 1 else 0) m = s3 at ih ⊢
    by_cases e : m = x
    · subst e
      rw [if_neg (show ¬ (m < m ∧ c m = true) from fun q => by omega)] at ih
      cases hc : c m
      · simp [hc]; omega
      · simp [hc]; omega
    · have e1 : (x < m + 1 ∧ c x = true) ↔ (x < m ∧ c x = true) := ⟨fun q => ⟨by omega, q.2⟩, fun q => ⟨by omega, q.2⟩⟩
      have e2 : (if x < m + 1 ∧ c x = true then 1 else 0 : Nat) = if x < m ∧ c x = true then 1 else 0 := by
        by_cases q : x < m ∧ c x = true
        · rw [if_pos q, if_pos (e1.mpr q)]
        · rw [if_neg q, if_neg (fun q' => q (e1.mp q'))]
      rw [e2]
      cases hc : c m
      · simp [e]; omega
      · simp [e]; omega
theorem come_x {K : Nat → Nat} {n b x : Nat} {nm : Nat → List Nat} (hx : x < n) (hc : canA K nm b x = true) : comeB K n nm b x x = true := by
  unfold canA at hc
  unfold comeB
  simp only [Bool.and_eq_true, decide_eq_true_eq] at hc ⊢
  obtain ⟨⟨⟨h1, h2⟩, h3⟩, h4⟩ := hc
  refine ⟨⟨⟨hx, Ne.symm h1⟩, h3⟩, ?_⟩
  split
  · simp [h4]
  · simp
theorem mis_call {K : Nat → Nat} {n b x w : Nat} {A : TS} (hn : n ≤ 7) (hx : x < n) (hc : canA K A.1 b x = true) : misN (callA K n b x w A) n + 1 = misN A n + popc (bits (comeB K n A.1 b x) n) := by
  have h := mis_sum (comeB K n A.1 b x) x A.2.2.2.1 n
  rw [if_pos ⟨hx, come_x hx hc⟩] at h
  rw [popc_bits hn]
  exact h
theorem call_pos {K : Nat → Nat} {n b x : Nat} {nm : Nat → List Nat} (hx : x < n) (hc : canA K nm b x = true) : 0 < bits (comeB K n nm b x) n := bits_pos hx (come_x hx hc)
theorem okT_call {n : Nat} {K : Nat → Nat} {A : TS} {b x w : Nat} (hF : okT n K A) (hb : b < n) (hx : x < n) (hc : canA K A.1 b x = true) (hw : w ≤ 2) : okT n K (callA K n b x w A) := by
  have := okT_step (d := ((b, x, 0, w) : Deed)) hF ⟨hb, hx, by simp only [if_true]; exact ⟨hc, hw⟩⟩
  unfold stepA at this
  simp only [if_true] at this
  exact this
theorem wr_call (K : Nat → Nat) (n b x w : Nat) (A : TS) (y : Nat) : (if mom (K b) then A.1 else wrN K w (bits (comeB K n A.1 b x) n) A.1 A.2.1) y = (callA K n b x w A).1 y ∧ (if mom (K b) then A.2.1 else wrD K w (bits (comeB K n A.1 b x) n) A.1 A.2.1) y = (callA K n b x w A).2.1 y := by
  unfold callA
  simp only
  cases hm : mom (K b)
  · simp only [Bool.false_eq_true, if_false, Bool.not_false, Bool.and_true]
    unfold wrN wrD
    rw [come_bit]
    by_cases hc : comeB K n A.1 b x y = true
    · simp [hc]
    · simp [hc]
  · simp
/-- those who come wear, on a level of the class -/
theorem wearCall {s : pv_F} {o n : Nat} {K : Nat → Nat} {A : TS} (hF : okT n K A) (h : FC s o n K A.1 A.2.1) {b x w : Nat} (hb : b < n) (hw : w ≤ 2) : ∃ s', f15_wearBy o (nI b) (nI (bits (comeB K n A.1 b x) n)) (nI w) s = some s' ∧ FC s' o n K (callA K n b x w A).1 (callA K n b x w A).2.1 ∧ ∀ c, c ≠ o + 2 → c ≠ o + 3 → s' c = s c := by
  have := bits_128 (comeB K n A.1 b x) hF.1
  obtain ⟨s', h1, h2, h3⟩ := wearBy_ok (a := bits (comeB K n A.1 b x) n) hF h hb hw (by omega)
  exact ⟨s', h1, h2.congr (fun y _ => wr_call K n b x w A y), h3⟩
theorem missed_ok {T : pv_T} {n : Nat} {K : Nat → Nat} {A : TS} (hn : n ≤ 7) (hM : MR T n K A) : f184_missed T = some (nI (misN A n)) := by
  unfold f184_missed
  rw [sum_loop (n := n) (fun y => A.2.2.2.1 y) (by omega) (fun k a hk => ?_) (fun a => ?_)]
  · rfl
  · unfold f184_missed_b1
    simp only
    have := (hM.2.2.1 k hk).2.2.2.2.1
    rw [Nat.zero_add] at this
    rw [hM.1, if_neg (nI_ge hk (by omega)), nI63, rd_nI (by omega), this, nI_1]
    simp only [bs]
    rw [nI_add]
  · unfold f184_missed_b1
    simp only
    rw [hM.1, if_pos (nI_le (by omega) (by omega))]
theorem comersQ {s : pv_F} {o n : Nat} {K : Nat → Nat} {A : TS} (hF : okT n K A) (h : FC s o n K A.1 A.2.1) {b x : Nat} (hb : b < n) (hx : x < n) : (canA K A.1 b x = false ∧ f12_comers o (nI b) (nI x) s = some 0) ∨ (canA K A.1 b x = true ∧ f12_comers o (nI b) (nI x) s = some (nI (bits (comeB K n A.1 b x) n)) ∧ ¬ nI (bits (comeB K n A.1 b x) n) = 0) := by
  rw [comers_ok hF h hb hx]
  cases hc : canA K A.1 b x
  · exact Or.inl ⟨rfl, rfl⟩
  · have h1 := bits_128 (comeB K n A.1 b x) hF.1
    exact Or.inr ⟨rfl, rfl, nI_ne0 (call_pos hx hc) (by omega)⟩
theorem pop_pred {a : Nat} (h0 : 0 < a) (h : a < 128) : nI (popc a) - (1:Int32) = nI (popc a - 1) := pk_sub (b := 1) (popc_pos h0 h)
theorem judge_ok {s : pv_F} {T : pv_T} {n r z w : Nat} {K : Nat → Nat} {A : TS} {B X : Nat → Nat} (hr : r < 6) (hF : okT n K A) (hC : FC s 45 n K A.1 A.2.1) (hM : MR T n K A) (hR : Calls s T n r z B X) (hw : w ≤ 2) (h4 : s 40 4 = nI w) (h5 : s 40 5 = 0) (hT : T.1 94 9 = nI w) : ∃ i m s' T' A', i ≤ z ∧ f34_judgeCalls (74 + 2 * r) s = some (nI i, s') ∧ f185_callOn (nI r) T = some (nI i, T') ∧ s' 40 5 = nI m ∧ m ≤ 1000 ∧ MR T' n K A' ∧ misN A' n = misN A n + m ∧ (∀ c, c ≠ 40 → c ≠ 47 → c ≠ 48 → s' c = s c) ∧ ∀ c, c ≠ 105 → T'.1 c = T.1 c := by
  have h7 := hF.1
  obtain ⟨hz40, hzC, hzM, hcalls⟩ := hR
  unfold f34_judgeCalls f185_callOn
  obtain ⟨o, o', g1, g2, g3⟩ := two_loops (lp_eqs (f34_judgeCalls_b1 (74 + 2 * r))) (lq_eqs (f185_callOn_b1 (nI r))) (fun i (a : Int32 × pv_F) (b : Int32 × pv_T) => ∃ A' m, a.1 = nI i ∧ b.1 = nI i ∧ okT n K A' ∧ FC a.2 45 n K A'.1 A'.2.1 ∧ MR b.2 n K A' ∧ a.2 40 4 = nI w ∧ a.2 40 5 = nI m ∧ m ≤ 7 * i ∧ misN A' n = misN A n + m ∧ (∀ c, c ≠ 40 → c ≠ 47 → c ≠ 48 → a.2 c = s c) ∧ ∀ c, c ≠ 105 → b.2.1 c = T.1 c) (fun o o' => ∃ i m A', i ≤ z ∧ (match o with
    | .inl (_, S) => some (S (74 + 2 * r) 2, S)
    | .inr q => some q) = some (nI i, (match o with
    | .inl (_, S) => S
    | .inr q => q.2)) ∧ o'.1 = nI i ∧ m ≤ 1000 ∧ MR o'.2 n K A' ∧ misN A' n = misN A n + m ∧ (match o with
    | .inl (_, S) => S
    | .inr q => q.2) 40 5 = nI m ∧ (∀ c, c ≠ 40 → c ≠ 47 → c ≠ 48 → (match o with
    | .inl (_, S) => S
    | .inr q => q.2) c = s c) ∧ ∀ c, c ≠ 105 → o'.2.1 c = T.1 c) z (fun i a b hi hP => by
    obtain ⟨v, S⟩ := a
    obtain ⟨u, U⟩ := b
    obtain ⟨A', m, p1, p2, p3, p4, p5, p6, p7, p8, p9, p10, p11⟩ := hP
    simp only at p1 p2 p4 p5 p6 p7 p10 p11
    subst p1 p2
    unfold f34_judgeCalls_b1 f185_callOn_b1
    simp only
    rw [p10 (74 + 2 * r) (by omega) (by omega) (by omega), hzC, rd_nI hr, p11 96 (by decide), hzM]
    simp only [bs]
    by_cases e : i = z
    · subst e
      rw [if_pos (nI_le (by omega) (by omega)), if_pos (nI_le (by omega) (by omega))]
      refine Or.inr ⟨_, _, rfl, rfl, i, m, A', by omega, ?_, rfl, by omega, p5, p9, p7, p10, p11⟩
      simp only
      rw [p10 (74 + 2 * r) (by omega) (by omega) (by omega), hzC]
    obtain ⟨c1, c2, c3, c4, c5⟩ := hcalls i (by omega)
    have hu : 100 * B i + X i < 2 ^ 31 := by omega
    have hd : (100 * B i + X i) / 100 = B i := by omega
    have hm : (100 * B i + X i) % 100 = X i := by omega
    have e75 : S (74 + 2 * r + 1) i = nI (100 * B i + X i) := by
      rw [p10 (74 + 2 * r + 1) (by omega) (by omega) (by omega), show 74 + 2 * r + 1 = 75 + 2 * r by omega]; exact c4
    have eT : U.1 97 (40 * r + i) = nI (100 * B i + X i) := by rw [p11 97 (by decide)]; exact c5
    rw [if_neg (nI_ge (by omega) (by omega)), if_neg (nI_ge (by omega) (by omega)), an_r hr, rd_nI (by omega), e75, rowAt_ok hr (by omega), eT]
    simp only [bs]
    rw [dv100 hu, rmd100 hu, hd, hm]
    simp only [bs]
    rw [mayCall_ok p3 p5 c1 c2]
    rcases comersQ p3 p4 c1 c2 with ⟨k1, k2⟩ | ⟨k1, k2, k3⟩
    · rw [k1, k2]
      simp only [bs]
      rw [if_pos True.intro, if_pos (show (if false = true then (1:Int32) else 0) = 0 from rfl)]
      exact Or.inr ⟨_, _, rfl, rfl, i, m, A', by omega, rfl, rfl, by omega, p5, p9, p7, p10, p11⟩
    · have hb := bits_128 (comeB K n A'.1 (B i) (X i)) h7
      have hp := call_pos (n := n) c2 k1
      rw [k1, k2]
      simp only [bs]
      rw [if_neg k3, if_neg (show ¬ (if True then (1:Int32) else 0) = 0 by decide), (popc_ok hb).1]
      simp only [bs, pv_pf]
      rw [pop_pred hp hb, p7, nI_add]
      have hC2 : FC (pv_up S 40 5 (nI (m + (popc (bits (comeB K n A'.1 (B i) (X i)) n) - 1)))) 45 n K A'.1 A'.2.1 := p4.frame (fun a ha => up_ne (by omega))
      rw [up_nj (by decide), p6]
      obtain ⟨S2, w1, w2, w3⟩ := wearCall (x := X i) p3 hC2 c1 hw
      obtain ⟨U2, d1, d2, d3⟩ := doCall_ok p3 p5 c1 c2 k1 hw (by rw [p11 94 (by decide)]; exact hT)
      rw [w1, d1, nI_1]
      simp only [bs]
      have hpc := popc_le (bits (comeB K n A'.1 (B i) (X i)) n)
      have hpp := popc_pos hp hb
      have hmis := mis_call (w := w) h7 c2 k1
      refine Or.inl ⟨by omega, _, _, rfl, rfl, callA K n (B i) (X i) w A', m + (popc (bits (comeB K n A'.1 (B i) (X i)) n) - 1), rfl, rfl, okT_call p3 c1 c2 k1 hw, w2, d2, ?_, ?_, by omega, by omega, fun c q1 q2 q3 => ?_, fun c q1 => ?_⟩
      · simp only
        rw [w3 40 (by omega) (by omega), up_nj (by decide)]; exact p6
      · simp only
        rw [w3 40 (by omega) (by omega), up_at]
      · simp only
        rw [w3 c (by omega) (by omega), up_ne q1]; exact p10 c q1 q2 q3
      · simp only
        rw [d3 c q1]; exact p11 c q1) ((0:Int32), s) ((0:Int32), T) ⟨A, 0, nI_0.symm, nI_0.symm, hF, hC, hM, h4, by rw [nI_0]; exact h5, by omega, by omega, fun _ _ _ _ => rfl, fun _ _ => rfl⟩ (by omega)
  obtain ⟨i, m, A', r1, r2, r3, r4, r5, r6, r7, r8, r9⟩ := g3
  rw [g1, g2]
  simp only [bs]
  obtain ⟨u, U⟩ := o'
  simp only at r3 r5 r9
  subst r3
  match o, r2, r7, r8 with
  | .inl (v, S), r2, r7, r8 => exact ⟨i, m, S, U, A', r1, r2, rfl, r7, r4, r5, r6, r8, r9⟩
  | .inr (v, S), r2, r7, r8 => exact ⟨i, m, S, U, A', r1, r2, rfl, r7, r4, r5, r6, r8, r9⟩
theorem noRowM {x y : Int32} (T : pv_T) (h : x < 0 ∨ nI 6 ≤ x) : f183_askedCalls x y T = some (-1, T) := by
  unfold f183_askedCalls
  rw [asked_no T h]
  rfl
theorem op28 : OP28 Inv := by
  intro a s T h
  obtain ⟨n, K, A, hn, hF, hC, hM, hR⟩ := h.2.2.2.view
  obtain ⟨w, hw, hwC, hwM⟩ := h.way_
  unfold f82_judge f186_judge
  rcases pk_ix a (n := 6) (by omega) with ha | ha | ⟨r, hr, rfl⟩
  · rw [(noRow (Or.inl ha)).1, noRowM T (Or.inl ha)]
    exact ⟨-1, s, T, rfl, rfl, h⟩
  · rw [(noRow (Or.inr ha)).1, noRowM T (Or.inr ha)]
    exact ⟨-1, s, T, rfl, rfl, h⟩
  rw [isRowC_in hr]
  simp only [bs]
  rw [if_neg (show ¬ (1:Int32) = 0 by decide), ra_r hr]
  simp only [bs]
  rcases callsAsk h hn hC.1 hM.1 hr (most := 40) (by omega) with ⟨f, f1, f2, f3, f4⟩ | ⟨z, B, X, z1, z2, z3, z4, -⟩
  · have f3' : f108_callsFinding (74 + 2 * r) (40:Int32) s = some (nI f) := f3
    have f4' : f183_askedCalls (nI r) (40:Int32) T = some (-3, fndM T f) := f4
    rw [f3', f4']
    simp only [bs]
    rw [if_neg (nI_ne0 f1 (by omega)), find_ok f f2, if_neg (show ¬ (0:Int32) ≤ -3 by decide)]
    exact ⟨_, _, _, rfl, rfl, h.fnd f1 f2⟩
  have z2' : f108_callsFinding (74 + 2 * r) (40:Int32) s = some 0 := z2
  have z3' : f183_askedCalls (nI r) (40:Int32) T = some (0, T) := z3
  rw [z2', z3']
  simp only [bs]
  rw [if_pos True.intro, if_pos (show (0:Int32) ≤ 0 by decide), hwC]
  obtain ⟨s1, e1, e2, e3, e4, -, -, -, -, e5⟩ := from_ok hn hC (nI w)
  rw [e1]
  obtain ⟨T1, k1, k2, k3⟩ := putAside_ok T
  rw [k1]
  simp only [bs]
  have hM1 : MR T1 n K A := hM.frame (by rw [k3 94 (by decide)]) (k3 101 (by decide)) (k3 105 (by decide))
  have hcal : Calls s1 T1 n r z B X := z4.frame (e5 _ (by omega) (by omega)) (e5 _ (by omega) (by omega)) (k3 96 (by decide)) (k3 97 (by decide))
  obtain ⟨i, m, s2, T2, A', q0, q1, q2, q3, q4, q5, q6, q7, q8⟩ := judge_ok hr hF e2 hM1 hcal hw e3 e4 (by rw [k3 94 (by decide)]; exact hwM)
  rw [missed_ok hn hM1, q1]
  simp only [bs, pv_pf]
  rw [q2]
  simp only [bs]
  rw [missed_ok hn q5]
  simp only [bs]
  obtain ⟨T3, l1, l2, l3⟩ := comeBack_ok T2
  rw [l1, q3]
  unfold f116_ask
  simp only [bs, pv_pm]
  rw [q6, pk_sub (Nat.le_add_right _ _), Nat.add_sub_cancel_left]
  refine ⟨_, _, _, rfl, rfl, ?_⟩
  refine Inv.aside (h.tell (nI m)) (fun a ha => ?_) (fun c hc => ?_) (fun i hi => ?_) (fun j hj => ?_)
  · by_cases e0 : a = 0
    · subst e0
      funext j
      by_cases e8 : j = 8
      · subst e8; rw [up_at, up_at]
      · rw [up_nj e8, up_nj e8, q7 0 (by omega) (by omega) (by omega), e5 0 (by omega) (by omega)]
    · rw [up_ne e0, up_ne e0, q7 a (by omega) (by omega) (by omega), e5 a (by omega) (by omega)]
  · rw [upT (by omega), upT (by omega), l3 c (by omega), q8 c (by omega), k3 c (by omega)]
  · rw [upT (by decide), upT (by decide), l2 i hi, q8 110 (by decide), k2 i hi]
  · by_cases e2 : j = 2
    · subst e2; rw [upTa, upTa]
    · rw [upTj e2, upTj e2, l3 94 (by decide), q8 94 (by decide), k3 94 (by decide)]
