/-! DAYS -/
theorem callStep {s : pv_F} {T : pv_T} {n : Nat} {K : Nat → Nat} {nm : Nat → List Nat} {ds : List Deed} {kd : Nat → Option (List Deed)} {x y w : Nat} (h : Inv s T) (ht : Town s T n K nm ds kd) (hl : ds.length < 60) (hx : x < n) (hy : y < n) (hc : canA K (runA K n (A_0 nm) ds).1 x y = true) (hw : w ≤ 2) (hwM : T.1 94 9 = nI w) : ∃ v s2 T1 T2, f45_callOut (nI x) (nI y) (nI w) s = some (v, s2) ∧ f158_note T = some T1 ∧ f157_doCall (nI x) (nI y) T1 = some (v, T2) ∧ Inv s2 T2 ∧ Town s2 T2 n K nm (ds ++ [(x, y, 0, w)]) kd ∧ s2 0 = s 0 := by
  obtain ⟨hF, hC, hM, hR⟩ := ht.view
  have hn := hF.1
  have hD := ht.2.1.2.1
  have h18 := ht.2.1.2.2.2.1
  unfold f45_callOut
  obtain ⟨s1, e1, g1, f1⟩ := add_ok (c := 15) ((x, y, 0, w) : Deed) hD (by omega)
  have e1' : f2_add 15 (nI x) (nI y) (0:Int32) (nI w) s = some s1 := e1
  rw [e1']
  simp only [bs]
  have hR1 : CRep s1 n (runA K n (A_0 nm) ds) := hR.frame (fun a ha => f1 a (by omega) (by omega) (by omega) (by omega) (by omega))
  obtain ⟨s2, e2, g2, f2⟩ := carryCall_ok hF (fun z hz => by rw [f1 9 (by omega) (by omega) (by omega) (by omega) (by omega)]; exact (hC.2 z hz).1) (by rw [f1 8 (by omega) (by omega) (by omega) (by omega) (by omega)]; exact hC.1) hR1 hx hy hc hw
  rw [e2]
  obtain ⟨T1, k1, k2, k3, k4, k5, k6⟩ := note_ok (T := T) (by omega) h18
  have hM1 : MR T1 n K (runA K n (A_0 nm) ds) := ⟨by rw [k3 8 (by decide)]; exact hM.1, fun z hz => by rw [k6 101 (by decide) (by decide)]; exact hM.2.1 z hz, by rw [k6 105 (by decide) (by decide)]; exact hM.2.2⟩
  obtain ⟨T2, l1, l2, l3⟩ := doCall_ok hF hM1 hx hy hc hw (by rw [k3 9 (by decide)]; exact hwM)
  have F : ∀ a, a < 10 ∨ 19 < a → s2 a = s a := fun a ha => by rw [f2 a (by omega), f1 a (by omega) (by omega) (by omega) (by omega) (by omega)]
  have G : ∀ c, c ≠ 94 → c ≠ 105 → c ≠ 106 → T2.1 c = T.1 c := fun c c1 c2 c3 => by rw [l3 c c2, k6 c c1 c3]
  have G94 : ∀ j, j ≠ 18 → T2.1 94 j = T.1 94 j := fun j hj => by rw [l3 94 (by decide), k3 j hj]
  have ht2 : Town s2 T2 n K nm (ds ++ [(x, y, 0, w)]) kd := by
    refine ht.push ⟨hx, hy, by simp only [if_true]; exact ⟨hc, hw⟩⟩ (by omega) (fun a ha => F a (by omega)) (g1.frame (fun a ha => f2 a (by omega))) ?_ (fun a ha => G a (by omega) (by omega) (by omega)) (G94 8 (by decide)) (by rw [l3 94 (by decide)]; exact k2) ?_ (fun j hj => by rw [l3 106 (by decide)]; exact k5 j hj) (fun i hi => by rw [l3 106 (by decide)]; exact k4 i hi)
    · unfold stepA
      simp only [if_true]
      exact g2
    · unfold stepA
      simp only [if_true]
      exact l2.2.2
  exact ⟨_, s2, T1, T2, rfl, k1, l1, h.town ⟨n, K, nm, _, kd, ht2⟩ (fun a ha => F a (by omega)) (fun c hc => G c (by omega) (by omega) (by omega)) (fun j hj => G94 j (by omega)), ht2, F 0 (by omega)⟩
theorem lN_ne0 {b : Nat} (h0 : 0 < b) (hb : b < 2 ^ 63) : ¬ lN b = 0 := fun q => by
  have : b = 0 := (pk_lEQ hb (by omega)).mp (show lN b = lN 0 from q)
  omega
theorem lrm_ok {a b : Nat} (ha : a < 2 ^ 63) (h0 : 0 < b) (hb : b < 2 ^ 63) : pv_lrm (lN a) (lN b) = some (lN (a % b)) := by
  unfold pv_lrm
  rw [if_neg (lN_ne0 h0 hb), pk_lRem ha h0 hb]
theorem ldv_ok {a b : Nat} (ha : a < 2 ^ 63) (h0 : 0 < b) (hb : b < 2 ^ 63) : pv_ldv (lN a) (lN b) = some (lN (a / b)) := by
  unfold pv_ldv
  rw [if_neg (lN_ne0 h0 hb), pk_lDiv ha h0 hb]
theorem op37 : OP37 Inv := by
  intro a b s T h
  obtain ⟨n, K, nm, ds, kd, ht⟩ := h.2.2.2
  obtain ⟨hF, hC, hM, hR⟩ := ht.view
  have hn := hF.1
  have hlen := ht.2.1.1.1
  have hD := ht.2.1.2.1
  have h18 := ht.2.1.2.2.2.1
  obtain ⟨w, hw, hwC, hwM⟩ := h.way_
  unfold f91_days f203_days
  rw [in_eq, in_eq]
  rcases pk_ix a (n := 61) (by omega) with ha | ha | ⟨p, hp, rfl⟩
  · have a1 : a < (1:Int32) := (cmp_neg ha 1 (by omega)).2.1
    rw [if_pos a1, if_pos a1]
    exact ⟨-1, s, T, rfl, rfl, h⟩
  · obtain ⟨-, -, c3, c4⟩ := cmp_big ha (by omega)
    have a1 : ¬ a < (1:Int32) := (c4 1 (by omega)).2
    have a2 : (60:Int32) < a := (c3 60 (by omega)).2
    rw [if_neg a1, if_neg a1, if_pos a2, if_pos a2]
    exact ⟨-1, s, T, rfl, rfl, h⟩
  by_cases hp0 : p = 0
  · subst hp0
    rw [if_pos (show nI 0 < (1:Int32) by decide), if_pos (show nI 0 < (1:Int32) by decide)]
    exact ⟨-1, s, T, rfl, rfl, h⟩
  rw [if_neg (show ¬ nI p < (1:Int32) from nI_nlt (b := 1) (by omega) (by omega)), if_neg (show ¬ nI p < (1:Int32) from nI_nlt (b := 1) (by omega) (by omega)), if_neg (show ¬ (60:Int32) < nI p from nI_nlt (a := 60) (by omega) (by omega)), if_neg (show ¬ (60:Int32) < nI p from nI_nlt (a := 60) (by omega) (by omega))]
  simp only [bs]
  rw [if_neg (show ¬ (1:Int32) = 0 by decide)]
  rcases pk_ix b (n := 2147483647) (by omega) with hb | hb | ⟨m, hm, rfl⟩
  · have a1 : b < (1:Int32) := (cmp_neg hb 1 (by omega)).2.1
    rw [if_pos a1, if_pos a1]
    exact ⟨-1, s, T, rfl, rfl, h⟩
  · obtain ⟨-, -, c3, c4⟩ := cmp_big hb (by omega)
    have a1 : ¬ b < (1:Int32) := (c4 1 (by omega)).2
    have a2 : (2147483646:Int32) < b := (c3 2147483646 (by omega)).2
    have a3 : ¬ lg_cmp b.toInt64 (2147483647:Int64) < 0 := by
      rw [lg_cmp_lt, Int64.lt_iff_toInt_lt, Int32.toInt_toInt64, show (2147483647:Int64).toInt = 2147483647 from by decide]
      rw [Int32.le_iff_toInt_le, nI_toInt (by omega)] at hb
      omega
    rw [if_neg a1, if_neg a1, if_pos a2, if_neg a3]
    exact ⟨-1, s, T, rfl, rfl, h⟩
  by_cases hm0 : m = 0
  · subst hm0
    rw [if_pos (show nI 0 < (1:Int32) by decide), if_pos (show nI 0 < (1:Int32) by decide)]
    exact ⟨-1, s, T, rfl, rfl, h⟩
  have a3 : lg_cmp (nI m).toInt64 (2147483647:Int64) < 0 := by
    rw [lg_cmp_lt, nI_l (by omega)]
    exact (lN_lt (b := 2147483647) (by omega) (by omega)).mpr hm
  rw [if_neg (show ¬ nI m < (1:Int32) from nI_nlt (b := 1) (by omega) (by omega)), if_neg (show ¬ nI m < (1:Int32) from nI_nlt (b := 1) (by omega) (by omega)), if_neg (show ¬ (2147483646:Int32) < nI m from nI_nlt (a := 2147483646) (by omega) (by omega)), if_pos a3, hC.1, hM.1]
  rw [if_neg (show ¬ (1:Int32) = 0 by decide)]
  by_cases hn2 : n < 2
  · rw [if_neg (show ¬ (2:Int32) ≤ nI n from nI_ge (b := 2) hn2 (by omega)), if_neg (show ¬ (2:Int32) ≤ nI n from nI_ge (b := 2) hn2 (by omega))]
    exact ⟨_, s, T, rfl, rfl, h⟩
  rw [if_pos (show (2:Int32) ≤ nI n from nI_le (a := 2) (by omega) (by omega)), if_pos (show (2:Int32) ≤ nI n from nI_le (a := 2) (by omega) (by omega)), h18, nI_add]
  unfold f1_hasRoomFor
  rw [hD.1, nI_add]
  by_cases hr : 60 < ds.length + p
  · rw [if_pos (show (60:Int32) < nI (ds.length + p) from nI_lt (a := 60) hr (by omega)), if_neg (show ¬ nI (ds.length + p) ≤ (60:Int32) from nI_ge (a := 60) hr (by omega))]
    simp only [bs, pv_bl0]
    exact ⟨_, s, T, rfl, rfl, h⟩
  rw [if_neg (show ¬ (60:Int32) < nI (ds.length + p) from nI_nlt (a := 60) (by omega) (by omega)), if_pos (show nI (ds.length + p) ≤ (60:Int32) from nI_le (b := 60) (by omega) (by omega))]
  simp only [bs, pv_bl1]
  rw [if_neg (show ¬ (1:Int32) = 0 by decide), nI_l (by omega)]
  obtain ⟨e, e', g1, g2, g3⟩ := two_loops (lq_eqs (f91_days_b1 (nI p))) (lq_eqs (f203_days_b1 (nI p))) (fun i (a : Int32 × Int64 × Int32 × pv_F) (b : Int64 × Int32 × Int32 × pv_T) => ∃ L ds', a.1 = b.2.1 ∧ a.2.1 = lN L ∧ b.1 = lN L ∧ L < 2147483647 ∧ a.2.2.1 = nI i ∧ b.2.2.1 = nI i ∧ Inv a.2.2.2 b.2.2.2 ∧ Town a.2.2.2 b.2.2.2 n K nm ds' kd ∧ ds'.length ≤ ds.length + i ∧ a.2.2.2 0 = s 0) (fun a b => a.1 = b.2.1 ∧ Inv a.2.2.2 b.2.2.2) p (fun i a b hi hP => by
    obtain ⟨v3, v4, v6, S⟩ := a
    obtain ⟨u3, u5, u6, U⟩ := b
    obtain ⟨L, ds', p1, p2, p3, p4, p5, p6, p7, p8, p9, p10⟩ := hP
    simp only at p1 p2 p3 p5 p6 p7 p8 p10
    subst p1 p2 p3 p5 p6
    obtain ⟨hF', hC', hM', hR'⟩ := p8.view
    unfold f91_days_b1 f203_days_b1
    simp only
    by_cases e : i = p
    · subst e
      rw [if_pos (nI_le (by omega) (by omega)), if_pos (nI_le (by omega) (by omega))]
      exact Or.inr ⟨_, _, rfl, rfl, rfl, p7⟩
    rw [if_neg (nI_ge (by omega) (by omega)), if_neg (nI_ge (by omega) (by omega)), show (48271:Int64) * lN L = lN (48271 * L) from lN_mul 48271 L, show pv_lrm (lN (48271 * L)) (2147483647:Int64) = some (lN (48271 * L % 2147483647)) from lrm_ok (b := 2147483647) (by omega) (by omega) (by omega)]
    simp only [bs]
    have hL' : 48271 * L % 2147483647 < 2147483647 := Nat.mod_lt _ (by omega)
    generalize 48271 * L % 2147483647 = M at hL'
    rw [hC'.1, hM'.1, nI_l (by omega), lrm_ok (by omega) (by omega) (by omega), show pv_ldv (lN M) (64:Int64) = some (lN (M / 64)) from ldv_ok (b := 64) (by omega) (by omega) (by omega)]
    simp only [bs]
    have h64 : M / 64 < 2147483647 := by omega
    rw [lrm_ok (by omega) (by omega) (by omega)]
    simp only [bs]
    rw [lN_i, lN_i]
    have hx : M % n < n := Nat.mod_lt _ (by omega)
    have hy : M / 64 % n < n := Nat.mod_lt _ (by omega)
    generalize M % n = x at hx
    generalize M / 64 % n = y at hy
    rw [canCall_ok hF' hC' hx hy, mayCall_ok hF' hM' hx hy, nI_1]
    simp only [bs]
    refine Or.inl ⟨by omega, ?_⟩
    by_cases hc : canA K (runA K n (A_0 nm) ds').1 x y = true
    · rw [if_pos hc, if_neg (show ¬ (1:Int32) = 0 by decide), if_neg (show ¬ (1:Int32) = 0 by decide)]
      obtain ⟨v, s2, T1, T2, q1, q2, q3, q4, q5, q6⟩ := callStep p7 p8 (by omega) hx hy hc hw (by
        rw [p7.1.2.2.1, p10]; exact hwC)
      rw [show S 0 6 = nI w from by rw [p10]; exact hwC, q1, q2]
      simp only [bs]
      rw [q3]
      simp only [bs]
      exact ⟨_, _, rfl, rfl, M, _, rfl, rfl, rfl, hL', rfl, rfl, q4, q5, by simp only [List.length_append, List.length_cons, List.length_nil]; omega, by simp only; rw [q6]; exact p10⟩
    · rw [if_neg hc, if_pos rfl, if_pos rfl]
      simp only [bs]
      exact ⟨_, _, rfl, rfl, M, ds', rfl, rfl, rfl, hL', rfl, rfl, p7, p8, by omega, p10⟩) ((0:Int32), lN m, (0:Int32), s) (lN m, (0:Int32), (0:Int32), T) ⟨m, ds, rfl, rfl, rfl, hm, nI_0.symm, nI_0.symm, h, ht, by omega, rfl⟩ (by omega)
  obtain ⟨v3, v4, v6, S⟩ := e
  obtain ⟨u3, u5, u6, U⟩ := e'
  simp only at g3
  rw [g1, g2]
  simp only [bs]
  exact ⟨_, _, _, rfl, by rw [g3.1], g3.2⟩
