/-! ORDER: both searches -/
theorem bits_one {p z : Nat} (hp : p < z) : bits (fun y => decide (y = p)) z = 2 ^ p := by
  apply Nat.eq_of_testBit_eq
  intro i
  rw [bits_tb, Nat.testBit_two_pow]
  by_cases e : i = p
  · subst e; simp [hp]
  · have e' : ¬ p = i := fun q => e q.symm
    simp [e, e']
theorem bits_set {u : Nat → Bool} {z p : Nat} (hp : p < z) (hz : z ≤ 7) : nI (bits u z) ||| ((1:Int32) <<< (nI p &&& 31)) = nI (bits (fun y => u y || decide (y = p)) z) := by
  rw [one_shl (by omega), nI_or, ← bits_one hp, bits_or]
theorem bits_all : ∀ z, bits (fun _ => true) z = 2 ^ z - 1 := by
  intro z
  induction z with
  | zero => rfl
  | succ z ih =>
    have := Nat.two_pow_pos z
    rw [bits, ih, if_pos rfl, Nat.pow_succ]
    omega
theorem used_ush {u : Nat → Bool} {z p : Nat} (hp : p < z) (hz : z ≤ 6) : (pv_ush (nI (bits u z)) (nI p)) &&& (1:Int32) = if u p then 1 else 0 := by
  have := bits_128 u (show z ≤ 7 by omega)
  rw [ush_bit (by omega) (by omega), bits_bit]
  cases h : u p
  · rw [if_neg (fun q => by simp at q)]; rfl
  · rw [if_pos ⟨hp, rfl⟩]; rfl
theorem left_has {u : Nat → Bool} {z p : Nat} (hp : p < z) (hz : z ≤ 6) : f117_has (nI (bits (fun i => !u i) z)) (nI p) = some (if u p then 0 else 1) := by
  have := bits_128 (fun i => !u i) (show z ≤ 7 by omega)
  rw [has_ok (by omega) (by omega), bits_bit]
  cases h : u p
  · simp [hp]
  · simp
theorem left_clr {u : Nat → Bool} {z p : Nat} (hp : p < z) (hz : z ≤ 6) : nI (bits (fun i => !u i) z) &&& (((1:Int32) <<< (nI p &&& 31)) ^^^ (-1:Int32)) = nI (bits (fun i => !(u i || decide (i = p))) z) := by
  rw [clr_set (by omega) hp]
  exact congrArg nI (bits_congr fun y hy => by cases u y <;> simp)
theorem orderIdle {n r z w a0 f : Nat} {K : Nat → Nat} {B X : Nat → Nat} (hr : r < 6) (hz : z ≤ 6) (hw : w ≤ 2) (hBX : ∀ i, i < z → B i < n ∧ X i < n) : ∀ (d g k m : Nat) (u : Nat → Bool) (A : TS) (T : pv_T), k + d = z → d < g → oLm n w a0 K k m A T → T.1 96 r = nI z → (∀ i, i < z → T.1 97 (40 * r + i) = nI (100 * B i + X i)) → T.1 94 30 = nI f → f ≤ m → ∃ T', f188_orderOn g (nI r) (nI k) (nI (bits (fun i => !u i) z)) T = some T' ∧ iKeep k T T' := by
  intro d
  induction d with
  | zero =>
    intro g k m u A T hk hg hL h96 h97 hf hfm
    obtain ⟨g, rfl⟩ : ∃ q, g = q + 1 := ⟨g - 1, by omega⟩
    obtain rfl : k = z := by omega
    show ∃ T', f188_orderOn_s (f188_orderOn g) (nI r) (nI k) (nI (bits (fun i => !u i) k)) T = some T' ∧ _
    unfold f188_orderOn_s
    rw [rd_nI hr, h96]
    simp only [bs]
    rw [if_pos True.intro, meet_idle hL hz hf hfm]
    exact ⟨T, rfl, fun _ _ _ _ => rfl, fun _ _ => rfl, fun _ _ => rfl, fun _ _ => rfl⟩
  | succ d ih =>
    intro g k m u A T hk hg hL h96 h97 hf hfm
    obtain ⟨g, rfl⟩ : ∃ q, g = q + 1 := ⟨g - 1, by omega⟩
    have hn := hL.1.1
    have hm7 := hL.2.2.2.2.2
    show ∃ T', f188_orderOn_s (f188_orderOn g) (nI r) (nI k) (nI (bits (fun i => !u i) z)) T = some T' ∧ _
    unfold f188_orderOn_s
    rw [rd_nI hr, h96]
    simp only [bs]
    rw [if_neg (fun q => by have := (nI_eq (by omega) (by omega)).mp q; omega)]
    obtain ⟨T1, k1, k2, k3, k4⟩ := saveM T (show k < 6 by omega)
    rw [k1]
    simp only [bs]
    obtain ⟨e, g1, g2⟩ := lq_inv (B := f188_orderOn_b1 (f188_orderOn g) (nI r) (nI k) (nI (bits (fun i => !u i) z))) (P := fun i st => st.1 = nI i ∧ iKeep k T st.2 ∧ ∀ i, i < 78 → st.2.1 112 (78 * k + i) = st.2.1 105 i) (Q := fun st => iKeep k T st.2) z (fun i st hi hP => by
      obtain ⟨v, U⟩ := st
      obtain ⟨p1, p2, p3⟩ := hP
      simp only at p1 p2 p3
      subst p1
      have hLU : oLm n w a0 K k m A U := hL.frame (fun j hj => by rw [p2.1 94 (by decide) (by decide) (by decide)]) (p2.1 101 (by decide) (by decide) (by decide)) p2.2.2.2
      have hu : 100 * B i + X i < 2 ^ 31 := by have := hBX i hi; omega
      have hd : (100 * B i + X i) / 100 = B i := by have := hBX i hi; omega
      have hm : (100 * B i + X i) % 100 = X i := by have := hBX i hi; omega
      unfold f188_orderOn_b1
      simp only
      rw [rd_nI hr, p2.1 96 (by decide) (by decide) (by decide), h96]
      simp only [bs]
      rw [if_neg (nI_ge hi (by omega)), rowAt_ok hr (by omega), p2.1 97 (by decide) (by decide) (by decide), h97 i hi, left_has hi hz, nI_1 i]
      simp only [bs]
      cases hui : u i
      · rw [if_neg (show ¬ (if false = true then (0:Int32) else 1) = 0 by decide), dv100 hu, rmd100 hu, hd, hm]
        simp only [bs]
        rw [mayCall_ok hLU.1 hLU.2.1 (hBX i hi).1 (hBX i hi).2]
        simp only [bs]
        cases hc : canA K A.1 (B i) (X i)
        · rw [if_pos (show (if false = true then (1:Int32) else 0) = 0 from rfl)]
          simp only [bs]
          exact ⟨_, rfl, rfl, p2, p3⟩
        · rw [if_neg (show ¬ (if true = true then (1:Int32) else 0) = 0 by decide), left_clr hi hz, nI_1 k]
          obtain ⟨q, U2, U3, U4, c1, c2, c3, c4, c5, c6⟩ := branchIdle (f := f) (v := nI i) (recM := f188_orderOn g (nI r) (nI (k + 1)) (nI (bits (fun j => !(u j || decide (j = i))) z))) (show k < 6 by omega) hw (hBX i hi).1 (hBX i hi).2 hLU hc (fun U2 hL2 hU2 => ih g (k + 1) _ (fun j => u j || decide (j = i)) _ U2 (by omega) (by omega) hL2 (by rw [hU2 96 (by decide) (by decide), p2.1 96 (by decide) (by decide) (by decide)]; exact h96) (fun j hj => by rw [hU2 97 (by decide) (by decide), p2.1 97 (by decide) (by decide) (by decide)]; exact h97 j hj) (by rw [hU2 94 (by decide) (by decide), p2.1 94 (by decide) (by decide) (by decide)]; exact hf) (by omega)) p3
          rw [c1]
          simp only [bs]
          rw [c2]
          simp only [bs]
          rw [c3]
          simp only [bs]
          rw [c4]
          simp only [bs]
          exact ⟨_, rfl, rfl, ⟨fun c e1 e2 e3 => (c5.1 c e1 e2 e3).trans (p2.1 c e1 e2 e3), fun j hj => (c5.2.1 j hj).trans (p2.2.1 j hj), fun j hj => (c5.2.2.1 j hj).trans (p2.2.2.1 j hj), fun j hj => (c5.2.2.2 j hj).trans (p2.2.2.2 j hj)⟩, c6⟩
      · rw [if_pos (show (if true = true then (0:Int32) else 1) = 0 from rfl)]
        simp only [bs]
        exact ⟨_, rfl, rfl, p2, p3⟩) (fun st hP => by
      obtain ⟨v, U⟩ := st
      obtain ⟨p1, p2, p3⟩ := hP
      simp only at p1 p2 p3
      subst p1
      unfold f188_orderOn_b1
      simp only
      rw [rd_nI hr, p2.1 96 (by decide) (by decide) (by decide), h96]
      simp only [bs]
      rw [if_pos (nI_le (by omega) (by omega))]
      exact ⟨_, rfl, p2⟩) ((0:Int32), T1) ⟨nI_0.symm, ⟨fun c c1 c2 c3 => k3 c c2, k4, fun j hj => by rw [k3 113 (by decide)], fun i hi => by rw [k3 105 (by decide)]⟩, fun i hi => by
        simp only
        rw [k2 i hi, k3 105 (by decide)]⟩
    rw [g1]
    obtain ⟨v, U⟩ := e
    exact ⟨U, rfl, g2⟩
theorem orderSim {n r z w a0 : Nat} {K : Nat → Nat} {B X : Nat → Nat} (hr : r < 6) (hz : z ≤ 6) (hw : w ≤ 2) : ∀ (d g k m : Nat) (u : Nat → Bool) (A : TS) (s : pv_F) (T : pv_T) (o : Option Nat), k + d = z → d < g → oLv n w a0 K k m A s T → Calls s T n r z B X → bR o z s T → olt m o → ∃ s' T' o', f37_seekOrder g (74 + 2 * r) (nI k) (nI (bits u z)) (nI m) s = some s' ∧ f188_orderOn g (nI r) (nI k) (nI (bits (fun i => !u i) z)) T = some T' ∧ bR o' z s' T' ∧ sKeep k s s' T T' ∧ ∀ i, i < 78 → T'.1 105 i = T.1 105 i := by
  intro d
  induction d with
  | zero =>
    intro g k m u A s T o hk hg hL hR hB hlt
    obtain ⟨g, rfl⟩ : ∃ q, g = q + 1 := ⟨g - 1, by omega⟩
    obtain rfl : k = z := by omega
    show ∃ s' T' o', f37_seekOrder_s (f37_seekOrder g) (74 + 2 * r) (nI k) (nI (bits u k)) (nI m) s = some s' ∧ f188_orderOn_s (f188_orderOn g) (nI r) (nI k) (nI (bits (fun i => !u i) k)) T = some T' ∧ _
    unfold f37_seekOrder_s f188_orderOn_s
    rw [hR.2.1, if_pos (nI_le (by omega) (by omega)), rd_nI hr, hR.2.2.1]
    simp only [bs]
    rw [if_pos True.intro]
    obtain ⟨s', T', a1, a2, a3, a4, a5⟩ := leafSim hL hz hB hlt
    rw [a1, a2]
    exact ⟨s', T', some m, rfl, rfl, a3, a4, a5⟩
  | succ d ih =>
    intro g k m u A s T o hk hg hL hR hB hlt
    obtain ⟨g, rfl⟩ : ∃ q, g = q + 1 := ⟨g - 1, by omega⟩
    have hn := hL.1.1.1
    have hm7 := hL.1.2.2.2.2.2
    have hBX : ∀ i, i < z → B i < n ∧ X i < n := fun i hi => ⟨(hR.2.2.2 i hi).1, (hR.2.2.2 i hi).2.1⟩
    show ∃ s' T' o', f37_seekOrder_s (f37_seekOrder g) (74 + 2 * r) (nI k) (nI (bits u z)) (nI m) s = some s' ∧ f188_orderOn_s (f188_orderOn g) (nI r) (nI k) (nI (bits (fun i => !u i) z)) T = some T' ∧ _
    unfold f37_seekOrder_s f188_orderOn_s
    rw [hR.2.1, if_neg (nI_ge (by omega) (by omega)), if_pos (show nI k < (6:Int32) from nI_lt (b := 6) (by omega) (by omega)), rd_nI hr, hR.2.2.1]
    simp only [bs]
    rw [if_neg (fun q => by have := (nI_eq (by omega) (by omega)).mp q; omega)]
    obtain ⟨T1, k1, k2, k3, k4⟩ := saveM T (show k < 6 by omega)
    rw [k1]
    simp only [bs]
    obtain ⟨e, e', g1, g2, g3⟩ := two_loops (lq_eqs (f37_seekOrder_b1 (f37_seekOrder g) (74 + 2 * r) (nI k) (nI (bits u z)) (nI m))) (lq_eqs (f188_orderOn_b1 (f188_orderOn g) (nI r) (nI k) (nI (bits (fun i => !u i) z)))) (fun p (a : Int32 × pv_F) (c : Int32 × pv_T) => ∃ o, a.1 = nI p ∧ c.1 = nI p ∧ bR o z a.2 c.2 ∧ sKeep k s a.2 T c.2 ∧ (∀ i, i < 78 → c.2.1 105 i = T.1 105 i) ∧ ∀ i, i < 78 → c.2.1 112 (78 * k + i) = c.2.1 105 i) (fun (a : Int32 × pv_F) (c : Int32 × pv_T) => ∃ o, bR o z a.2 c.2 ∧ sKeep k s a.2 T c.2 ∧ ∀ i, i < 78 → c.2.1 105 i = T.1 105 i) z (fun p a c hp hP => by
      obtain ⟨v, S⟩ := a
      obtain ⟨v', U⟩ := c
      obtain ⟨o, p1, p2, p3, p4, p5, p6⟩ := hP
      simp only at p1 p2 p3 p4 p5 p6
      subst p1 p2
      obtain ⟨⟨a1, a2, a3⟩, a4, a5, a6, a7⟩ := p4
      have hRU : Calls S U n r z B X := hR.frame (a1 _ (by omega) (by omega) (by omega) (by omega) (by omega)) (a1 _ (by omega) (by omega) (by omega) (by omega) (by omega)) (a4 96 (by decide) (by decide) (by decide) (by decide) (by decide) (by decide)) (a4 97 (by decide) (by decide) (by decide) (by decide) (by decide) (by decide))
      have hLU : oLm n w a0 K k m A U := hL.1.frame (fun j hj => a5 j (by omega) (by omega) (by omega)) (a4 101 (by decide) (by decide) (by decide) (by decide) (by decide) (by decide)) p5
      have hCS : FC S (45 + 4 * k) n K A.1 A.2.1 := hL.2.1.frame (fun c hc => a1 c (by omega) (by omega) (by omega) (by omega) (by omega))
      have hLS : oLv n w a0 K k m A S U := ⟨hLU, hCS, by rw [a2]; exact hL.2.2.1, fun j hj => by rw [a3 j hj, a7 j hj]; exact hL.2.2.2 j hj⟩
      have p4 : sKeep k s S T U := ⟨⟨a1, a2, a3⟩, a4, a5, a6, a7⟩
      unfold f37_seekOrder_b1 f188_orderOn_b1
      simp only
      rw [hRU.2.1, rd_nI (s := U.1) hr, hRU.2.2.1]
      simp only [bs]
      by_cases e : p = z
      · subst e
        rw [if_pos (nI_le (by omega) (by omega)), if_pos (nI_le (by omega) (by omega))]
        exact Or.inr ⟨_, _, rfl, rfl, o, p3, p4, p5⟩
      have hpz : p < z := by omega
      refine Or.inl ⟨hpz, ?_⟩
      obtain ⟨b1, b2, b3, b4, b5⟩ := hRU.2.2.2 p hpz
      have hu : 100 * B p + X p < 2 ^ 31 := by omega
      have hd : (100 * B p + X p) / 100 = B p := by omega
      have hm : (100 * B p + X p) % 100 = X p := by omega
      have e75 : S (74 + 2 * r + 1) p = nI (100 * B p + X p) := by
        rw [show 74 + 2 * r + 1 = 75 + 2 * r by omega]; exact b4
      rw [if_neg (nI_ge hpz (by omega)), if_neg (nI_ge hpz (by omega)), an_r hr, rd_nI (by omega), e75, rowAt_ok hr (by omega), b5, left_has hpz hz, used_ush hpz hz, nI_1 p]
      simp only [bs]
      rw [dv100 hu, rmd100 hu, hd, hm]
      simp only [bs]
      have hb0 : f224_bitCount (0:Int32) = some (nI (popc 0)) := (popc_ok (a := 0) (by omega)).1
      cases hui : u p
      · rw [if_pos (show (if false = true then (1:Int32) else 0) = 0 from rfl), if_neg (show ¬ (if false = true then (0:Int32) else 1) = 0 by decide)]
        simp only [bs]
        rw [if_neg (show ¬ (1:Int32) = 0 by decide), ra_l (show k < 7 by omega), mayCall_ok hLU.1 hLU.2.1 b1 b2]
        simp only [bs]
        rcases comersQ hLU.1 hCS b1 b2 with ⟨q1, q2⟩ | ⟨q1, q2, q3⟩
        · rw [q1, q2]
          simp only [bs]
          rw [hb0, if_pos (show (if false = true then (1:Int32) else 0) = 0 from rfl)]
          simp only [bs]
          rw [if_pos True.intro]
          simp only [bs]
          exact ⟨_, _, rfl, rfl, o, rfl, rfl, p3, p4, p5, p6⟩
        · have hb8 := bits_128 (comeB K n A.1 (B p) (X p)) hn
          have hp0 := call_pos (n := n) b2 q1
          have hpp := popc_pos hp0 hb8
          have hpl := popc_le (bits (comeB K n A.1 (B p) (X p)) n)
          rw [q1, q2]
          simp only [bs]
          rw [(popc_ok hb8).1, if_neg (show ¬ (if True then (1:Int32) else 0) = 0 by decide)]
          simp only [bs]
          rw [if_neg q3, nI_add, show nI (m + popc (bits (comeB K n A.1 (B p) (X p)) n)) - (1:Int32) = nI (m + (popc (bits (comeB K n A.1 (B p) (X p)) n) - 1)) from by
            rw [show (1:Int32) = nI 1 from by decide, pk_sub (by omega)]
            exact congrArg nI (by omega)]
          rw [left_clr hpz hz, bits_set hpz (by omega), nI_1 k]
          rcases p3.test (show m + (popc (bits (comeB K n A.1 (B p) (X p)) n) - 1) ≤ 999 by omega) with ⟨t1, t2⟩ | ⟨t1, f, t2, t3⟩
          · rw [if_neg t1]
            obtain ⟨S2, S3, q, U2, U3, U4, o', c1, c2, c3, c4, c5, c6, c7, c8, c9, c10, c11⟩ := branchSim (v := nI p) (o := o) (z := z) (recC := f37_seekOrder g (74 + 2 * r) (nI (k + 1)) (nI (bits (fun y => u y || decide (y = p)) z)) (nI (m + (popc (bits (comeB K n A.1 (B p) (X p)) n) - 1)))) (recM := f188_orderOn g (nI r) (nI (k + 1)) (nI (bits (fun j => !(u j || decide (j = p))) z))) (show k < 6 by omega) hw b1 b2 hLS q1 p3 (fun S2 U2 hL2 hS2 hU2 hB2 => by
              obtain ⟨s', T', o', x1, x2, x3, x4, x5⟩ := ih g (k + 1) _ (fun j => u j || decide (j = p)) _ S2 U2 o (by omega) (by omega) hL2 (hRU.frame (hS2 _ (by omega)) (hS2 _ (by omega)) (hU2 96 (by decide) (by decide)) (hU2 97 (by decide) (by decide))) hB2 t2
              exact ⟨s', T', o', x1, x2, x3, x4⟩) p6
            rw [c1, c4]
            simp only [bs]
            rw [c2, c5]
            simp only [bs]
            rw [c3, c6]
            simp only [bs]
            rw [c7]
            simp only [bs]
            exact ⟨_, _, rfl, rfl, o', rfl, rfl, c8, p4.trans c9, fun i hi => (c10 i hi).trans (p5 i hi), c11⟩
          · rw [if_pos t1]
            simp only [bs]
            obtain ⟨q, U2, U3, U4, c1, c2, c3, c4, c5, c6⟩ := branchIdle (f := f) (v := nI p) (recM := f188_orderOn g (nI r) (nI (k + 1)) (nI (bits (fun j => !(u j || decide (j = p))) z))) (show k < 6 by omega) hw b1 b2 hLU q1 (fun U2 hL2 hU2 => orderIdle hr hz hw hBX d g (k + 1) _ (fun j => u j || decide (j = p)) _ U2 (by omega) (by omega) hL2 (by rw [hU2 96 (by decide) (by decide)]; exact hRU.2.2.1) (fun j hj => by rw [hU2 97 (by decide) (by decide)]; exact (hRU.2.2.2 j hj).2.2.2.2) (by rw [hU2 94 (by decide) (by decide)]; exact t3) t2) p6
            rw [c1]
            simp only [bs]
            rw [c2]
            simp only [bs]
            rw [c3]
            simp only [bs]
            rw [c4]
            simp only [bs]
            exact ⟨_, _, rfl, rfl, o, rfl, rfl, p3.frame rfl rfl (c5.1 94 (by decide) (by decide) (by decide)) (c5.1 114 (by decide) (by decide) (by decide)), p4.trans (c5.keep S), fun i hi => (c5.2.2.2 i hi).trans (p5 i hi), c6⟩
      · rw [if_neg (show ¬ (if true = true then (1:Int32) else 0) = 0 by decide), if_pos (show (if true = true then (0:Int32) else 1) = 0 from rfl)]
        simp only [bs]
        rw [if_pos True.intro]
        simp only [bs]
        rw [hb0]
        simp only [bs]
        rw [if_pos True.intro]
        simp only [bs]
        exact ⟨_, _, rfl, rfl, o, rfl, rfl, p3, p4, p5, p6⟩) ((0:Int32), s) ((0:Int32), T1) ⟨o, nI_0.symm, nI_0.symm, hB.frame rfl rfl (k3 94 (by decide)) (k3 114 (by decide)), ⟨⟨fun _ _ _ _ _ _ => rfl, rfl, fun _ _ => rfl⟩, fun c c1 c2 c3 c4 c5 c6 => k3 c c3, fun j j1 j2 j3 => by rw [k3 94 (by decide)], fun j hj => k4 j hj, fun j hj => by rw [k3 113 (by decide)]⟩, fun i hi => by rw [k3 105 (by decide)], fun i hi => by
        simp only
        rw [k2 i hi, k3 105 (by decide)]⟩ (by omega)
    rw [g1, g2]
    obtain ⟨v, S⟩ := e
    obtain ⟨v', U⟩ := e'
    obtain ⟨o', y1, y2, y3⟩ := g3
    exact ⟨S, U, o', rfl, rfl, y1, y2, y3⟩
