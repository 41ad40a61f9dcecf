/-! CALLERS -/
def Cld (s : pv_F) (T : pv_T) (n r z : Nat) (X : Nat → Nat) : Prop := s (74 + 2 * r) 2 = nI z ∧ T.1 96 r = nI z ∧ ∀ i, i < z → X i < n ∧ s (75 + 2 * r) i = nI (X i) ∧ T.1 97 (40 * r + i) = nI (X i)
theorem Cld.frame {s s' : pv_F} {T T' : pv_T} {n r z : Nat} {X : Nat → Nat} (h : Cld s T n r z X) (h1 : s' (74 + 2 * r) = s (74 + 2 * r)) (h2 : s' (75 + 2 * r) = s (75 + 2 * r)) (h3 : T'.1 96 = T.1 96) (h4 : T'.1 97 = T.1 97) : Cld s' T' n r z X := by
  unfold Cld
  rw [h1, h2, h3, h4]
  exact h
theorem callersIdle {n r z w a0 f : Nat} {K : Nat → Nat} {X : Nat → Nat} (hr : r < 6) (hz : z ≤ 5) (hw : w ≤ 2) (hX : ∀ i, i < z → X i < n) : ∀ (d g k m : Nat) (A : TS) (T : pv_T), k + d = z → d < g → oLm n w a0 K k m A T → T.1 96 r = nI z → (∀ i, i < z → T.1 97 (40 * r + i) = nI (X i)) → T.1 94 30 = nI f → f ≤ m → ∃ T', f191_callersOn g (nI r) (nI k) T = some T' ∧ iKeep k T T' := by
  intro d
  induction d with
  | zero =>
    intro g k m A T hk hg hL h96 h97 hf hfm
    obtain ⟨g, rfl⟩ : ∃ q, g = q + 1 := ⟨g - 1, by omega⟩
    obtain rfl : k = z := by omega
    show ∃ T', f191_callersOn_s (f191_callersOn g) (nI r) (nI k) T = some T' ∧ _
    unfold f191_callersOn_s
    rw [rd_nI hr, h96]
    simp only [bs]
    rw [if_pos True.intro, meet_idle hL (by omega) hf hfm]
    exact ⟨T, rfl, fun _ _ _ _ => rfl, fun _ _ => rfl, fun _ _ => rfl, fun _ _ => rfl⟩
  | succ d ih =>
    intro g k m A T hk hg hL h96 h97 hf hfm
    obtain ⟨g, rfl⟩ : ∃ q, g = q + 1 := ⟨g - 1, by omega⟩
    have hn := hL.1.1
    have hm7 := hL.2.2.2.2.2
    have hxn := hX k (by omega)
    show ∃ T', f191_callersOn_s (f191_callersOn g) (nI r) (nI k) T = some T' ∧ _
    unfold f191_callersOn_s
    rw [rd_nI hr, h96]
    simp only [bs]
    rw [if_neg (fun q => by have := (nI_eq (by omega) (by omega)).mp q; omega)]
    obtain ⟨T1, k1, k2, k3, k4⟩ := saveM T (show k < 6 by omega)
    rw [k1]
    simp only [bs]
    obtain ⟨e, g1, g2⟩ := lq_inv (B := f191_callersOn_b1 (f191_callersOn g) (nI r) (nI k)) (P := fun i st => st.1 = nI i ∧ iKeep k T st.2 ∧ ∀ i, i < 78 → st.2.1 112 (78 * k + i) = st.2.1 105 i) (Q := fun st => iKeep k T st.2) n (fun i st hi hP => by
      obtain ⟨v, U⟩ := st
      obtain ⟨p1, p2, p3⟩ := hP
      simp only at p1 p2 p3
      subst p1
      have hLU : oLm n w a0 K k m A U := hL.frame (fun j hj => by rw [p2.1 94 (by decide) (by decide) (by decide)]) (p2.1 101 (by decide) (by decide) (by decide)) p2.2.2.2
      have hrow : ∀ V : pv_T, V.1 97 = U.1 97 → f123_rowAt (nI r) (nI k) V = some (nI (X k)) := fun V hV => by
        rw [rowAt_ok hr (by omega), hV, p2.1 97 (by decide) (by decide) (by decide), h97 k (by omega)]
      unfold f191_callersOn_b1
      simp only
      rw [hLU.2.1.1, if_neg (nI_ge hi (by omega)), hrow U rfl, nI_1 i]
      simp only [bs]
      rw [mayCall_ok hLU.1 hLU.2.1 hi hxn]
      simp only [bs]
      cases hc : canA K A.1 i (X k)
      · rw [if_pos (show (if false = true then (1:Int32) else 0) = 0 from rfl)]
        simp only [bs]
        exact ⟨_, rfl, rfl, p2, p3⟩
      · rw [if_neg (show ¬ (if true = true then (1:Int32) else 0) = 0 by decide), nI_1 k]
        obtain ⟨q, U2, U3, U4, c1, c2, c3, c4, c5, c6⟩ := branchIdle (f := f) (v := nI i) (recM := f191_callersOn g (nI r) (nI (k + 1))) (show k < 6 by omega) hw hi hxn hLU hc (fun U2 hL2 hU2 => ih g (k + 1) _ _ U2 (by omega) (by omega) hL2 (by rw [hU2 96 (by decide) (by decide), p2.1 96 (by decide) (by decide) (by decide)]; exact h96) (fun j hj => by rw [hU2 97 (by decide) (by decide), p2.1 97 (by decide) (by decide) (by decide)]; exact h97 j hj) (by rw [hU2 94 (by decide) (by decide), p2.1 94 (by decide) (by decide) (by decide)]; exact hf) (by omega)) p3
        rw [c1]
        simp only [bs]
        rw [hrow (pv_up U.1 113 k (nI i), U.2) (up_ne (j := k) (x := nI i) (show (97:Nat) ≠ 113 by decide))]
        simp only [bs]
        rw [c2]
        simp only [bs]
        rw [c3]
        simp only [bs]
        rw [c4]
        simp only [bs]
        exact ⟨_, rfl, rfl, ⟨fun c e1 e2 e3 => (c5.1 c e1 e2 e3).trans (p2.1 c e1 e2 e3), fun j hj => (c5.2.1 j hj).trans (p2.2.1 j hj), fun j hj => (c5.2.2.1 j hj).trans (p2.2.2.1 j hj), fun j hj => (c5.2.2.2 j hj).trans (p2.2.2.2 j hj)⟩, c6⟩) (fun st hP => by
      obtain ⟨v, U⟩ := st
      obtain ⟨p1, p2, p3⟩ := hP
      simp only at p1 p2 p3
      subst p1
      unfold f191_callersOn_b1
      simp only
      rw [p2.1 94 (by decide) (by decide) (by decide), hL.2.1.1, if_pos (nI_le (by omega) (by omega))]
      exact ⟨_, rfl, p2⟩) ((0:Int32), T1) ⟨nI_0.symm, ⟨fun c c1 c2 c3 => k3 c c2, k4, fun j hj => by rw [k3 113 (by decide)], fun i hi => by rw [k3 105 (by decide)]⟩, fun i hi => by
        simp only
        rw [k2 i hi, k3 105 (by decide)]⟩
    rw [g1]
    obtain ⟨v, U⟩ := e
    exact ⟨U, rfl, g2⟩
theorem callersSim {n r z w a0 : Nat} {K : Nat → Nat} {X : Nat → Nat} (hr : r < 6) (hz : z ≤ 5) (hw : w ≤ 2) : ∀ (d g k m : Nat) (A : TS) (s : pv_F) (T : pv_T) (o : Option Nat), k + d = z → d < g → oLv n w a0 K k m A s T → Cld s T n r z X → bR o z s T → olt m o → ∃ s' T' o', f38_seekCallers g (74 + 2 * r) (nI k) (nI m) s = some s' ∧ f191_callersOn g (nI r) (nI k) T = some T' ∧ bR o' z s' T' ∧ sKeep k s s' T T' ∧ ∀ i, i < 78 → T'.1 105 i = T.1 105 i := by
  intro d
  induction d with
  | zero =>
    intro g k m A s T o hk hg hL hR hB hlt
    obtain ⟨g, rfl⟩ : ∃ q, g = q + 1 := ⟨g - 1, by omega⟩
    obtain rfl : k = z := by omega
    show ∃ s' T' o', f38_seekCallers_s (f38_seekCallers g) (74 + 2 * r) (nI k) (nI m) s = some s' ∧ f191_callersOn_s (f191_callersOn g) (nI r) (nI k) T = some T' ∧ _
    unfold f38_seekCallers_s f191_callersOn_s
    rw [hR.1, if_pos (nI_le (by omega) (by omega)), rd_nI hr, hR.2.1]
    simp only [bs]
    rw [if_pos True.intro]
    obtain ⟨s', T', a1, a2, a3, a4, a5⟩ := leafSim hL (by omega) hB hlt
    rw [a1, a2]
    exact ⟨s', T', some m, rfl, rfl, a3, a4, a5⟩
  | succ d ih =>
    intro g k m A s T o hk hg hL hR hB hlt
    obtain ⟨g, rfl⟩ : ∃ q, g = q + 1 := ⟨g - 1, by omega⟩
    have hn := hL.1.1.1
    have hm7 := hL.1.2.2.2.2.2
    have hX : ∀ i, i < z → X i < n := fun i hi => (hR.2.2 i hi).1
    have hxn := hX k (by omega)
    show ∃ s' T' o', f38_seekCallers_s (f38_seekCallers g) (74 + 2 * r) (nI k) (nI m) s = some s' ∧ f191_callersOn_s (f191_callersOn g) (nI r) (nI k) T = some T' ∧ _
    unfold f38_seekCallers_s f191_callersOn_s
    rw [hR.1, if_neg (nI_ge (by omega) (by omega)), if_pos (show nI k < (5:Int32) from nI_lt (b := 5) (by omega) (by omega)), rd_nI hr, hR.2.1]
    simp only [bs]
    rw [if_neg (fun q => by have := (nI_eq (by omega) (by omega)).mp q; omega)]
    obtain ⟨T1, k1, k2, k3, k4⟩ := saveM T (show k < 6 by omega)
    rw [k1]
    simp only [bs]
    obtain ⟨e, e', g1, g2, g3⟩ := two_loops (lq_eqs (f38_seekCallers_b1 (f38_seekCallers g) (74 + 2 * r) (nI k) (nI m))) (lq_eqs (f191_callersOn_b1 (f191_callersOn g) (nI r) (nI k))) (fun p (a : Int32 × pv_F) (c : Int32 × pv_T) => ∃ o, a.1 = nI p ∧ c.1 = nI p ∧ bR o z a.2 c.2 ∧ sKeep k s a.2 T c.2 ∧ (∀ i, i < 78 → c.2.1 105 i = T.1 105 i) ∧ ∀ i, i < 78 → c.2.1 112 (78 * k + i) = c.2.1 105 i) (fun (a : Int32 × pv_F) (c : Int32 × pv_T) => ∃ o, bR o z a.2 c.2 ∧ sKeep k s a.2 T c.2 ∧ ∀ i, i < 78 → c.2.1 105 i = T.1 105 i) n (fun p a c hp hP => by
      obtain ⟨v, S⟩ := a
      obtain ⟨v', U⟩ := c
      obtain ⟨o, p1, p2, p3, p4, p5, p6⟩ := hP
      simp only at p1 p2 p3 p4 p5 p6
      subst p1 p2
      obtain ⟨⟨a1, a2, a3⟩, a4, a5, a6, a7⟩ := p4
      have hRU : Cld S U n r z X := hR.frame (a1 _ (by omega) (by omega) (by omega) (by omega) (by omega)) (a1 _ (by omega) (by omega) (by omega) (by omega) (by omega)) (a4 96 (by decide) (by decide) (by decide) (by decide) (by decide) (by decide)) (a4 97 (by decide) (by decide) (by decide) (by decide) (by decide) (by decide))
      have hLU : oLm n w a0 K k m A U := hL.1.frame (fun j hj => a5 j (by omega) (by omega) (by omega)) (a4 101 (by decide) (by decide) (by decide) (by decide) (by decide) (by decide)) p5
      have hCS : FC S (45 + 4 * k) n K A.1 A.2.1 := hL.2.1.frame (fun c hc => a1 c (by omega) (by omega) (by omega) (by omega) (by omega))
      have hLS : oLv n w a0 K k m A S U := ⟨hLU, hCS, by rw [a2]; exact hL.2.2.1, fun j hj => by rw [a3 j hj, a7 j hj]; exact hL.2.2.2 j hj⟩
      have p4 : sKeep k s S T U := ⟨⟨a1, a2, a3⟩, a4, a5, a6, a7⟩
      obtain ⟨x1, x2, x3⟩ := hRU.2.2 k (by omega)
      have hrow : ∀ V : pv_T, V.1 97 = U.1 97 → f123_rowAt (nI r) (nI k) V = some (nI (X k)) := fun V hV => by
        rw [rowAt_ok hr (by omega), hV, x3]
      have e75 : S (74 + 2 * r + 1) k = nI (X k) := by
        rw [show 74 + 2 * r + 1 = 75 + 2 * r by omega]; exact x2
      unfold f38_seekCallers_b1 f191_callersOn_b1
      simp only
      rw [ra_l (show k < 7 by omega)]
      simp only [bs]
      rw [hCS.1, hLU.2.1.1]
      by_cases e : p = n
      · subst e
        rw [if_pos (nI_le (by omega) (by omega)), if_pos (nI_le (by omega) (by omega))]
        exact Or.inr ⟨_, _, rfl, rfl, o, p3, p4, p5⟩
      have hpn : p < n := by omega
      refine Or.inl ⟨hpn, ?_⟩
      rw [if_neg (nI_ge hpn (by omega)), if_neg (nI_ge hpn (by omega)), an_r hr, rd_nI (by omega), e75, hrow U rfl, nI_1 p]
      simp only [bs]
      rw [mayCall_ok hLU.1 hLU.2.1 hpn hxn]
      simp only [bs]
      have hb0 : f224_bitCount (0:Int32) = some (nI (popc 0)) := (popc_ok (a := 0) (by omega)).1
      rcases comersQ hLU.1 hCS hpn hxn with ⟨q1, q2⟩ | ⟨q1, q2, q3⟩
      · rw [q1, q2]
        simp only [bs]
        rw [hb0, if_pos (show (if false = true then (1:Int32) else 0) = 0 from rfl)]
        simp only [bs]
        rw [if_pos True.intro]
        simp only [bs]
        exact ⟨_, _, rfl, rfl, o, rfl, rfl, p3, p4, p5, p6⟩
      · have hb8 := bits_128 (comeB K n A.1 p (X k)) hn
        have hp0 := call_pos (n := n) hxn q1
        have hpp := popc_pos hp0 hb8
        have hpl := popc_le (bits (comeB K n A.1 p (X k)) n)
        rw [q1, q2]
        simp only [bs]
        rw [(popc_ok hb8).1, if_neg (show ¬ (if True then (1:Int32) else 0) = 0 by decide)]
        simp only [bs]
        rw [if_neg q3, nI_add, show nI (m + popc (bits (comeB K n A.1 p (X k)) n)) - (1:Int32) = nI (m + (popc (bits (comeB K n A.1 p (X k)) n) - 1)) from by
          rw [show (1:Int32) = nI 1 from by decide, pk_sub (by omega)]
          exact congrArg nI (by omega)]
        rw [nI_1 k]
        rcases p3.test (show m + (popc (bits (comeB K n A.1 p (X k)) n) - 1) ≤ 999 by omega) with ⟨t1, t2⟩ | ⟨t1, f, t2, t3⟩
        · rw [if_neg t1]
          obtain ⟨S2, S3, q, U2, U3, U4, o', c1, c2, c3, c4, c5, c6, c7, c8, c9, c10, c11⟩ := branchSim (v := nI p) (o := o) (z := z) (recC := f38_seekCallers g (74 + 2 * r) (nI (k + 1)) (nI (m + (popc (bits (comeB K n A.1 p (X k)) n) - 1)))) (recM := f191_callersOn g (nI r) (nI (k + 1))) (show k < 6 by omega) hw hpn hxn hLS q1 p3 (fun S2 U2 hL2 hS2 hU2 hB2 => by
            obtain ⟨s', T', o', x1, x2, x3, x4, x5⟩ := ih g (k + 1) _ _ S2 U2 o (by omega) (by omega) hL2 (hRU.frame (hS2 _ (by omega)) (hS2 _ (by omega)) (hU2 96 (by decide) (by decide)) (hU2 97 (by decide) (by decide))) hB2 t2
            exact ⟨s', T', o', x1, x2, x3, x4⟩) p6
          rw [c1, c4]
          simp only [bs]
          rw [hrow (pv_up U.1 113 k (nI p), U.2) (up_ne (j := k) (x := nI p) (show (97:Nat) ≠ 113 by decide)), c2]
          simp only [bs]
          rw [c3, c5]
          simp only [bs]
          rw [c6]
          simp only [bs]
          rw [c7]
          simp only [bs]
          exact ⟨_, _, rfl, rfl, o', rfl, rfl, c8, p4.trans c9, fun i hi => (c10 i hi).trans (p5 i hi), c11⟩
        · rw [if_pos t1]
          simp only [bs]
          obtain ⟨q, U2, U3, U4, c1, c2, c3, c4, c5, c6⟩ := branchIdle (f := f) (v := nI p) (recM := f191_callersOn g (nI r) (nI (k + 1))) (show k < 6 by omega) hw hpn hxn hLU q1 (fun U2 hL2 hU2 => callersIdle hr hz hw hX d g (k + 1) _ _ U2 (by omega) (by omega) hL2 (by rw [hU2 96 (by decide) (by decide)]; exact hRU.2.1) (fun j hj => by rw [hU2 97 (by decide) (by decide)]; exact (hRU.2.2 j hj).2.2) (by rw [hU2 94 (by decide) (by decide)]; exact t3) t2) p6
          rw [c1]
          simp only [bs]
          rw [hrow (pv_up U.1 113 k (nI p), U.2) (up_ne (j := k) (x := nI p) (show (97:Nat) ≠ 113 by decide))]
          simp only [bs]
          rw [c2]
          simp only [bs]
          rw [c3]
          simp only [bs]
          rw [c4]
          simp only [bs]
          exact ⟨_, _, rfl, rfl, o, rfl, rfl, p3.frame rfl rfl (c5.1 94 (by decide) (by decide) (by decide)) (c5.1 114 (by decide) (by decide) (by decide)), p4.trans (c5.keep S), fun i hi => (c5.2.2.2 i hi).trans (p5 i hi), c6⟩) ((0:Int32), s) ((0:Int32), T1) ⟨o, nI_0.symm, nI_0.symm, hB.frame rfl rfl (k3 94 (by decide)) (k3 114 (by decide)), ⟨⟨fun _ _ _ _ _ _ => rfl, rfl, fun _ _ => rfl⟩, fun c c1 c2 c3 c4 c5 c6 => k3 c c3, fun j j1 j2 j3 => by rw [k3 94 (by decide)], fun j hj => k4 j hj, fun j hj => by rw [k3 113 (by decide)]⟩, fun i hi => by rw [k3 105 (by decide)], fun i hi => by
        simp only
        rw [k2 i hi, k3 105 (by decide)]⟩ (by omega)
    rw [g1, g2]
    obtain ⟨v, S⟩ := e
    obtain ⟨v', U⟩ := e'
    obtain ⟨o', y1, y2, y3⟩ := g3
    exact ⟨S, U, o', rfl, rfl, y1, y2, y3⟩
def oG (n : Nat) (v : Int32) : Bool := decide (¬ v < 0) && decide (v < nI n)
theorem oG_ok {T : pv_T} {n : Nat} (h8 : T.1 94 8 = nI n) (hn : n ≤ 7) (v : Int32) : f140_isOne v T = some (if oG n v then 1 else 0) := by
  unfold oG
  by_cases h0 : v < 0
  · rw [perM_out h8 (Or.inl h0) hn]; simp [h0]
  · obtain ⟨u, hu, rfl⟩ := nI_of h0
    rw [perNM h8 hn hu]
    by_cases h1 : u < n
    · rw [if_pos h1]; simp [h0, nI_lt h1 (by omega)]
    · rw [if_neg h1]; simp [nI_nlt (show n ≤ u by omega) hu]
theorem callersAsk {s : pv_F} {T : pv_T} {n : Nat} (h : Inv s T) (hn : n ≤ 7) (h8 : s 8 3 = nI n) (h8' : T.1 94 8 = nI n) {r : Nat} (hr : r < 6) (v : Int32) : (∃ f, 1 ≤ f ∧ f < 6 ∧ f107_numbersFinding (74 + 2 * r) (5:Int32) (nI n) s = some (nI f) ∧ (f121_askedRow (nI r) T = some (-3, fndM T f) ∨ (f121_askedRow (nI r) T = some (0, T) ∧ ((∃ z, T.1 96 r = nI z ∧ ¬ nI z ≤ (5:Int32) ∧ f = 5) ∨ (∃ z, T.1 96 r = nI z ∧ nI z ≤ (5:Int32) ∧ pv_lp (f192_callers_b1 (nI r) v T) 20000 (0:Int32) = some (.inr (-3, fndM T 3)) ∧ f = 3))))) ∨ ∃ z X u, z ≤ 5 ∧ f107_numbersFinding (74 + 2 * r) (5:Int32) (nI n) s = some 0 ∧ f121_askedRow (nI r) T = some (0, T) ∧ pv_lp (f192_callers_b1 (nI r) v T) 20000 (0:Int32) = some (.inl u) ∧ Cld s T n r z X := by
  rcases h.2.1 r hr with ⟨q1, q2⟩ | ⟨q1, z, q2, q3, q4, q5⟩
  · refine Or.inl ⟨1, by omega, by omega, ?_, Or.inl (asked_miss hr q2)⟩
    unfold f107_numbersFinding
    rw [q1, if_pos rfl]; rfl
  have q5 : ∀ i, i < z → s (75 + 2 * r) i = T.1 97 (40 * r + i) := q5
  have e75 : 74 + 2 * r + 1 = 75 + 2 * r := by omega
  by_cases hz : 5 < z
  · have hz5 : ¬ nI z ≤ (5:Int32) := nI_ge (a := 5) hz (by omega)
    refine Or.inl ⟨5, by omega, by omega, ?_, Or.inr ⟨asked_there hr (by omega) q4, Or.inl ⟨z, q4, hz5, rfl⟩⟩⟩
    unfold f107_numbersFinding
    rw [q1, if_neg (show ¬ (1:Int32) = 0 by decide), q3, if_neg hz5]; rfl
  have hz5 : nI z ≤ (5:Int32) := nI_le (b := 5) (by omega) (by omega)
  have hA := askM (T := T) (B := f192_callers_b1 (nI r) v T) (ok := fun v => f140_isOne v T) (g := oG n) hr q4 (by omega) (fun v => rfl) (oG_ok h8' hn)
  rcases numsC (s := s) (c := 74 + 2 * r) (most := 5) (v2 := nI n) (an_r hr) q1 q3 q2 (by omega) (by omega) (by omega) with ⟨a1, a2⟩ | ⟨a1, i, a2, a3⟩
  · rcases hA with ⟨u, m1, m2⟩ | ⟨m1, i, m2, m3⟩
    · refine Or.inr ⟨z, fun i => (T.1 97 (40 * r + i)).toNatClampNeg, u, by omega, a1, asked_there hr (by omega) q4, m1, q3, q4, fun i hi => ?_⟩
      have hq := m2 i hi
      unfold oG at hq
      rw [Bool.and_eq_true, decide_eq_true_eq, decide_eq_true_eq] at hq
      obtain ⟨y, hy, e⟩ := nI_of hq.1
      have hq2 := hq.2
      rw [e] at hq2
      simp only [q5 i hi, e, nI_clamp hy]
      exact ⟨(nI_ltI hy (by omega)).mp hq2, True.intro, True.intro⟩
    · exfalso
      obtain ⟨b1, b2⟩ := a2 i m2
      rw [e75, q5 i m2] at b1 b2
      unfold oG at m3
      simp [b1, b2] at m3
  · rcases hA with ⟨u, m1, m2⟩ | ⟨m1, -⟩
    · exfalso
      have := m2 i a2
      unfold oG at this
      rw [Bool.and_eq_true, decide_eq_true_eq, decide_eq_true_eq] at this
      rw [e75, q5 i a2] at a3
      rcases a3 with a3 | a3
      · exact this.1 a3
      · exact a3 this.2
    · exact Or.inl ⟨3, by omega, by omega, a1, Or.inr ⟨asked_there hr (by omega) q4, Or.inr ⟨z, q4, hz5, m1, rfl⟩⟩⟩
theorem op30 : OP30 Inv := by
  intro a c s T h
  obtain ⟨n, K, A, hn, hF, hC, hM, hR⟩ := h.2.2.2.view
  obtain ⟨w, hw, hwC, hwM⟩ := h.way_
  unfold f84_callers f192_callers
  rcases pk_ix a (n := 6) (by omega) with ha | ha | ⟨r, hr, rfl⟩
  · rw [(noRow (Or.inl ha)).1, asked_no T (Or.inl ha)]
    rcases pk_ix c (n := 6) (by omega) with hc | hc | ⟨to, hto, rfl⟩
    · rw [(noRow (Or.inl hc)).2]
      exact ⟨-1, s, T, rfl, rfl, h⟩
    · rw [(noRow (Or.inr hc)).2]
      exact ⟨-1, s, T, rfl, rfl, h⟩
    · rw [isRowM_in hto]
      exact ⟨-1, s, T, rfl, rfl, h⟩
  · rw [(noRow (Or.inr ha)).1, asked_no T (Or.inr ha)]
    rcases pk_ix c (n := 6) (by omega) with hc | hc | ⟨to, hto, rfl⟩
    · rw [(noRow (Or.inl hc)).2]
      exact ⟨-1, s, T, rfl, rfl, h⟩
    · rw [(noRow (Or.inr hc)).2]
      exact ⟨-1, s, T, rfl, rfl, h⟩
    · rw [isRowM_in hto]
      exact ⟨-1, s, T, rfl, rfl, h⟩
  rw [isRowC_in hr]
  simp only [bs]
  rw [if_neg (show ¬ (1:Int32) = 0 by decide)]
  rcases pk_ix c (n := 6) (by omega) with hc | hc | ⟨to, hto, rfl⟩
  · rw [(noRow (Or.inl hc)).1, (noRow (Or.inl hc)).2]
    exact ⟨-1, s, T, rfl, rfl, h⟩
  · rw [(noRow (Or.inr hc)).1, (noRow (Or.inr hc)).2]
    exact ⟨-1, s, T, rfl, rfl, h⟩
  rw [isRowC_in hto, isRowM_in hto]
  simp only [bs]
  rw [if_neg (show ¬ (1:Int32) = 0 by decide), if_neg (show ¬ (1:Int32) = 0 by decide), ra_r hr, hC.1]
  simp only [bs]
  rcases callersAsk h hn hC.1 hM.1 hr (nI to) with ⟨f, f1, f2, f3, f4⟩ | ⟨z, X, u, z1, z2, z3, z5, z4⟩
  · rw [f3]
    simp only [bs]
    rw [if_neg (nI_ne0 f1 (by omega)), find_ok f f2]
    rcases f4 with f4 | ⟨f4, ⟨z, f5, f6, rfl⟩ | ⟨z, f5, f6, f7, rfl⟩⟩
    · rw [f4]
      simp only [bs]
      rw [if_neg (show ¬ (0:Int32) ≤ -3 by decide)]
      exact ⟨_, _, _, rfl, rfl, h.fnd f1 f2⟩
    · rw [f4]
      simp only [bs]
      rw [if_pos (show (0:Int32) ≤ 0 by decide), rd_nI hr, f5]
      simp only [bs]
      rw [if_neg f6, meet_ok 5 (by omega)]
      exact ⟨_, _, _, rfl, rfl, h.fnd f1 f2⟩
    · rw [f4]
      simp only [bs]
      rw [if_pos (show (0:Int32) ≤ 0 by decide), rd_nI hr, f5]
      simp only [bs]
      rw [if_pos f6, f7]
      exact ⟨_, _, _, rfl, rfl, h.fnd f1 f2⟩
  rw [z2, z3]
  simp only [bs, pv_pm]
  rw [if_pos True.intro, if_pos (show (0:Int32) ≤ 0 by decide), hwC, rd_nI hr, z4.2.1]
  simp only [bs]
  rw [if_pos (show nI z ≤ (5:Int32) from nI_le (b := 5) (by omega) (by omega)), z5]
  simp only [bs]
  obtain ⟨s1, e1, e2, e3, -, e6, -, -, -, e5⟩ := from_ok hn hC (nI w)
  rw [e1]
  simp only [bs]
  have hM1 : MR (pv_up T.1 94 30 1048576, T.2) n K A := hM.up (by decide) (by decide) (by decide)
  rw [missed_ok hn hM1]
  simp only [bs]
  have hM2 : MR (pv_up (pv_up T.1 94 30 1048576) 94 31 (nI (misN A n)), T.2) n K A := hM1.up (by decide) (by decide) (by decide)
  have G94 : ∀ j, j ≠ 30 → j ≠ 31 → pv_up (pv_up T.1 94 30 1048576) 94 31 (nI (misN A n)) 94 j = T.1 94 j := fun j j1 j2 => by rw [up_nj j2, up_nj j1]
  have G : ∀ c, c ≠ 94 → pv_up (pv_up T.1 94 30 1048576) 94 31 (nI (misN A n)) c = T.1 c := fun c c1 => by rw [up_ne c1, up_ne c1]
  have H30 : pv_up (pv_up T.1 94 30 1048576) 94 31 (nI (misN A n)) 94 30 = 1048576 := by rw [up_nj (by decide), up_at]
  have H31 : pv_up (pv_up T.1 94 30 1048576) 94 31 (nI (misN A n)) 94 31 = nI (misN A n) := up_at _ _ _ _
  generalize pv_up (pv_up T.1 94 30 1048576) 94 31 (nI (misN A n)) = F2 at hM2 G94 G H30 H31 ⊢
  have hcal : Cld s1 (F2, T.2) n r z X := z4.frame (e5 _ (by omega) (by omega)) (e5 _ (by omega) (by omega)) (G 96 (by decide)) (G 97 (by decide))
  obtain ⟨s2, T2, o', g1, g2, g3, g4, g5⟩ := callersSim (n := n) (r := r) (z := z) (w := w) (a0 := misN A n) (K := K) (X := X) hr z1 hw z 8 0 0 A s1 (F2, T.2) none (by omega) (by omega) ⟨⟨hF, hM2, by show F2 94 9 = _; rw [G94 9 (by decide) (by decide)]; exact hwM, H31, by omega, by omega⟩, e2, e3, fun j hj => by omega⟩ hcal ⟨e6, H30⟩ True.intro
  rw [nI_0] at g1 g2
  rw [g2, g1]
  simp only [bs]
  rw [rd_nI hr, g4.2.1 96 (by decide) (by decide) (by decide) (by decide) (by decide) (by decide), hcal.2.1]
  simp only [bs]
  rw [g4.1.1 (74 + 2 * r) (by omega) (by omega) (by omega) (by omega) (by omega), hcal.1]
  have hI : Inv s2 T2 := h.aside (fun a ha => by rw [g4.1.1 a (by omega) (by omega) (by omega) (by omega) (by omega), e5 a (by omega) (by omega)]) (fun c hc => by rw [g4.2.1 c (by omega) (by omega) (by omega) (by omega) (by omega) (by omega)]; exact G c (by omega)) (fun i hi => by rw [g5 i hi]; show F2 105 i = _; rw [G 105 (by decide)]) (fun j hj => by rw [g4.2.2.1 j (by omega) (by omega) (by omega)]; exact G94 j (by omega) (by omega))
  obtain ⟨v, s3, T3, y1, y2, y3⟩ := layFewest hI hto (by omega) g3
  rw [y1, y2]
  exact ⟨_, _, _, rfl, rfl, y3⟩
