/-! WHOSE -/
theorem bits_tb (p : Nat → Bool) (n x : Nat) : (bits p n).testBit x = (decide (x < n) && p x) := by
  rw [Nat.testBit_eq_decide_div_mod_eq, bits_bit]
  by_cases h : x < n
  · cases hp : p x
    · simp [h]
    · simp [h]
  · simp [h]
theorem bits_or (p q : Nat → Bool) (n : Nat) : bits p n ||| bits q n = bits (fun x => p x || q x) n := by
  apply Nat.eq_of_testBit_eq
  intro i
  rw [Nat.testBit_or, bits_tb, bits_tb, bits_tb]
  cases decide (i < n) <;> simp
def anyk (f : Nat → Bool) : Nat → Bool
  | 0 => false
  | m + 1 => anyk f m || f m
theorem anyk_iff (f : Nat → Bool) : ∀ m, anyk f m = true ↔ ∃ k, k < m ∧ f k = true := by
  intro m
  induction m with
  | zero => exact ⟨fun q => by simp [anyk] at q, fun ⟨k, hk, _⟩ => by omega⟩
  | succ m ih =>
    rw [anyk, Bool.or_eq_true, ih]
    refine ⟨fun q => ?_, fun ⟨k, hk, hf⟩ => ?_⟩
    · rcases q with ⟨k, hk, hf⟩ | q
      · exact ⟨k, by omega, hf⟩
      · exact ⟨m, by omega, q⟩
    · by_cases e : k = m
      · subst e; exact Or.inr hf
      · exact Or.inl ⟨k, by omega, hf⟩
theorem Till.congr {p q : Nat → Prop} {r : Int32} (h : Till p r) (e : ∀ k, k ≤ 12 → (p k ↔ q k)) : Till q r := by
  rcases h with ⟨n, n1, n2, n3, rfl⟩ | ⟨n1, rfl⟩
  · exact Or.inl ⟨n, n1, (e n n1).mp n2, fun m hm q => n3 m hm ((e m (by omega)).mpr q), rfl⟩
  · exact Or.inr ⟨fun n hn q => n1 n hn ((e n hn).mpr q), rfl⟩
theorem till_min {p q : Nat → Prop} {u t : Int32} (hu : Till p u) (ht : Till q t) (h9 : ¬ t = -9) : Till (fun k => p k ∨ q k) (if u = -9 then t else if t < u then t else u) := by
  rcases ht with ⟨m, m1, m2, m3, rfl⟩ | ⟨-, rfl⟩
  · rcases hu with ⟨n, n1, n2, n3, rfl⟩ | ⟨n1, rfl⟩
    · rw [if_neg (nI_len_ne (by omega))]
      by_cases c : m < n
      · rw [if_pos (nI_lt c (by omega))]
        exact Or.inl ⟨m, m1, Or.inr m2, fun j hj q => q.elim (n3 j (by omega)) (m3 j hj), rfl⟩
      · rw [if_neg (nI_nlt (by omega) (by omega))]
        exact Or.inl ⟨n, n1, Or.inl n2, fun j hj q => q.elim (n3 j hj) (m3 j (by omega)), rfl⟩
    · rw [if_pos rfl]
      exact Or.inl ⟨m, m1, Or.inr m2, fun j hj q => q.elim (n1 j (by omega)) (m3 j hj), rfl⟩
  · exact absurd rfl h9
theorem op32 : OP32 Inv := by
  intro a s T h
  obtain ⟨n, K, A, hn, hF, hC, hM, hR⟩ := h.2.2.2.view
  obtain ⟨w, hw, hwC, hwM⟩ := h.way_
  unfold f86_whose f195_whose
  rcases pk_ix a (n := 4) (by omega) with ha | ha | ⟨r, hr, rfl⟩
  · rw [(noText (Or.inl ha)).1, noTextM T (Or.inl ha)]
    exact ⟨-1, s, T, rfl, rfl, h⟩
  · rw [(noText (Or.inr ha)).1, noTextM T (Or.inr ha)]
    exact ⟨-1, s, T, rfl, rfl, h⟩
  rw [isTextC_in hr]
  simp only [bs]
  rw [if_neg (show ¬ (1:Int32) = 0 by decide), ra_t hr]
  simp only [bs]
  rcases nameAsk h hr with ⟨f, f1, f2, f3, f4⟩ | ⟨l, T1, l1, l0, l2, l3, l4, l5, l6, l7⟩
  · rw [f3, f4]
    simp only [bs]
    rw [if_neg (nI_ne0 f1 (by omega)), find_ok f f2, if_neg (show ¬ (0:Int32) ≤ -3 by decide)]
    exact ⟨_, _, _, rfl, rfl, h.fnd f1 f2⟩
  have hM1 : MR T1 n K A := hM.frame (l6 8 (by decide)) (l7 101 (by decide) (by decide)) (l7 105 (by decide) (by decide))
  rw [l2, l4]
  simp only [bs]
  rw [if_pos True.intro, if_pos (show (0:Int32) ≤ 0 by decide)]
  generalize hhit : (fun y k => decide (K y ≠ 3) && decide ((cmN K w y (A.1 y) (A.2.1 y) k).1 = l)) = hit
  have hh : ∀ y k, hit y k = true ↔ K y ≠ 3 ∧ (cmN K w y (A.1 y) (A.2.1 y) k).1 = l := fun y k => by
    rw [← hhit]; simp
  obtain ⟨e, g1, g2⟩ := lq_inv (B := f86_whose_b1 (nI r) s) (P := fun i st => st.1 = nI (bits (fun y => anyk (hit y) 13) i) ∧ Till (fun k => ∃ y, y < i ∧ hit y k = true) st.2.1 ∧ st.2.2 = nI i) (Q := fun st => st.1 = nI (bits (fun y => anyk (hit y) 13) n) ∧ Till (fun k => ∃ y, y < n ∧ hit y k = true) st.2.1) n (fun i st hi hP => by
    obtain ⟨v3, v4, v5⟩ := st
    obtain ⟨p1, p2, p3⟩ := hP
    simp only at p1 p2 p3
    subst p1 p3
    have hnone : (∀ k, k ≤ 12 → hit i k = false) → bits (fun y => anyk (hit y) 13) (i + 1) = bits (fun y => anyk (hit y) 13) i ∧ Till (fun k => ∃ y, y < i + 1 ∧ hit y k = true) v4 := fun q => by
      refine ⟨?_, p2.congr fun k hk => ⟨fun ⟨y, hy, hq⟩ => ⟨y, by omega, hq⟩, fun ⟨y, hy, hq⟩ => ?_⟩⟩
      · rw [bits, if_neg (fun q' => ?_), Nat.add_zero]
        obtain ⟨k, hk, hq⟩ := (anyk_iff _ _).mp q'
        rw [q k (by omega)] at hq
        cases hq
      · by_cases e : y = i
        · subst e
          rw [q k hk] at hq
          cases hq
        · exact ⟨y, by omega, hq⟩
    unfold f86_whose_b1
    simp only
    rw [hC.1, if_neg (nI_ge hi (by omega)), lives_ok hF hC hi, nI_1]
    simp only [bs]
    by_cases h3 : K i = 3
    · rw [if_pos h3, if_pos rfl]
      simp only [bs]
      rw [if_pos True.intro]
      obtain ⟨q1, q2⟩ := hnone (fun k hk => by
        cases hq : hit i k
        · rfl
        · exact absurd h3 ((hh i k).mp hq).1)
      exact ⟨_, rfl, by simp only; rw [q1], q2, rfl⟩
    rw [if_neg h3, if_neg (show ¬ (1:Int32) = 0 by decide), ra_t hr]
    simp only [bs]
    rw [l3]
    simp only [bs]
    rw [hwC]
    obtain ⟨t, t1, t2⟩ := timesTill_ok hF hC hi l1 hw
    rw [t1]
    simp only [bs]
    by_cases h9 : t = -9
    · rw [if_pos h9]
      have hno : ∀ k, k ≤ 12 → hit i k = false := fun k hk => by
        cases hq : hit i k
        · rfl
        · rcases t2 with ⟨m, m1, m2, m3, m4⟩ | ⟨m1, -⟩
          · exact absurd (m4.symm.trans h9) (nI_len_ne (by omega))
          · exact absurd ((hh i k).mp hq).2 (m1 k hk)
      obtain ⟨q1, q2⟩ := hnone hno
      exact ⟨_, rfl, by simp only; rw [q1], q2, rfl⟩
    · rw [if_neg h9]
      have hm := till_min p2 t2 h9
      have hif : ((if v4 = (-9:Int32) then some t else some (if t < v4 then t else v4)) : Option Int32) = some (if v4 = -9 then t else if t < v4 then t else v4) := by
        by_cases c : v4 = -9
        · rw [if_pos c, if_pos c]
        · rw [if_neg c, if_neg c]
      rw [hif]
      simp only [bs]
      refine ⟨_, rfl, ?_, ?_, rfl⟩
      · simp only
        rw [or_bit (bits_lt _ i) (by omega), bits, if_pos]
        rcases t2 with ⟨m, m1, m2, m3, m4⟩ | ⟨-, m1⟩
        · exact (anyk_iff _ _).mpr ⟨m, by omega, (hh i m).mpr ⟨h3, m2⟩⟩
        · exact absurd m1 h9
      · simp only
        refine hm.congr fun k hk => ⟨fun q => ?_, fun ⟨y, hy, hq⟩ => ?_⟩
        · rcases q with ⟨y, hy, hq⟩ | q
          · exact ⟨y, by omega, hq⟩
          · exact ⟨i, by omega, (hh i k).mpr ⟨h3, q⟩⟩
        · by_cases e : y = i
          · subst e
            exact Or.inr ((hh y k).mp hq).2
          · exact Or.inl ⟨y, by omega, hq⟩) (fun st hP => by
    obtain ⟨v3, v4, v5⟩ := st
    obtain ⟨p1, p2, p3⟩ := hP
    simp only at p1 p2 p3
    subst p1 p3
    unfold f86_whose_b1
    simp only
    rw [hC.1, if_pos (nI_le (by omega) (by omega))]
    exact ⟨_, rfl, rfl, p2⟩) ((0:Int32), (-9:Int32), (0:Int32)) ⟨nI_0.symm, Or.inr ⟨fun k hk ⟨y, hy, _⟩ => by omega, rfl⟩, nI_0.symm⟩
  obtain ⟨v3, v4, v5⟩ := e
  obtain ⟨c1, c2⟩ := g2
  simp only at c1 c2
  subst c1
  rw [g1]
  obtain ⟨T2, k1, k2, k3⟩ := putAside_ok T1
  rw [k1]
  simp only [bs]
  have hM2 : MR T2 n K A := hM1.frame (by rw [k3 94 (by decide)]) (k3 101 (by decide)) (k3 105 (by decide))
  obtain ⟨e, r1, r2⟩ := lq_inv (B := f195_whose_b1) (P := fun i st => st.1 = nI (bits (fun y => anyk (hit y) i) n) ∧ ((st.2.1 = -9 ∧ ∀ k, k < i → ¬ ∃ y, y < n ∧ hit y k = true) ∨ ∃ k, k < i ∧ (∃ y, y < n ∧ hit y k = true) ∧ (∀ m, m < k → ¬ ∃ y, y < n ∧ hit y m = true) ∧ st.2.1 = nI k) ∧ st.2.2.1 = nI i ∧ MR st.2.2.2 n K (alA K w A i) ∧ ∀ c, c ≠ 105 → st.2.2.2.1 c = T2.1 c) (Q := fun st => st.1 = nI (bits (fun y => anyk (hit y) 13) n) ∧ Till (fun k => ∃ y, y < n ∧ hit y k = true) st.2.1 ∧ ∀ c, c ≠ 105 → st.2.2.2.1 c = T2.1 c) 13 (fun i st hi hP => by
    obtain ⟨u3, u4, u5, U⟩ := st
    obtain ⟨p1, p2, p3, p4, p5⟩ := hP
    simp only at p1 p2 p3 p4 p5
    subst p1 p3
    unfold f195_whose_b1
    simp only
    have hOU : OneM U l := ⟨by rw [p5 94 (by decide), k3 94 (by decide)]; exact l5.1, fun j hj => by rw [p5 111 (by decide), k3 111 (by decide)]; exact l5.2 j hj⟩
    rw [if_neg (show ¬ (12:Int32) < nI i from nI_nlt (a := 12) (by omega) (by omega)), haveOne_ok (okT_al hF w i) p4 l1 hOU (ob_none hn)]
    have hb : bits (fun y => (decide (K y ≠ 3) && decide ((alA K w A i).1 y = l)) && !((fun _ : Nat => false) y)) n = bits (fun y => hit y i) n := bits_congr fun y hy => by
      rw [← hhit]
      unfold alA alN
      simp only [Bool.not_false, Bool.and_true]
      by_cases e : K y = 3
      · simp [e]
      · simp [e]
    rw [hb]
    simp only [bs, bits_z hn]
    obtain ⟨V, v1, v2, v3⟩ := comeAll_ok (okT_al hF w i) p4 hw (by rw [p5 94 (by decide), k3 94 (by decide), l6 9 (by decide)]; exact hwM)
    have hor : nI (bits (fun y => anyk (hit y) i) n) ||| nI (bits (fun y => hit y i) n) = nI (bits (fun y => anyk (hit y) (i + 1)) n) := by
      rw [nI_or, bits_or]
      rfl
    have hV : MR V n K (alA K w A (i + 1)) := v2.congr (fun y _ => al_succ K w A i y) rfl
    have hVc : ∀ c, c ≠ 105 → V.1 c = T2.1 c := fun c hc => by rw [v3 c hc, p5 c hc]
    by_cases hz : bits (fun y => hit y i) n = 0
    · rw [if_pos hz]
      simp only [bs]
      rw [v1]
      simp only [bs]
      rw [hor, nI_1]
      have hno : ¬ ∃ y, y < n ∧ hit y i = true := fun ⟨y, hy, hq⟩ => by
        have := bits_pos (p := fun y => hit y i) hy hq
        omega
      refine ⟨_, rfl, rfl, ?_, rfl, hV, hVc⟩
      simp only
      rcases p2 with ⟨q1, q2⟩ | ⟨k, q1, q2, q3, q4⟩
      · refine Or.inl ⟨q1, fun k hk => ?_⟩
        by_cases e : k = i
        · subst e; exact hno
        · exact q2 k (by omega)
      · exact Or.inr ⟨k, by omega, q2, q3, q4⟩
    · rw [if_neg hz]
      have hyes : ∃ y, y < n ∧ hit y i = true := by
        apply Classical.byContradiction
        intro q
        exact hz (bits_0 fun y hy => by
          cases hq : hit y i
          · rfl
          · exact absurd ⟨y, hy, hq⟩ q)
      rcases p2 with ⟨q1, q2⟩ | ⟨k, q1, q2, q3, q4⟩
      · rw [if_pos q1]
        simp only [bs]
        rw [v1]
        simp only [bs]
        rw [hor, nI_1]
        exact ⟨_, rfl, rfl, Or.inr ⟨i, by omega, hyes, fun m hm => q2 m hm, rfl⟩, rfl, hV, hVc⟩
      · rw [if_neg (by rw [q4]; exact nI_len_ne (by omega))]
        simp only [bs]
        rw [v1]
        simp only [bs]
        rw [hor, nI_1]
        exact ⟨_, rfl, rfl, Or.inr ⟨k, by omega, q2, q3, q4⟩, rfl, hV, hVc⟩) (fun st hP => by
    obtain ⟨u3, u4, u5, U⟩ := st
    obtain ⟨p1, p2, p3, p4, p5⟩ := hP
    simp only at p1 p2 p3 p4 p5
    subst p1 p3
    unfold f195_whose_b1
    simp only
    rw [if_pos (by decide)]
    refine ⟨_, rfl, rfl, ?_, p5⟩
    rcases p2 with ⟨q1, q2⟩ | ⟨k, q1, q2, q3, q4⟩
    · exact Or.inr ⟨fun k hk => q2 k (by omega), q1⟩
    · exact Or.inl ⟨k, by omega, q2, q3, q4⟩) ((0:Int32), (-9:Int32), (0:Int32), T2) ⟨by rw [show bits (fun y => anyk (hit y) 0) n = 0 from bits_0 (fun y hy => rfl)]; exact nI_0.symm, Or.inl ⟨rfl, fun k hk => by omega⟩, nI_0.symm, hM2.congr (fun y _ => by unfold alA; simp only; rw [(al_0 K w A.1 A.2.1).1, (al_0 K w A.1 A.2.1).2]; exact ⟨rfl, rfl⟩) rfl, fun c hc => rfl⟩
  obtain ⟨u3, u4, u5, U⟩ := e
  obtain ⟨d1, d2, d3⟩ := r2
  simp only at d1 d2 d3
  subst d1
  rw [r1]
  simp only [bs]
  obtain ⟨T3, w1, w2, w3⟩ := comeBack_ok U
  rw [w1, d2.eq c2]
  unfold f116_ask
  simp only [pv_pm, pv_pf, bs]
  refine ⟨_, _, _, rfl, rfl, ?_⟩
  refine Inv.aside (h.tell v4) (fun a ha => rfl) (fun c hc => ?_) (fun i hi => ?_) (fun j hj => ?_)
  · rw [upT (by omega), upT (by omega), w3 c (by omega), d3 c (by omega), k3 c (by omega), l7 c (by omega) (by omega)]
  · rw [upT (by decide), upT (by decide), w2 i hi, d3 110 (by decide), k2 i hi, l7 105 (by decide) (by decide)]
  · by_cases e2 : j = 2
    · subst e2; rw [upTa, upTa]
    · rw [upTj e2, upTj e2, w3 94 (by decide), d3 94 (by decide), k3 94 (by decide), l6 j (by omega)]
