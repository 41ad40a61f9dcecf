/-! UNDO, KEEP, ON -/
theorem zero_loop {s : pv_F} : ∃ s', pv_lq (f43_startOver_b1) 20000 ((0:Int32), s) = some (nI 7, s') ∧ (∀ y, y < 7 → s' 12 y = 0 ∧ s' 13 y = 0 ∧ s' 14 y = 0) ∧ ∀ a, a < 12 ∨ 14 < a → s' a = s a := by
  obtain ⟨e, h1, h2⟩ := lq_inv (B := f43_startOver_b1) (P := fun i st => st.1 = nI i ∧ (∀ y, y < i → st.2 12 y = 0 ∧ st.2 13 y = 0 ∧ st.2 14 y = 0) ∧ ∀ a, a < 12 ∨ 14 < a → st.2 a = s a) (Q := fun st => st.1 = nI 7 ∧ (∀ y, y < 7 → st.2 12 y = 0 ∧ st.2 13 y = 0 ∧ st.2 14 y = 0) ∧ ∀ a, a < 12 ∨ 14 < a → st.2 a = s a) 7 (fun i st hi hP => by
    obtain ⟨u, U⟩ := st
    obtain ⟨p1, p2, p3⟩ := hP
    simp only at p1 p2 p3
    subst p1
    unfold f43_startOver_b1
    simp only
    rw [if_neg (show ¬ (7:Int32) ≤ nI i from nI_ge (b := 7) hi (by omega)), wr_nI hi]
    simp only [bs]
    rw [wr_nI hi]
    simp only [bs]
    rw [wr_nI hi, nI_1]
    simp only [bs]
    refine ⟨_, rfl, rfl, fun y hy => ?_, fun a ha => ?_⟩
    · simp only
      by_cases e : y = i
      · subst e
        rw [up_ne (show 12 ≠ 14 by decide), up_ne (show 12 ≠ 13 by decide), up_at, up_ne (show 13 ≠ 14 by decide), up_at, up_at]
        exact ⟨rfl, rfl, rfl⟩
      · rw [up_ne (show 12 ≠ 14 by decide), up_ne (show 12 ≠ 13 by decide), up_nj e, up_ne (show 13 ≠ 14 by decide), up_nj e, up_ne (show 13 ≠ 12 by decide), up_nj e, up_ne (show 14 ≠ 13 by decide), up_ne (show 14 ≠ 12 by decide)]
        exact p2 y (by omega)
    · simp only
      rw [up_ne (by omega), up_ne (by omega), up_ne (by omega)]
      exact p3 a ha) (fun st hP => by
    obtain ⟨u, U⟩ := st
    obtain ⟨p1, p2, p3⟩ := hP
    simp only at p1 p2 p3
    subst p1
    unfold f43_startOver_b1
    simp only
    rw [if_pos (by decide)]
    exact ⟨_, rfl, rfl, p2, p3⟩) ((0:Int32), s) ⟨nI_0.symm, fun y hy => by omega, fun a ha => rfl⟩
  obtain ⟨u, U⟩ := e
  obtain ⟨q1, q2, q3⟩ := h2
  simp only at q1 q2 q3
  subst q1
  exact ⟨U, h1, q2, q3⟩
theorem startOver_ok {s : pv_F} {n : Nat} {K : Nat → Nat} {nm : Nat → List Nat} (hn : n ≤ 7) (h4 : FC s 4 n K nm (fun _ => 0)) : ∃ s', f43_startOver s = some s' ∧ s' 8 3 = nI n ∧ (∀ x, x < n → s' 9 x = nI (K x)) ∧ s' 15 4 = 0 ∧ CRep s' n (A_0 nm) ∧ ∀ a, a ≠ 3 → (a < 8 ∨ 15 < a) → s' a = s a := by
  unfold f43_startOver
  obtain ⟨s1, e1, z1, f1⟩ : ∃ s1, pv_pf s 15 4 (0:Int32) = some s1 ∧ s1 15 4 = 0 ∧ ∀ a, a ≠ 15 → s1 a = s a := ⟨_, rfl, up_at _ _ _ _, fun a ha => up_ne ha⟩
  rw [e1]
  simp only [bs]
  have h4' : FC s1 4 n K nm (fun _ => 0) := by
    refine ⟨by rw [f1 4 (by decide)]; exact h4.1, fun x hx => ?_⟩
    rw [f1 (4 + 1) (by decide), f1 (4 + 2) (by decide), f1 (4 + 3) (by decide)]
    exact h4.2 x hx
  obtain ⟨s2, e2, g2, f2⟩ := take_ok (o := 8) hn h4' (by omega)
  rw [e2]
  simp only [bs]
  obtain ⟨s3, e3, z3, f3⟩ : ∃ s3, pv_pf s2 3 7 (0:Int32) = some s3 ∧ s3 3 7 = 0 ∧ ∀ a, a ≠ 3 → s3 a = s2 a := ⟨_, rfl, up_at _ _ _ _, fun a ha => up_ne ha⟩
  rw [e3]
  simp only [bs]
  obtain ⟨s4, e4, g4, f4⟩ := zero_loop (s := s3)
  rw [e4]
  simp only [bs]
  refine ⟨s4, rfl, ?_, fun x hx => ?_, ?_, ⟨fun x hx => ?_, by rw [f4 3 (by omega), z3]; rfl⟩, fun a a3 ha => ?_⟩
  · rw [f4 8 (by omega), f3 8 (by omega)]; exact g2.1
  · rw [f4 9 (by omega), f3 9 (by omega)]; exact (g2.2 x hx).1
  · rw [f4 15 (by omega), f3 15 (by omega), f2 15 (by omega) (by omega) (by omega) (by omega)]; exact z1
  · obtain ⟨y1, y2, y3⟩ := g4 x (by omega)
    rw [y1, y2, y3, f4 10 (by omega), f4 11 (by omega), f3 10 (by omega), f3 11 (by omega)]
    exact ⟨(g2.2 x hx).2.1, (g2.2 x hx).2.2, rfl, rfl, rfl⟩
  · rw [f4 a (by omega), f3 a a3, f2 a (by omega) (by omega) (by omega) (by omega), f1 a (by omega)]
theorem goBack_ok {s : pv_F} {n : Nat} {K : Nat → Nat} {nm : Nat → List Nat} {ds : List Deed} (hF : okT n K (A_0 nm)) (h4 : FC s 4 n K nm (fun _ => 0)) (hd : okDs K n (A_0 nm) ds) (hD : ∀ j d, ds[j]? = some d → s 16 j = nI d.1 ∧ s 17 j = nI d.2.1 ∧ s 18 j = nI d.2.2.1 ∧ s 19 j = nI d.2.2.2) : ∃ s', f44_goBack (nI ds.length) s = some s' ∧ s' 8 3 = nI n ∧ (∀ x, x < n → s' 9 x = nI (K x)) ∧ s' 15 4 = nI ds.length ∧ CRep s' n (runA K n (A_0 nm) ds) ∧ ∀ a, a ≠ 3 → (a < 8 ∨ 15 < a) → s' a = s a := by
  have hn := hF.1
  have hl := hd.1
  unfold f44_goBack
  obtain ⟨s0, e0, g8, g9, -, hR, F0⟩ := startOver_ok hn h4
  rw [e0]
  simp only [bs]
  obtain ⟨s4, e4, z4, f4⟩ : ∃ s4, pv_pf s0 15 4 (nI ds.length) = some s4 ∧ s4 15 4 = nI ds.length ∧ ∀ a, a ≠ 15 → s4 a = s0 a := ⟨_, rfl, up_at _ _ _ _, fun a ha => up_ne ha⟩
  rw [e4]
  simp only [bs]
  have F : ∀ a, a ≠ 3 → (a < 8 ∨ 15 < a) → s4 a = s a := fun a a3 ha => by
    rw [f4 a (by omega), F0 a a3 ha]
  have hR0 : CRep s4 n (A_0 nm) := hR.frame (fun a ha => f4 a (by omega))
  obtain ⟨e, h1, h2⟩ := lq_inv (B := f44_goBack_b1 (nI ds.length)) (P := fun i st => st.1 = nI i ∧ CRep st.2 n (runA K n (A_0 nm) (ds.take i)) ∧ ∀ a, a ≠ 3 → (a < 10 ∨ 14 < a) → st.2 a = s4 a) (Q := fun st => CRep st.2 n (runA K n (A_0 nm) ds) ∧ ∀ a, a ≠ 3 → (a < 10 ∨ 14 < a) → st.2 a = s4 a) ds.length (fun i st hi hP => by
    obtain ⟨u, U⟩ := st
    obtain ⟨p1, p2, p3⟩ := hP
    simp only at p1 p2 p3
    subst p1
    obtain ⟨d, hdi⟩ : ∃ d, ds[i]? = some d := ⟨_, List.getElem?_eq_getElem hi⟩
    obtain ⟨d1, d2, d3, d4⟩ := hD i d hdi
    have hok := hd.2 i d hdi
    have hFi := okT_take hF hd i
    have q16 : U 16 i = nI d.1 := by rw [p3 16 (by omega) (by omega), F 16 (by omega) (by omega)]; exact d1
    have q17 : U 17 i = nI d.2.1 := by rw [p3 17 (by omega) (by omega), F 17 (by omega) (by omega)]; exact d2
    have q18 : U 18 i = nI d.2.2.1 := by rw [p3 18 (by omega) (by omega), F 18 (by omega) (by omega)]; exact d3
    have q19 : U 19 i = nI d.2.2.2 := by rw [p3 19 (by omega) (by omega), F 19 (by omega) (by omega)]; exact d4
    rw [runA_take hdi]
    obtain ⟨o1, o2, o3⟩ := hok
    unfold f44_goBack_b1
    simp only
    rw [if_neg (nI_ge hi (by omega)), rd_nI (by omega), q18, nI_1]
    simp only [bs]
    by_cases h0 : d.2.2.1 = 0
    · rw [if_pos h0] at o3
      rw [if_pos (by rw [h0]; decide), rd_nI (by omega), q16]
      simp only [bs]
      rw [rd_nI (by omega), q17]
      simp only [bs]
      rw [rd_nI (by omega), q19]
      simp only [bs]
      obtain ⟨V, v1, v2, v3⟩ := carryCall_ok hFi (fun x hx => by rw [p3 9 (by omega) (by omega), f4 9 (by omega)]; exact g9 x hx) (by rw [p3 8 (by omega) (by omega), f4 8 (by omega)]; exact g8) p2 o1 o2 o3.1 o3.2
      rw [v1]
      refine ⟨_, rfl, rfl, ?_, fun a a3 ha => ?_⟩
      · unfold stepA
        rw [if_pos h0]
        exact v2
      · simp only
        rw [v3 a ha]
        exact p3 a a3 ha
    · rw [if_neg h0] at o3
      rw [if_neg (nI_ne0 (by omega) (by omega)), rd_nI (by omega), q17]
      simp only [bs]
      rw [rd_nI (by omega), q19]
      simp only [bs]
      obtain ⟨V, v1, v2, v3⟩ := carryMend_ok (c := d.2.2.2) hFi p2 o2 o3.2.2.1 o3.2.1
      rw [v1]
      refine ⟨_, rfl, rfl, ?_, fun a a3 ha => ?_⟩
      · unfold stepA
        rw [if_neg h0]
        exact v2
      · simp only
        rw [v3 a a3 (by omega)]
        exact p3 a a3 ha) (fun st hP => by
    obtain ⟨u, U⟩ := st
    obtain ⟨p1, p2, p3⟩ := hP
    simp only at p1 p2 p3
    subst p1
    unfold f44_goBack_b1
    simp only
    rw [if_pos (nI_le (by omega) (by omega))]
    rw [List.take_length] at p2
    exact ⟨_, rfl, p2, p3⟩) ((0:Int32), s4) ⟨nI_0.symm, hR0, fun a a3 ha => rfl⟩
  rw [h1]
  obtain ⟨u, U⟩ := e
  obtain ⟨q2, q3⟩ := h2
  simp only at q2 q3
  refine ⟨U, rfl, ?_, fun x hx => ?_, ?_, q2, fun a a3 ha => ?_⟩
  · rw [q3 8 (by omega) (by omega), f4 8 (by omega)]; exact g8
  · rw [q3 9 (by omega) (by omega), f4 9 (by omega)]; exact g9 x hx
  · rw [q3 15 (by omega) (by omega)]; exact z4
  · rw [q3 a a3 (by omega)]; exact F a a3 ha
theorem Town.swap {s s' : pv_F} {T T' : pv_T} {n : Nat} {K : Nat → Nat} {nm : Nat → List Nat} {ds es : List Deed} {kd : Nat → Option (List Deed)} (h : Town s T n K nm ds kd) (hd : okDs K n (A_0 nm) es) (hs : ∀ a, (4 ≤ a ∧ a ≤ 7) ∨ (20 ≤ a ∧ a ≤ 35) → s' a = s a) (h83 : s' 8 3 = nI n) (h9 : ∀ x, x < n → s' 9 x = nI (K x)) (hC : CDeeds s' 15 es) (hR : CRep s' n (runA K n (A_0 nm) es)) (hT : ∀ a, a = 101 ∨ (107 ≤ a ∧ a ≤ 109) → T'.1 a = T.1 a) (h8 : T'.1 94 8 = T.1 94 8) (h18 : T'.1 94 18 = nI es.length) (hM : MRep (T'.1 105) 0 n (runA K n (A_0 nm) es)) (hN : ∀ j, j < es.length → MRep (T'.1 106) (78 * j) n (runA K n (A_0 nm) (es.take j))) : Town s' T' n K nm es kd := by
  obtain ⟨⟨a1, a2, a3, a4, a5⟩, ⟨b1, b2, b3, b4, b5, b6⟩, c⟩ := h
  have t101 := hT 101 (by omega)
  have t107 := hT 107 (by omega)
  have t108 := hT 108 (by omega)
  have t109 := hT 109 (by omega)
  refine ⟨⟨a1, fun x hx => ?_, ?_, h83, ?_⟩, ⟨hd, hC, hR, h18, hM, hN⟩, fun k hk => ?_⟩
  · obtain ⟨y1, y2, y3, y4, y5, y6, y7⟩ := a2 x hx
    rw [hs 5 (by omega), hs 6 (by omega), hs 7 (by omega), t101]
    exact ⟨y1, y2, y3, h9 x hx, y5, y6, y7⟩
  · rw [hs 4 (by omega)]; exact a3
  · rw [h8]; exact a5
  · rw [hs (21 + 5 * k) (by omega), t107, t108]
    rcases c k hk with q | ⟨d, d1, d2, d3, d4, d5, d6, d7⟩
    · exact Or.inl q
    · refine Or.inr ⟨d, d1, d2, d3, ?_, d5, d6, fun j hj => ?_⟩
      · unfold CDeeds
        rw [hs (21 + 5 * k) (by omega), hs (21 + 5 * k + 1) (by omega), hs (21 + 5 * k + 2) (by omega), hs (21 + 5 * k + 3) (by omega), hs (21 + 5 * k + 4) (by omega)]
        exact d4
      · rw [t109]; exact d7 j hj
theorem okDs_take {n : Nat} {K : Nat → Nat} {A : TS} {ds : List Deed} (h : okDs K n A ds) (m : Nat) : okDs K n A (ds.take m) := by
  refine ⟨by rw [List.length_take]; have := h.1; omega, fun j d hj => ?_⟩
  rw [List.getElem?_take] at hj
  split at hj
  · rename_i hjm
    rw [List.take_take, show min j m = j by omega]
    exact h.2 j d hj
  · exact absurd hj (by simp)
theorem Town.found {s : pv_F} {T : pv_T} {n : Nat} {K : Nat → Nat} {nm : Nat → List Nat} {ds : List Deed} {kd : Nat → Option (List Deed)} (h : Town s T n K nm ds kd) : FC s 4 n K nm (fun _ => 0) := ⟨h.1.2.2.1, fun x hx => ⟨(h.1.2.1 x hx).2.2.1, (h.1.2.1 x hx).2.2.2.2.2.1, (h.1.2.1 x hx).2.2.2.2.2.2⟩⟩
/-- all but the town stays -/
theorem Inv.town {s s' : pv_F} {T T' : pv_T} (h : Inv s T) (ht : ITown s' T') (F : ∀ a, a = 0 ∨ 73 ≤ a → s' a = s a) (G : ∀ c, (95 ≤ c ∧ c ≤ 97) ∨ c = 99 ∨ c = 100 → T'.1 c = T.1 c) (G94 : ∀ j, j = 0 ∨ j = 2 ∨ j = 9 ∨ j = 10 → T'.1 94 j = T.1 94 j) : Inv s' T' := by
  obtain ⟨i1, i2, i3, i4⟩ := h
  obtain ⟨m1, m2, m3, m4, m5, m6, m7⟩ := i1
  refine ⟨⟨?_, ?_, ?_, ?_, ?_, ?_, fun f q1 q2 => ?_⟩, i2.frame (fun a h1 h2 => F a (by omega)) (G 96 (by omega)) (G 97 (by omega)), i3.frame (fun a h1 h2 => F a (by omega)) (G 99 (by omega)) (G 100 (by omega)), ht⟩
  · rw [F 0 (by omega)]; exact m1
  · rw [F 0 (by omega)]; exact m2
  · rw [F 0 (by omega), G94 9 (by omega)]; exact m3
  · rw [F 0 (by omega), G94 10 (by omega)]; exact m4
  · rw [F 0 (by omega), G94 2 (by omega)]; exact m5
  · rw [F 0 (by omega), G94 0 (by omega)]; exact m6
  · rw [F 73 (by omega), G 95 (by omega)]; exact m7 f q1 q2
theorem op17 : OP17 Inv := by
  intro a s T h
  obtain ⟨n, K, nm, ds, kd, ht⟩ := h.2.2.2
  obtain ⟨hF, hC, hM, hR⟩ := ht.view
  have hn := hF.1
  have hlen := ht.2.1.1.1
  have hD := ht.2.1.2.1
  have h18 := ht.2.1.2.2.2.1
  unfold f71_undo f163_undo
  rw [in_eq, h18, hD.1]
  by_cases ha : a < 0
  · rw [if_pos ha, if_pos ha]
    exact ⟨-1, s, T, rfl, rfl, h⟩
  rw [if_neg ha, if_neg ha]
  obtain ⟨m, hm, rfl⟩ := nI_of ha
  by_cases hml : ds.length < m
  · rw [if_neg (nI_ge hml hm), if_pos (nI_lt hml hm)]
    exact ⟨-1, s, T, rfl, rfl, h⟩
  rw [if_pos (nI_le (by omega) (by omega)), if_neg (nI_nlt (by omega) (by omega)), pk_sub (by omega)]
  simp only [bs]
  rw [if_neg (show ¬ (1:Int32) = 0 by decide)]
  have hL : (ds.take m).length = m := by rw [List.length_take]; omega
  have hE : ∀ j d, (ds.take m)[j]? = some d → s 16 j = nI d.1 ∧ s 17 j = nI d.2.1 ∧ s 18 j = nI d.2.2.1 ∧ s 19 j = nI d.2.2.2 := fun j d hj => by
    rw [List.getElem?_take] at hj
    split at hj
    · exact hD.2 j d hj
    · exact absurd hj (by simp)
  obtain ⟨s', e1, g1, g2, g3, g4, f1⟩ := goBack_ok ht.ok0 ht.found (okDs_take ht.2.1.1 m) hE
  rw [hL] at e1 g3
  rw [e1]
  have hCD : CDeeds s' 15 (ds.take m) := by
    refine ⟨by rw [hL]; exact g3, fun j d hj => ?_⟩
    rw [f1 (15 + 1) (by omega) (by omega), f1 (15 + 2) (by omega) (by omega), f1 (15 + 3) (by omega) (by omega), f1 (15 + 4) (by omega) (by omega)]
    exact hE j d hj
  have hNN : ∀ j, j < m → (ds.take m).take j = ds.take j := fun j hj => by rw [List.take_take, show min j m = j by omega]
  by_cases hmm : m = ds.length
  · rw [if_pos (by rw [hmm, Nat.sub_self]; decide)]
    refine ⟨_, s', T, rfl, rfl, h.town ⟨n, K, nm, ds.take m, kd, ht.swap (okDs_take ht.2.1.1 m) (fun a ha => f1 a (by omega) (by omega)) g1 g2 hCD g4 (fun _ _ => rfl) rfl (by rw [h18, hL, hmm]) ?_ (fun j hj => ?_)⟩ (fun a ha => f1 a (by omega) (by omega)) (fun _ _ => rfl) (fun _ _ => rfl)⟩
    · rw [hmm, List.take_length]; exact hM.2.2
    · rw [hL] at hj
      rw [hNN j hj]
      exact ht.2.1.2.2.2.2.2 j (by omega)
  · rw [if_neg (nI_nle (by omega) (by omega)), show (78:Int32) = nI 78 from by decide, pk_mul, ← nI_0]
    obtain ⟨T1, k1, k2, k3, k4⟩ := copies_ok (T := T) (a := 106) (b := 105) (p := 78 * m) (q := 0) (N := 4680) (M := 78) (by decide) rfl rfl (by omega) (by omega) (by omega) (by omega)
    rw [k1]
    simp only [bs, pv_pm]
    refine ⟨_, s', _, rfl, rfl, h.town ⟨n, K, nm, ds.take m, kd, ht.swap (okDs_take ht.2.1.1 m) (fun a ha => f1 a (by omega) (by omega)) g1 g2 hCD g4 (fun a ha => ?_) ?_ ?_ ?_ (fun j hj => ?_)⟩ (fun a ha => f1 a (by omega) (by omega)) (fun c hc => ?_) (fun j hj => ?_)⟩
    · rw [upT (by omega), k3 a (by omega)]
    · rw [upTj (by decide), k3 94 (by decide)]
    · rw [upTa, hL]
    · rw [upT (by decide)]
      refine (ht.2.1.2.2.2.2.2 m (by omega)).copy (okT_take ht.ok0 ht.2.1.1 m) (fun i hi => ?_)
      exact k2 i hi
    · rw [hL] at hj
      rw [upT (by decide), k3 106 (by decide), hNN j hj]
      exact ht.2.1.2.2.2.2.2 j (by omega)
    · rw [upT (by omega), k3 c (by omega)]
    · rw [upTj (by omega), k3 94 (by decide)]
theorem ra_k {k : Nat} (h : k < 3) : pv_ra 20 3 (nI k) = some (21 + 5 * k) := by
  match k, h with
  | 0, _ => rfl
  | 1, _ => rfl
  | 2, _ => rfl
theorem keepC (x : Int32) : f101_isKeepingPlace x = some (if x < 0 then 0 else if 3 ≤ x then 0 else 1) := by
  unfold f101_isKeepingPlace
  by_cases h : x < 0
  · simp [h, pv_bl0]
  · by_cases h2 : 3 ≤ x
    · simp [h, h2, pv_bl0]
    · simp [h, h2, pv_bl1]
theorem nI_len_ne {k : Nat} (h : k ≤ 60) : ¬ nI k = (-9:Int32) := by
  intro q
  have h1 : ¬ nI k < 0 := nI_pos (by omega)
  rw [q] at h1
  exact h1 (by decide)
theorem Town.keep {s s' : pv_F} {T T' : pv_T} {n : Nat} {K : Nat → Nat} {nm : Nat → List Nat} {ds : List Deed} {kd : Nat → Option (List Deed)} (h : Town s T n K nm ds kd) {k : Nat} (hk : k < 3) (hs : ∀ a, 3 ≤ a → a ≤ 35 → (a < 21 + 5 * k ∨ 21 + 5 * k + 4 < a) → s' a = s a) (h5 : s' (21 + 5 * k) 5 = 1) (hC : CDeeds s' (21 + 5 * k) ds) (hT : ∀ a, a = 101 ∨ a = 105 ∨ a = 106 → T'.1 a = T.1 a) (h8 : T'.1 94 8 = T.1 94 8) (h18 : T'.1 94 18 = T.1 94 18) (h107 : T'.1 107 k = nI ds.length) (h107' : ∀ j, j ≠ k → T'.1 107 j = T.1 107 j) (h108 : ∀ i, i < 78 → T'.1 108 (78 * k + i) = T.1 105 i) (h108' : ∀ j, j < 78 * k ∨ 78 * k + 78 ≤ j → T'.1 108 j = T.1 108 j) (h109 : ∀ i, i < 4680 → T'.1 109 (4680 * k + i) = T.1 106 i) (h109' : ∀ j, j < 4680 * k ∨ 4680 * k + 4680 ≤ j → T'.1 109 j = T.1 109 j) : Town s' T' n K nm ds (fun j => if j = k then some ds else kd j) := by
  have hv := h.view
  have h0 := h.ok0
  obtain ⟨⟨a1, a2, a3, a4, a5⟩, ⟨b1, b2, b3, b4, b5, b6⟩, c⟩ := h
  have t101 := hT 101 (by omega)
  have t105 := hT 105 (by omega)
  have t106 := hT 106 (by omega)
  have hl := b1.1
  refine ⟨⟨a1, fun x hx => ?_, ?_, ?_, ?_⟩, ⟨b1, b2.frame (fun a ha => hs a (by omega) (by omega) (by omega)), b3.frame (fun a ha => hs a (by omega) (by omega) (by omega)), by rw [h18]; exact b4, by rw [t105]; exact b5, fun j hj => by rw [t106]; exact b6 j hj⟩, fun j hj => ?_⟩
  · rw [hs 5 (by omega) (by omega) (by omega), hs 9 (by omega) (by omega) (by omega), hs 6 (by omega) (by omega) (by omega), hs 7 (by omega) (by omega) (by omega), t101]
    exact a2 x hx
  · rw [hs 4 (by omega) (by omega) (by omega)]; exact a3
  · rw [hs 8 (by omega) (by omega) (by omega)]; exact a4
  · rw [h8]; exact a5
  · by_cases e : j = k
    · subst e
      refine Or.inr ⟨ds, by simp, b1, h5, hC, h107, b5.copy hv.1 (fun i hi => by rw [h108 i hi, Nat.zero_add]), fun i hi => (b6 i hi).copy (okT_take h0 b1 i) (fun q hq => ?_)⟩
      rw [Nat.add_assoc, h109 _ (by omega)]
    · simp only [e, if_false]
      have hfr : ∀ a, 21 + 5 * j ≤ a ∧ a ≤ 21 + 5 * j + 4 → s' a = s a := fun a ha => hs a (by omega) (by omega) (by omega)
      rw [hfr (21 + 5 * j) (by omega), h107' j e]
      rcases c j hj with q | ⟨d, d1, d2, d3, d4, d5, d6, d7⟩
      · exact Or.inl q
      · have hdl := d2.1
        refine Or.inr ⟨d, d1, d2, d3, d4.frame hfr, d5, d6.copy (okT_run h0 d2) (fun i hi => h108' _ (by omega)), fun i hi => (d7 i hi).copy (okT_take h0 d2 i) (fun q hq => h109' _ (by omega))⟩
theorem op20 : OP20 Inv := by
  intro a s T h
  obtain ⟨n, K, nm, ds, kd, ht⟩ := h.2.2.2
  obtain ⟨hF, hC, hM, hR⟩ := ht.view
  have hn := hF.1
  have hlen := ht.2.1.1.1
  have hD := ht.2.1.2.1
  have h18 := ht.2.1.2.2.2.1
  unfold f74_keep f166_keep
  rw [in_eq, keepC]
  rcases pk_ix a (n := 3) (by omega) with ha | ha | ⟨k, hk, rfl⟩
  · rw [if_pos ha, if_pos ha]
    exact ⟨-1, s, T, rfl, rfl, h⟩
  · obtain ⟨c1, -, c3, c4⟩ := cmp_big ha (by omega)
    rw [if_neg c1, if_neg c1, if_pos (show (3:Int32) ≤ a from ha), if_pos (show (2:Int32) < a from (c3 2 (by omega)).2)]
    exact ⟨-1, s, T, rfl, rfl, h⟩
  rw [if_neg (nI_pos (by omega)), if_neg (nI_pos (by omega)), if_neg (show ¬ (3:Int32) ≤ nI k from nI_ge (b := 3) hk (by omega)), if_neg (show ¬ (2:Int32) < nI k from nI_nlt (a := 2) (by omega) (by omega))]
  simp only [bs]
  rw [if_neg (show ¬ (1:Int32) = 0 by decide), if_neg (show ¬ (1:Int32) = 0 by decide), hC.1, hM.1]
  by_cases hn0 : n = 0
  · subst hn0
    rw [if_pos nI_0, if_pos nI_0]
    exact ⟨-4, s, T, rfl, rfl, h⟩
  rw [if_neg (nI_ne0 (by omega) (by omega)), if_neg (nI_ne0 (by omega) (by omega)), ra_k hk]
  simp only [bs]
  obtain ⟨s1, e1, g1, g2, f1⟩ := takeD_ok (o := 21 + 5 * k) hlen hD (by omega)
  rw [e1]
  simp only [bs, pv_pf]
  rw [wm_nI hk]
  simp only [bs]
  obtain ⟨T1, hT1⟩ : ∃ T1 : pv_T, T1 = (pv_up T.1 107 k (T.1 94 18), T.2) := ⟨_, rfl⟩
  rw [← hT1, show (78:Int32) = nI 78 from by decide, pk_mul, ← nI_0]
  obtain ⟨T2, k1, k2, k3, k4⟩ := copies_ok (T := T1) (a := 105) (b := 108) (p := 0) (q := 78 * k) (N := 78) (M := 234) (by decide) rfl rfl (by omega) (by omega) (by omega) (by omega)
  rw [k1]
  simp only [bs]
  obtain ⟨T3, l1, l2, l3, l4⟩ := copy_loop (B := f166_keep_b1 (nI k)) (T := T2) (a := 106) (b := 109) (p := 0) (q := 4680 * k) (z := 4680) (by omega) (by decide) (fun i U hi hU => by
    unfold f166_keep_b1
    simp only
    rw [if_neg (show ¬ (4680:Int32) ≤ nI i from nI_ge (b := 4680) hi (by omega)), rd_nI (by omega)]
    simp only [bs]
    rw [show (4680:Int32) = nI 4680 from by decide, pk_mul, nI_add, wm_nI (by omega), nI_1]
    simp only [bs, Nat.zero_add]) (fun U => by
    unfold f166_keep_b1
    simp only
    rw [if_pos (by decide)])
  rw [← nI_0] at l1
  rw [l1]
  simp only [bs]
  have G : ∀ c, c ≠ 107 → c ≠ 108 → c ≠ 109 → T3.1 c = T.1 c := fun c c1 c2 c3 => by rw [l3 c c3, k3 c c2, hT1, upT c1]
  refine ⟨nI ds.length, pv_up s1 (21 + 5 * k) 5 1, T3, ?_, ?_, h.town ⟨n, K, nm, ds, _, ht.keep (s' := pv_up s1 (21 + 5 * k) 5 1) (T' := T3) hk (fun a h1 h2 h3 => ?_) (up_at _ _ _ _) ?_ (fun a ha => G a (by omega) (by omega) (by omega)) (by rw [G 94 (by decide) (by decide) (by decide)]) (by rw [G 94 (by decide) (by decide) (by decide)]) ?_ (fun j hj => ?_) (fun i hi => ?_) (fun j hj => ?_) (fun i hi => ?_) (fun j hj => ?_)⟩ (fun a ha => ?_) (fun c hc => G c (by omega) (by omega) (by omega)) (fun j hj => by rw [G 94 (by decide) (by decide) (by decide)])⟩
  · rw [up_ne (by omega), f1 15 (by omega) (by omega) (by omega) (by omega) (by omega), hD.1]
  · rw [G 94 (by decide) (by decide) (by decide), h18]
  · rw [up_ne (by omega), f1 a (by omega) (by omega) (by omega) (by omega) (by omega)]
  · refine ⟨by rw [up_nj (by decide)]; exact g1.1, fun j d hj => ?_⟩
    rw [up_ne (by omega), up_ne (by omega), up_ne (by omega), up_ne (by omega)]
    exact g1.2 j d hj
  · rw [l3 107 (by decide), k3 107 (by decide), hT1, upTa, h18]
  · rw [l3 107 (by decide), k3 107 (by decide), hT1, upTj hj]
  · rw [l3 108 (by decide), k2 i hi, hT1, upT (by decide), Nat.zero_add]
  · rw [l3 108 (by decide), k4 j hj, hT1, upT (by decide)]
  · rw [l2 i hi, k3 106 (by decide), hT1, upT (by decide), Nat.zero_add]
  · rw [l4 j hj, k3 109 (by decide), hT1, upT (by decide)]
  · rw [up_ne (by omega), f1 a (by omega) (by omega) (by omega) (by omega) (by omega)]
theorem op21 : OP21 Inv := by
  intro a s T h
  obtain ⟨n, K, nm, ds, kd, ht⟩ := h.2.2.2
  obtain ⟨hF, hC, hM, hR⟩ := ht.view
  have hn := hF.1
  unfold f75_on f167_on
  rw [in_eq, keepC]
  rcases pk_ix a (n := 3) (by omega) with ha | ha | ⟨k, hk, rfl⟩
  · rw [if_pos ha, if_pos ha]
    exact ⟨-1, s, T, rfl, rfl, h⟩
  · obtain ⟨c1, -, c3, c4⟩ := cmp_big ha (by omega)
    rw [if_neg c1, if_neg c1, if_pos (show (3:Int32) ≤ a from ha), if_pos (show (2:Int32) < a from (c3 2 (by omega)).2)]
    exact ⟨-1, s, T, rfl, rfl, h⟩
  rw [if_neg (nI_pos (by omega)), if_neg (nI_pos (by omega)), if_neg (show ¬ (3:Int32) ≤ nI k from nI_ge (b := 3) hk (by omega)), if_neg (show ¬ (2:Int32) < nI k from nI_nlt (a := 2) (by omega) (by omega))]
  simp only [bs]
  rw [if_neg (show ¬ (1:Int32) = 0 by decide), if_neg (show ¬ (1:Int32) = 0 by decide), ra_k hk, rd_nI hk]
  simp only [bs]
  rcases ht.2.2 k hk with ⟨-, d1, d2⟩ | ⟨es, d1, d2, d3, d4, d5, d6, d7⟩
  · rw [d1, d2, if_pos (rfl : (0:Int32) = 0), if_pos (rfl : (-9:Int32) = -9), find_ok 1 (by omega), meet_ok 1 (by omega)]
    exact ⟨_, _, _, rfl, rfl, h.fnd (by omega) (by omega)⟩
  have hlen := d2.1
  rw [d3, d5, if_neg (show ¬ (1:Int32) = 0 by decide), if_neg (nI_len_ne hlen)]
  obtain ⟨s1, e1, g1, -, f1⟩ := takeD_ok (o := 15) hlen d4 (by omega)
  rw [e1]
  simp only [bs, pv_pm]
  rw [g1.1]
  have hFo : FC s1 4 n K nm (fun _ => 0) := by
    have h4 := ht.found
    refine ⟨by rw [f1 4 (by omega) (by omega) (by omega) (by omega) (by omega)]; exact h4.1, fun x hx => ?_⟩
    rw [f1 (4 + 1) (by omega) (by omega) (by omega) (by omega) (by omega), f1 (4 + 2) (by omega) (by omega) (by omega) (by omega) (by omega), f1 (4 + 3) (by omega) (by omega) (by omega) (by omega) (by omega)]
    exact h4.2 x hx
  obtain ⟨s2, e2, g2, g3, g4, g5, f2⟩ := goBack_ok ht.ok0 hFo d2 g1.2
  rw [e2]
  simp only [bs]
  obtain ⟨T1, hT1⟩ : ∃ T1 : pv_T, T1 = (pv_up T.1 94 18 (nI es.length), T.2) := ⟨_, rfl⟩
  rw [← hT1, show (78:Int32) = nI 78 from by decide, pk_mul, ← nI_0]
  obtain ⟨T2, k1, k2, k3, k4⟩ := copies_ok (T := T1) (a := 108) (b := 105) (p := 78 * k) (q := 0) (N := 234) (M := 78) (by decide) rfl rfl (by omega) (by omega) (by omega) (by omega)
  rw [k1]
  simp only [bs]
  obtain ⟨T3, l1, l2, l3, l4⟩ := copy_loop (B := f167_on_b1 (nI k)) (T := T2) (a := 109) (b := 106) (p := 4680 * k) (q := 0) (z := 4680) (by omega) (by decide) (fun i U hi hU => by
    unfold f167_on_b1
    simp only
    rw [if_neg (show ¬ (4680:Int32) ≤ nI i from nI_ge (b := 4680) hi (by omega)), show (4680:Int32) = nI 4680 from by decide, pk_mul, nI_add, rd_nI (by omega)]
    simp only [bs]
    rw [wm_nI (by omega), nI_1]
    simp only [bs, Nat.zero_add]) (fun U => by
    unfold f167_on_b1
    simp only
    rw [if_pos (by decide)])
  rw [← nI_0] at l1
  rw [l1]
  simp only [bs]
  have G : ∀ c, c ≠ 94 → c ≠ 105 → c ≠ 106 → T3.1 c = T.1 c := fun c c1 c2 c3 => by rw [l3 c c3, k3 c c2, hT1, upT c1]
  have G94 : ∀ j, j ≠ 18 → T3.1 94 j = T.1 94 j := fun j hj => by rw [l3 94 (by decide), k3 94 (by decide), hT1, upTj hj]
  have G18 : T3.1 94 18 = nI es.length := by rw [l3 94 (by decide), k3 94 (by decide), hT1, upTa]
  have F : ∀ a, a ≠ 3 → (a < 8 ∨ 19 < a) → s2 a = s a := fun a a3 ha => by rw [f2 a a3 (by omega), f1 a (by omega) (by omega) (by omega) (by omega) (by omega)]
  refine ⟨nI es.length, s2, T3, by rw [g4], by rw [G18], h.town ⟨n, K, nm, es, kd, ht.swap d2 (fun a ha => F a (by omega) (by omega)) g2 g3 ⟨g4, fun j d hj => ?_⟩ g5 (fun a ha => G a (by omega) (by omega) (by omega)) (G94 8 (by decide)) G18 ?_ (fun j hj => ?_)⟩ (fun a ha => F a (by omega) (by omega)) (fun c hc => G c (by omega) (by omega) (by omega)) (fun j hj => G94 j (by omega))⟩
  · rw [f2 (15 + 1) (by omega) (by omega), f2 (15 + 2) (by omega) (by omega), f2 (15 + 3) (by omega) (by omega), f2 (15 + 4) (by omega) (by omega)]
    exact g1.2 j d hj
  · rw [l3 105 (by decide)]
    refine d6.copy (okT_run ht.ok0 d2) (fun i hi => ?_)
    rw [k2 i hi, hT1, upT (by decide)]
  · refine (d7 j hj).copy (okT_take ht.ok0 d2 j) (fun i hi => ?_)
    have := l2 (78 * j + i) (by omega)
    rw [Nat.zero_add] at this
    rw [this, k3 109 (by decide), hT1, upT (by decide), Nat.add_assoc]
