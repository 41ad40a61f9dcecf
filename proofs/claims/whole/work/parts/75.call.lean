/-! CALL and MEND -/
theorem upP {f : pv_F} {a j : Nat} {x : Int32} {y : Int64} : ((pv_up f a j x, y) : pv_T).1 a j = x := up_at _ _ _ _
theorem okDs_push {n : Nat} {K : Nat → Nat} {A : TS} {ds : List Deed} {d : Deed} (h : okDs K n A ds) (hd : okD K n (runA K n A ds) d) (hl : ds.length < 60) : okDs K n A (ds ++ [d]) := by
  refine ⟨by rw [List.length_append]; exact hl, fun j e he => ?_⟩
  rcases Nat.lt_trichotomy j ds.length with q | q | q
  · rw [List.getElem?_append_left q] at he
    rw [List.take_append_of_le_length (by omega)]
    exact h.2 j e he
  · subst q
    rw [List.getElem?_append_right (Nat.le_refl _)] at he
    simp at he
    subst he
    rw [List.take_left']
    · exact hd
    · rfl
  · rw [List.getElem?_eq_none (by rw [List.length_append]; exact q)] at he
    exact absurd he (by simp)
theorem runA_push {n : Nat} {K : Nat → Nat} {A : TS} {ds : List Deed} {d : Deed} : runA K n A (ds ++ [d]) = stepA K n (runA K n A ds) d := by
  unfold runA
  rw [List.foldl_append]
  rfl
theorem Town.push {s s' : pv_F} {T T' : pv_T} {n : Nat} {K : Nat → Nat} {nm : Nat → List Nat} {ds : List Deed} {kd : Nat → Option (List Deed)} {d : Deed} (h : Town s T n K nm ds kd) (hd : okD K n (runA K n (A_0 nm) ds) d) (hl : ds.length < 60) (hs : ∀ a, (4 ≤ a ∧ a ≤ 9) ∨ (20 ≤ a ∧ a ≤ 35) → s' a = s a) (hC : CDeeds s' 15 (ds ++ [d])) (hR : CRep s' n (stepA K n (runA K n (A_0 nm) ds) d)) (hT : ∀ a, a = 101 ∨ (107 ≤ a ∧ a ≤ 109) → T'.1 a = T.1 a) (h8 : T'.1 94 8 = T.1 94 8) (h18 : T'.1 94 18 = nI (ds.length + 1)) (hM : MRep (T'.1 105) 0 n (stepA K n (runA K n (A_0 nm) ds) d)) (hj : ∀ j, j < 78 * ds.length → T'.1 106 j = T.1 106 j) (hN : ∀ i, i < 78 → T'.1 106 (78 * ds.length + i) = T.1 105 i) : Town s' T' n K nm (ds ++ [d]) kd := by
  have hv := h.view
  obtain ⟨⟨a1, a2, a3, a4, a5⟩, ⟨b1, b2, b3, b4, b5, b6⟩, c⟩ := h
  have t101 := hT 101 (by omega)
  have t107 := hT 107 (by omega)
  have t108 := hT 108 (by omega)
  have t109 := hT 109 (by omega)
  refine ⟨⟨a1, fun x hx => ?_, ?_, ?_, ?_⟩, ⟨okDs_push b1 hd hl, hC, by rw [runA_push]; exact hR, by rw [List.length_append]; exact h18, by rw [runA_push]; exact hM, fun j hj2 => ?_⟩, fun k hk => ?_⟩
  · rw [hs 5 (by omega), hs 9 (by omega), hs 6 (by omega), hs 7 (by omega), t101]
    exact a2 x hx
  · rw [hs 4 (by omega)]; exact a3
  · rw [hs 8 (by omega)]; exact a4
  · rw [h8]; exact a5
  · rw [List.length_append] at hj2
    rcases Nat.lt_or_ge j ds.length with q | q
    · rw [List.take_append_of_le_length (by omega)]
      have hk := okT_take (⟨a1, fun x hx => ⟨(a2 x hx).1, (a2 x hx).2.1, Nat.zero_le _⟩⟩ : okT n K (A_0 nm)) b1 j
      exact (b6 j q).copy hk (fun i hi => hj _ (by omega))
    · obtain rfl : j = ds.length := by simp at hj2; omega
      rw [List.take_left' rfl]
      refine b5.copy hv.1 (fun i hi => ?_)
      rw [hN i hi, Nat.zero_add]
  · rw [hs (21 + 5 * k) (by omega), t107, t108]
    rcases c k hk with q | ⟨d, d1, d2, d3, d4, d5, d6, d7⟩
    · exact Or.inl q
    · refine Or.inr ⟨d, d1, d2, d3, ?_, d5, d6, fun j hj => ?_⟩
      · unfold CDeeds
        rw [hs (21 + 5 * k) (by omega), hs (21 + 5 * k + 1) (by omega), hs (21 + 5 * k + 2) (by omega), hs (21 + 5 * k + 3) (by omega), hs (21 + 5 * k + 4) (by omega)]
        exact d4
      · rw [t109]; exact d7 j hj
theorem room_ok {s : pv_F} {c k : Nat} (h : s c 4 = nI k) (hk : k ≤ 60) : f1_hasRoomFor c (1:Int32) s = some (if k < 60 then 1 else 0) := by
  unfold f1_hasRoomFor
  rw [h, nI_1]
  by_cases e : k < 60
  · rw [if_neg (show ¬ (60:Int32) < nI (k + 1) from nI_nlt (a := 60) (by omega) (by omega)), if_pos e]
    simp [pv_bl1]
  · rw [if_pos (show (60:Int32) < nI (k + 1) from nI_lt (a := 60) (by omega) (by omega)), if_neg e]
    simp [pv_bl0]
theorem add_ok {s : pv_F} {c : Nat} {ds : List Deed} (d : Deed) (h : CDeeds s c ds) (hk : ds.length < 60) : ∃ s', f2_add c (nI d.1) (nI d.2.1) (nI d.2.2.1) (nI d.2.2.2) s = some s' ∧ CDeeds s' c (ds ++ [d]) ∧ ∀ a, a ≠ c → a ≠ c + 1 → a ≠ c + 2 → a ≠ c + 3 → a ≠ c + 4 → s' a = s a := by
  obtain ⟨h1, h2⟩ := h
  unfold f2_add
  rw [room_ok h1 (by omega), if_pos hk]
  simp only [bs]
  rw [if_neg (show ¬ (1:Int32) = 0 by decide), h1, wr_nI (by omega)]
  simp only [bs]
  rw [up_ne (by omega), h1, wr_nI (by omega)]
  simp only [bs]
  rw [up_ne (by omega), up_ne (by omega), h1, wr_nI (by omega)]
  simp only [bs]
  rw [up_ne (by omega), up_ne (by omega), up_ne (by omega), h1, wr_nI (by omega)]
  simp only [bs, pv_pf]
  rw [up_ne (by omega), up_ne (by omega), up_ne (by omega), up_ne (by omega), h1, nI_1]
  refine ⟨_, rfl, ⟨by rw [up_at, List.length_append]; rfl, fun j e he => ?_⟩, fun a a0 a1 a2 a3 a4 => by rw [up_ne a0, up_ne a4, up_ne a3, up_ne a2, up_ne a1]⟩
  rcases Nat.lt_trichotomy j ds.length with q | q | q
  · rw [List.getElem?_append_left q] at he
    have hq : j ≠ ds.length := by omega
    refine ⟨?_, ?_, ?_, ?_⟩
    · rw [up_ne (by omega), up_ne (by omega), up_ne (by omega), up_ne (by omega), up_nj hq]; exact (h2 j e he).1
    · rw [up_ne (by omega), up_ne (by omega), up_ne (by omega), up_nj hq, up_ne (by omega)]; exact (h2 j e he).2.1
    · rw [up_ne (by omega), up_ne (by omega), up_nj hq, up_ne (by omega), up_ne (by omega)]; exact (h2 j e he).2.2.1
    · rw [up_ne (by omega), up_nj hq, up_ne (by omega), up_ne (by omega), up_ne (by omega)]; exact (h2 j e he).2.2.2
  · subst q
    rw [List.getElem?_append_right (Nat.le_refl _)] at he
    simp at he
    subst he
    refine ⟨?_, ?_, ?_, ?_⟩
    · rw [up_ne (by omega), up_ne (by omega), up_ne (by omega), up_ne (by omega), up_at]
    · rw [up_ne (by omega), up_ne (by omega), up_ne (by omega), up_at]
    · rw [up_ne (by omega), up_ne (by omega), up_at]
    · rw [up_ne (by omega), up_at]
  · rw [List.getElem?_eq_none (by rw [List.length_append]; exact q)] at he
    exact absurd he (by simp)
theorem CRep.frame {s s' : pv_F} {n : Nat} {A : TS} (h : CRep s n A) (e : ∀ a, a = 3 ∨ (10 ≤ a ∧ a ≤ 14) → s' a = s a) : CRep s' n A := by
  unfold CRep
  rw [e 10 (by omega), e 11 (by omega), e 12 (by omega), e 13 (by omega), e 14 (by omega), e 3 (by omega)]
  exact h
theorem CDeeds.frame {s s' : pv_F} {c : Nat} {ds : List Deed} (h : CDeeds s c ds) (e : ∀ a, c ≤ a ∧ a ≤ c + 4 → s' a = s a) : CDeeds s' c ds := by
  unfold CDeeds
  rw [e c (by omega), e (c + 1) (by omega), e (c + 2) (by omega), e (c + 3) (by omega), e (c + 4) (by omega)]
  exact h
theorem room60 {k : Nat} (hk : k ≤ 60) : (nI k = (60:Int32)) = (k = 60) := propext ⟨fun q => (nI_eq (by omega) (by omega)).mp (show nI k = nI 60 from q), fun q => by rw [q]; decide⟩
theorem op15 : OP15 Inv := by
  intro a b s T h
  obtain ⟨n, K, nm, ds, kd, ht⟩ := h.2.2.2
  obtain ⟨hF, hC, hM, hR⟩ := ht.view
  have hn := hF.1
  obtain ⟨w, hw, hwC⟩ := h.1.1
  have hwM : T.1 94 9 = nI w := by rw [h.1.2.2.1]; exact hwC
  have hlen := ht.2.1.1.1
  have hD := ht.2.1.2.1
  have h18 := ht.2.1.2.2.2.1
  unfold f69_call f160_call
  rcases pair_ok (a := a) (b := b) hn hC.1 hM.1 with ⟨h1, h2⟩ | ⟨x, y, hx, hy, hxy, rfl, rfl, h1, h2⟩
  · rw [h1, h2]
    exact ⟨-1, s, T, rfl, rfl, h⟩
  rw [h1, h2, canCall_ok hF hC hx hy, mayCall_ok hF hM hx hy]
  simp only [bs]
  rw [if_neg (show ¬ (1:Int32) = 0 by decide), if_neg (show ¬ (1:Int32) = 0 by decide)]
  by_cases hc : ¬ canA K (runA K n (A_0 nm) ds).1 x y = true
  · rw [if_neg hc, if_pos (by decide), if_pos (by decide)]
    exact ⟨_, s, T, rfl, rfl, h⟩
  have hc := Classical.not_not.mp hc
  rw [if_pos hc, if_neg (show ¬ (1:Int32) = 0 by decide), if_neg (show ¬ (1:Int32) = 0 by decide), room_ok hD.1 hlen, h18]
  simp only [bs, room60 hlen]
  by_cases hl : ds.length = 60
  · rw [if_neg (show ¬ ds.length < 60 by omega), if_pos (by decide), if_pos hl]
    exact ⟨_, s, T, rfl, rfl, h⟩
  rw [if_pos (show ds.length < 60 by omega), if_neg (show ¬ (1:Int32) = 0 by decide), if_neg hl, hwC]
  unfold f45_callOut
  obtain ⟨s1, e1, g1, f1⟩ := add_ok (c := 15) ((x, y, 0, w) : Deed) hD (by omega)
  have e1' : f2_add 15 (nI x) (nI y) (0:Int32) (nI w) s = some s1 := e1
  rw [e1']
  simp only [bs]
  have hR1 : CRep s1 n (runA K n (A_0 nm) ds) := hR.frame (fun a ha => f1 a (by omega) (by omega) (by omega) (by omega) (by omega))
  obtain ⟨s2, e2, g2, f2⟩ := carryCall_ok hF (fun z hz => by rw [f1 9 (by omega) (by omega) (by omega) (by omega) (by omega)]; exact (hC.2 z hz).1) (by rw [f1 8 (by omega) (by omega) (by omega) (by omega) (by omega)]; exact hC.1) hR1 hx hy hc hw
  rw [e2]
  obtain ⟨T1, k1, k2, k3, k4, k5, k6⟩ := note_ok (T := T) (by omega) h18
  rw [k1]
  simp only [bs]
  have hM1 : MR T1 n K (runA K n (A_0 nm) ds) := ⟨by rw [k3 8 (by decide)]; exact hM.1, fun z hz => by rw [k6 101 (by decide) (by decide)]; exact hM.2.1 z hz, by rw [k6 105 (by decide) (by decide)]; exact hM.2.2⟩
  obtain ⟨T2, l1, l2, l3⟩ := doCall_ok hF hM1 hx hy hc hw (by rw [k3 9 (by decide)]; exact hwM)
  rw [l1]
  refine ⟨_, s2, T2, rfl, rfl, ?_⟩
  have F : ∀ a, a < 10 ∨ 19 < a → s2 a = s a := fun a ha => by rw [f2 a (by omega), f1 a (by omega) (by omega) (by omega) (by omega) (by omega)]
  have G : ∀ c, c ≠ 94 → c ≠ 105 → c ≠ 106 → T2.1 c = T.1 c := fun c c1 c2 c3 => by rw [l3 c c2, k6 c c1 c3]
  have G94 : ∀ j, j ≠ 18 → T2.1 94 j = T.1 94 j := fun j hj => by rw [l3 94 (by decide), k3 j hj]
  obtain ⟨i1, i2, i3, i4⟩ := h
  obtain ⟨m1, m2, m3, m4, m5, m6, m7⟩ := i1
  refine ⟨⟨?_, ?_, ?_, ?_, ?_, ?_, fun f q1 q2 => ?_⟩, i2.frame (fun a h1 h2 => F a (by omega)) (G 96 (by decide) (by decide) (by decide)) (G 97 (by decide) (by decide) (by decide)), i3.frame (fun a h1 h2 => F a (by omega)) (G 99 (by decide) (by decide) (by decide)) (G 100 (by decide) (by decide) (by decide)), n, K, nm, ds ++ [(x, y, 0, w)], kd, ?_⟩
  · rw [F 0 (by omega)]; exact m1
  · rw [F 0 (by omega)]; exact m2
  · rw [F 0 (by omega), G94 9 (by decide)]; exact m3
  · rw [F 0 (by omega), G94 10 (by decide)]; exact m4
  · rw [F 0 (by omega), G94 2 (by decide)]; exact m5
  · rw [F 0 (by omega), G94 0 (by decide)]; exact m6
  · rw [F 73 (by omega), G 95 (by decide) (by decide) (by decide)]; exact m7 f q1 q2
  · refine ht.push ⟨hx, hy, by simp only [if_true]; exact ⟨hc, hw⟩⟩ (by omega) (fun a ha => F a (by omega)) (g1.frame (fun a ha => f2 a (by omega))) ?_ (fun a ha => G a (by omega) (by omega) (by omega)) (G94 8 (by decide)) (by rw [l3 94 (by decide)]; exact k2) ?_ (fun j hj => by rw [l3 106 (by decide)]; exact k5 j hj) (fun i hi => by rw [l3 106 (by decide)]; exact k4 i hi)
    · unfold stepA
      simp only [if_true]
      exact g2
    · unfold stepA
      simp only [if_true]
      exact l2.2.2
theorem letC_ok (a : Int32) : f216_isLetter a = some (if 97 ≤ a ∧ a ≤ 122 then 1 else 0) ∧ f134_isLetter a = some (if 97 ≤ a ∧ a ≤ 122 then 1 else 0) := by
  unfold f216_isLetter f134_isLetter
  rw [in_eq]
  have e1 : a ≤ 96 ↔ ¬ 97 ≤ a := by
    rw [Int32.le_iff_toInt_le, Int32.le_iff_toInt_le]
    have q1 : (96:Int32).toInt = 96 := rfl
    have q2 : (97:Int32).toInt = 97 := rfl
    omega
  have e2 : a < 97 ↔ ¬ 97 ≤ a := Int32.not_le.symm
  have e3 : (122:Int32) < a ↔ ¬ a ≤ 122 := Int32.not_le.symm
  by_cases h1 : 97 ≤ a
  · by_cases h2 : a ≤ 122
    · simp [e1, e2, e3, h1, h2, pv_bl1]
    · simp [e1, e2, e3, h1, h2, pv_bl0]
  · simp [e1, e2, e3, h1, pv_bl0]
theorem let_num {a : Int32} (h : 97 ≤ a ∧ a ≤ 122) : ∃ l, 1 ≤ l ∧ l ≤ 26 ∧ a = nI (96 + l) ∧ a - 96 = nI l := by
  obtain ⟨h1, h2⟩ := h
  rw [Int32.le_iff_toInt_le] at h1 h2
  have q1 : (97:Int32).toInt = 97 := rfl
  have q2 : (122:Int32).toInt = 122 := rfl
  obtain ⟨k, hk, rfl⟩ := nI_of (x := a) (by rw [Int32.lt_iff_toInt_lt]; have q0 : (0:Int32).toInt = 0 := rfl; omega)
  rw [nI_toInt hk] at h1 h2
  refine ⟨k - 96, by omega, by omega, by rw [show 96 + (k - 96) = k by omega], ?_⟩
  rw [show (96:Int32) = nI 96 from by decide, pk_sub (by omega)]
theorem op16 : OP16 Inv := by
  intro a b c s T h
  obtain ⟨n, K, nm, ds, kd, ht⟩ := h.2.2.2
  obtain ⟨hF, hC, hM, hR⟩ := ht.view
  have hn := hF.1
  obtain ⟨p, hp, hpC⟩ := h.1.2.1
  have hpM : T.1 94 10 = nI p := by rw [h.1.2.2.2.1]; exact hpC
  have hlen := ht.2.1.1.1
  have hD := ht.2.1.2.1
  have h18 := ht.2.1.2.2.2.1
  unfold f70_mend f161_mend
  rcases per_cases a hn with ha | ⟨x, hx, rfl⟩
  · rw [perC_out hC.1 ha, perM_out hM.1 ha hn]
    exact ⟨-1, s, T, rfl, rfl, h⟩
  rw [perC_in hC.1 hx hn, perM_in hM.1 hx hn]
  simp only [bs]
  rw [if_neg (show ¬ (1:Int32) = 0 by decide), if_neg (show ¬ (1:Int32) = 0 by decide)]
  rcases per_cases b hn with hb | ⟨y, hy, rfl⟩
  · rw [perC_out hC.1 hb, perM_out hM.1 hb hn]
    exact ⟨-1, s, T, rfl, rfl, h⟩
  rw [perC_in hC.1 hy hn, perM_in hM.1 hy hn]
  simp only [bs]
  rw [if_neg (show ¬ (1:Int32) = 0 by decide), if_neg (show ¬ (1:Int32) = 0 by decide), (letC_ok c).1, (letC_ok c).2]
  simp only [bs]
  by_cases hl : ¬ (97 ≤ c ∧ c ≤ 122)
  · rw [if_neg hl, if_pos rfl, if_pos rfl]
    exact ⟨-1, s, T, rfl, rfl, h⟩
  have hl := Classical.not_not.mp hl
  obtain ⟨l, l1, l2, hc, hc2⟩ := let_num hl
  have hx5 := (hF.2 x hx).1
  have hy5 := (hF.2 y hy).1
  have hyN := (hF.2 y hy).2.1
  have hy6 := hyN.1
  rw [if_pos hl, if_neg (show ¬ (1:Int32) = 0 by decide), if_neg (show ¬ (1:Int32) = 0 by decide), rd_nI (by omega), hM.2.1 x hx, show (2:Int32) = nI 2 from nI2, is_ok hF hC hx (by omega)]
  simp only [bs]
  by_cases h2 : ¬ K x = 2
  · rw [if_neg (show ¬ (K x = 2 ∨ 2 = 1 ∧ K x = 5) by omega), if_pos rfl, if_neg (fun q => h2 ((nI_eq (by omega) (by omega)).mp q)), find_ok 3 (by omega), meet_ok 3 (by omega)]
    exact ⟨_, _, _, rfl, rfl, h.fnd (by omega) (by omega)⟩
  have h2 := Classical.not_not.mp h2
  rw [if_pos (Or.inl h2), if_neg (show ¬ (1:Int32) = 0 by decide), h2, if_pos rfl, show (1:Int32) = nI 1 from by decide, canGrow_ok hF hC hy (by omega), rd_nI (by omega), hM.2.1 y hy, lenOf_ok hn hM hy]
  simp only [bs]
  by_cases h3 : K y = 3
  · rw [if_neg (show ¬ (K y ≠ 3 ∧ _) from fun q => q.1 h3), if_pos (by decide), h3, if_pos (by decide)]
    exact ⟨-4, s, T, rfl, rfl, h⟩
  rw [if_neg (show ¬ nI (K y) = (3:Int32) from fun q => h3 ((nI_eq (by omega) (by omega)).mp (show nI (K y) = nI 3 from q)))]
  by_cases h6 : ((runA K n (A_0 nm) ds).1 y).length = 6
  · rw [if_neg (show ¬ (K y ≠ 3 ∧ _) from fun q => by have := q.2; omega), if_pos (by decide), h6, if_pos (by decide)]
    exact ⟨-4, s, T, rfl, rfl, h⟩
  rw [if_pos (show K y ≠ 3 ∧ _ from ⟨h3, by omega⟩), if_neg (show ¬ (1:Int32) = 0 by decide), if_neg (show ¬ nI ((runA K n (A_0 nm) ds).1 y).length = (6:Int32) from fun q => h6 ((nI_eq (by omega) (by omega)).mp (show nI _ = nI 6 from q))), show nI 1 = (1:Int32) from by decide, room_ok hD.1 hlen, h18]
  simp only [bs, room60 hlen]
  by_cases hl6 : ds.length = 60
  · rw [if_neg (show ¬ ds.length < 60 by omega), if_pos (by decide), if_pos hl6]
    exact ⟨_, s, T, rfl, rfl, h⟩
  rw [if_pos (show ds.length < 60 by omega), if_neg (show ¬ (1:Int32) = 0 by decide), if_neg hl6, hc2, vowelC_ok l2, hc, vowelM_ok l2]
  simp only [bs]
  obtain ⟨T1, k1, k2, k3, k4, k5, k6⟩ := note_ok (T := T) (by omega) h18
  have hM1 : MR T1 n K (runA K n (A_0 nm) ds) := ⟨by rw [k3 8 (by decide)]; exact hM.1, fun z hz => by rw [k6 101 (by decide) (by decide)]; exact hM.2.1 z hz, by rw [k6 105 (by decide) (by decide)]; exact hM.2.2⟩
  rw [k1]
  simp only [bs]
  rw [lenOf_ok hn hM1 hy]
  simp only [bs]
  rw [nI6m, nI_add, wm_nI (by omega)]
  simp only [bs]
  rw [nI42, rd_nI (by omega), show (pv_up T1.1 105 (6 * y + ((runA K n (A_0 nm) ds).1 y).length) (nI (96 + l))) 105 (42 + y) = nI ((runA K n (A_0 nm) ds).1 y).length from by rw [up_nj (by omega)]; exact hM1.len hy]
  simp only [bs]
  rw [nI_1, wm_nI (by omega)]
  simp only [bs]
  have hcost : ∃ cost, cost ≤ 99 ∧ ((if (if vow l = true then (1:Int32) else 0) = 0 then some (1:Int32) else some (s 0 7)) : Option Int32) = some (nI cost) ∧ ((if (if vow l = true then (1:Int32) else 0) = 0 then some (1:Int32) else some (pv_up (pv_up T1.1 105 (6 * y + ((runA K n (A_0 nm) ds).1 y).length) (nI (96 + l))) 105 (42 + y) (nI (((runA K n (A_0 nm) ds).1 y).length + 1)) 94 10)) : Option Int32) = some (nI cost) := by
    by_cases hv : vow l = true
    · rw [if_pos hv, if_neg (by decide), if_neg (by decide)]
      exact ⟨p, hp, by rw [hpC], by rw [up_ne (by decide), up_ne (by decide), k3 10 (by decide), hpM]⟩
    · rw [if_neg hv, if_pos (by decide), if_pos (by decide)]
      exact ⟨1, by omega, rfl, rfl⟩
  obtain ⟨cost, hc1, hc3, hc4⟩ := hcost
  rw [hc3, hc4]
  simp only [bs]
  unfold f46_mendName
  obtain ⟨s1, e1, g1, f1⟩ := add_ok (c := 15) ((x, y, l, cost) : Deed) hD (by omega)
  have e1' : f2_add 15 (nI x) (nI y) (nI l) (nI cost) s = some s1 := e1
  rw [e1']
  simp only [bs]
  have hR1 : CRep s1 n (runA K n (A_0 nm) ds) := hR.frame (fun a ha => f1 a (by omega) (by omega) (by omega) (by omega) (by omega))
  obtain ⟨s2, e2, g2, f2⟩ := carryMend_ok hF hR1 (c := cost) hy l2 (by omega)
  rw [e2]
  simp only [bs]
  rw [show (77:Int32) = nI 77 from by decide, rd_nI (by omega), show (pv_up (pv_up T1.1 105 (6 * y + ((runA K n (A_0 nm) ds).1 y).length) (nI (96 + l))) 105 (42 + y) (nI (((runA K n (A_0 nm) ds).1 y).length + 1))) 105 77 = nI (runA K n (A_0 nm) ds).2.2.2.2.2 from by rw [up_nj (by omega), up_nj (by omega)]; exact hM1.2.2.2]
  simp only [bs]
  rw [nI_add, wm_nI (by omega)]
  simp only [bs]
  refine ⟨_, s2, _, rfl, rfl, ?_⟩
  obtain ⟨V, hV⟩ : ∃ V : pv_T, V = (pv_up (pv_up (pv_up T1.1 105 (6 * y + ((runA K n (A_0 nm) ds).1 y).length) (nI (96 + l))) 105 (42 + y) (nI (((runA K n (A_0 nm) ds).1 y).length + 1))) 105 77 (nI ((runA K n (A_0 nm) ds).2.2.2.2.2 + cost)), T1.2) := ⟨_, rfl⟩
  rw [← hV]
  have V0 : ∀ c, c ≠ 105 → V.1 c = T1.1 c := fun c hc => by
    rw [hV]
    show pv_up (pv_up (pv_up T1.1 105 _ _) 105 _ _) 105 _ _ c = _
    rw [up_ne hc, up_ne hc, up_ne hc]
  have V1 : ∀ j, j ≠ 77 → j ≠ 42 + y → j ≠ 6 * y + ((runA K n (A_0 nm) ds).1 y).length → V.1 105 j = T1.1 105 j := fun j j1 j2 j3 => by
    rw [hV]
    show pv_up (pv_up (pv_up T1.1 105 _ _) 105 _ _) 105 _ _ 105 j = _
    rw [up_nj j1, up_nj j2, up_nj j3]
  have V2 : V.1 105 77 = nI ((runA K n (A_0 nm) ds).2.2.2.2.2 + cost) := by
    rw [hV]
    exact upP
  have V3 : V.1 105 (42 + y) = nI (((runA K n (A_0 nm) ds).1 y).length + 1) := by
    rw [hV]
    show pv_up (pv_up (pv_up T1.1 105 _ _) 105 _ _) 105 _ _ 105 (42 + y) = _
    rw [up_nj (by omega), up_at]
  have V4 : V.1 105 (6 * y + ((runA K n (A_0 nm) ds).1 y).length) = nI (96 + l) := by
    rw [hV]
    show pv_up (pv_up (pv_up T1.1 105 _ _) 105 _ _) 105 _ _ 105 (6 * y + _) = _
    rw [up_nj (by omega), up_nj (by omega), up_at]
  clear hV hc4
  have F : ∀ a, a ≠ 3 → a < 10 ∨ 19 < a → s2 a = s a := fun a a3 ha => by rw [f2 a a3 (by omega), f1 a (by omega) (by omega) (by omega) (by omega) (by omega)]
  have G : ∀ c, c ≠ 94 → c ≠ 105 → c ≠ 106 → V.1 c = T.1 c := fun c c1 c2 c3 => by rw [V0 c c2, k6 c c1 c3]
  have G94 : ∀ j, j ≠ 18 → V.1 94 j = T.1 94 j := fun j hj => by rw [V0 94 (by decide), k3 j hj]
  obtain ⟨i1, i2, i3, i4⟩ := h
  obtain ⟨m1, m2, m3, m4, m5, m6, m7⟩ := i1
  refine ⟨⟨?_, ?_, ?_, ?_, ?_, ?_, fun f q1 q2 => ?_⟩, i2.frame (fun a h1 h2 => F a (by omega) (by omega)) (G 96 (by decide) (by decide) (by decide)) (G 97 (by decide) (by decide) (by decide)), i3.frame (fun a h1 h2 => F a (by omega) (by omega)) (G 99 (by decide) (by decide) (by decide)) (G 100 (by decide) (by decide) (by decide)), n, K, nm, ds ++ [(x, y, l, cost)], kd, ?_⟩
  · rw [F 0 (by omega) (by omega)]; exact m1
  · rw [F 0 (by omega) (by omega)]; exact m2
  · rw [F 0 (by omega) (by omega), G94 9 (by decide)]; exact m3
  · rw [F 0 (by omega) (by omega), G94 10 (by decide)]; exact m4
  · rw [F 0 (by omega) (by omega), G94 2 (by decide)]; exact m5
  · rw [F 0 (by omega) (by omega), G94 0 (by decide)]; exact m6
  · rw [F 73 (by omega) (by omega), G 95 (by decide) (by decide) (by decide)]; exact m7 f q1 q2
  · have hl0 : ¬ l = 0 := by omega
    refine ht.push ⟨hx, hy, by simp only [hl0, if_false]; exact ⟨h3, by omega, l2, hc1⟩⟩ (by omega) (fun a ha => F a (by omega) (by omega)) (g1.frame (fun a ha => f2 a (by omega) (by omega))) ?_ (fun a ha => G a (by omega) (by omega) (by omega)) (G94 8 (by decide)) (by rw [V0 94 (by decide)]; exact k2) ?_ (fun j hj => by rw [V0 106 (by decide)]; exact k5 j hj) (fun i hi => by rw [V0 106 (by decide)]; exact k4 i hi)
    · unfold stepA
      simp only [hl0, if_false]
      exact g2
    · unfold stepA
      simp only [hl0, if_false]
      refine ⟨fun z hz => ?_, ?_⟩
      · obtain ⟨r1, r2, r3, r4, r5, r6⟩ := hM1.2.2.1 z hz
        have z6 := (hF.2 z hz).2.1.1
        simp only [Nat.zero_add] at r1 r2 r3 r4 r5 r6 ⊢
        unfold mendA
        simp only
        by_cases e : z = y
        · subst e
          rw [if_pos rfl]
          refine ⟨fun i hi => ?_, ?_, ?_, ?_, ?_, ?_⟩
          · rw [List.length_append] at hi
            rw [getD_app]
            by_cases e2 : i < ((runA K n (A_0 nm) ds).1 z).length
            · rw [if_pos e2, V1 _ (by omega) (by omega) (by omega)]
              exact r1 i e2
            · have e3 : i = ((runA K n (A_0 nm) ds).1 z).length := by simp at hi; omega
              rw [if_neg e2, if_pos e3, e3]
              exact V4
          · rw [V3, List.length_append]; rfl
          · rw [V1 _ (by omega) (by omega) (by omega)]; exact r3
          · rw [V1 _ (by omega) (by omega) (by omega)]; exact r4
          · rw [V1 _ (by omega) (by omega) (by omega)]; exact r5
          · rw [V1 _ (by omega) (by omega) (by omega)]; exact r6
        · rw [if_neg e]
          refine ⟨fun i hi => ?_, ?_, ?_, ?_, ?_, ?_⟩
          · rw [V1 _ (by omega) (by omega) (by omega)]; exact r1 i hi
          · rw [V1 _ (by omega) (by omega) (by omega)]; exact r2
          · rw [V1 _ (by omega) (by omega) (by omega)]; exact r3
          · rw [V1 _ (by omega) (by omega) (by omega)]; exact r4
          · rw [V1 _ (by omega) (by omega) (by omega)]; exact r5
          · rw [V1 _ (by omega) (by omega) (by omega)]; exact r6
      · exact V2
