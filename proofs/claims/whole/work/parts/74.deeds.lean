/-! DEEDS on both sides -/
theorem comeB_lt {K : Nat → Nat} {n : Nat} {nm : Nat → List Nat} {b x y : Nat} (h : comeB K n nm b x y = true) : y < n := by
  unfold comeB at h
  simp only [Bool.and_eq_true, decide_eq_true_eq] at h
  exact h.1.1.1
theorem come_bit (K : Nat → Nat) (n : Nat) (nm : Nat → List Nat) (b x y : Nat) : bits (comeB K n nm b x) n / 2 ^ y % 2 = if comeB K n nm b x y = true then 1 else 0 := by
  rw [bits_bit]
  by_cases h : comeB K n nm b x y = true
  · rw [if_pos h, if_pos ⟨comeB_lt h, h⟩]
  · rw [if_neg h, if_neg (fun q => h q.2)]
theorem carryCall_ok {s : pv_F} {n : Nat} {K : Nat → Nat} {A : TS} (hF : okT n K A) (hK : ∀ x, x < n → s 9 x = nI (K x)) (h8 : s 8 3 = nI n) (hR : CRep s n A) {b x w : Nat} (hb : b < n) (hx : x < n) (hc : canA K A.1 b x = true) (hw : w ≤ 2) : ∃ s', f47_carryOutCall (nI b) (nI x) (nI w) s = some (nI (bits (comeB K n A.1 b x) n), s') ∧ CRep s' n (callA K n b x w A) ∧ ∀ c, c < 10 ∨ 14 < c → s' c = s c := by
  have hn := hF.1
  have hC := FC_of hK h8 hR
  have h128 := bits_128 (comeB K n A.1 b x) hn
  unfold f47_carryOutCall
  rw [comers_ok hF hC hb hx, if_pos hc]
  simp only [bs]
  obtain ⟨s4, e4, g4, f4⟩ := wearBy_ok hF hC (a := bits (comeB K n A.1 b x) n) hb hw (by omega)
  rw [e4]
  simp only [bs]
  rw [rd_nI (by omega), f4 14 (by omega) (by omega), (hR.1 b hb).2.2.2.2]
  simp only [bs]
  rw [wr_nI (by omega), nI_1]
  simp only [bs]
  obtain ⟨e, h1, h2⟩ := lq_inv (B := f47_carryOutCall_b1 (nI x) (nI (bits (comeB K n A.1 b x) n))) (P := fun i st => st.1 = nI i ∧ (∀ y, y < n → st.2 12 y = nI (if y < i then (callA K n b x w A).2.2.1 y else A.2.2.1 y)) ∧ (∀ y, y < n → st.2 13 y = nI (if y < i then (callA K n b x w A).2.2.2.1 y else A.2.2.2.1 y)) ∧ ∀ c, c ≠ 12 → c ≠ 13 → st.2 c = pv_up s4 14 b (nI (A.2.2.2.2.1 b + 1)) c) (Q := fun st => (∀ y, y < n → st.2 12 y = nI ((callA K n b x w A).2.2.1 y)) ∧ (∀ y, y < n → st.2 13 y = nI ((callA K n b x w A).2.2.2.1 y)) ∧ ∀ c, c ≠ 12 → c ≠ 13 → st.2 c = pv_up s4 14 b (nI (A.2.2.2.2.1 b + 1)) c) n (fun i st hi hP => by
    obtain ⟨v, U⟩ := st
    obtain ⟨p1, p2, p3, p4⟩ := hP
    simp only at p1 p2 p3 p4
    subst p1
    unfold f47_carryOutCall_b1
    simp only
    have q8 : U 8 3 = nI n := by rw [p4 8 (by decide) (by decide), up_ne (by decide), f4 8 (by decide) (by decide)]; exact h8
    rw [q8, if_neg (nI_ge hi (by omega)), rd_nI (by omega), p2 i hi, if_neg (Nat.lt_irrefl i), ush_bit (by omega) (by omega), come_bit]
    simp only [bs]
    rw [nI_add, wr_nI (by omega)]
    simp only [bs]
    rw [rd_nI (by omega), up_ne (by decide), p3 i hi, if_neg (Nat.lt_irrefl i)]
    simp only [bs]
    have ht : ((if nI i = nI x then some (0:Int32) else some (nI (if comeB K n A.1 b x i = true then 1 else 0))) : Option Int32) = some (nI (if comeB K n A.1 b x i = true ∧ i ≠ x then 1 else 0)) := by
      by_cases e : i = x
      · rw [e, if_pos rfl, if_neg (fun q => q.2 rfl)]
        rfl
      · rw [if_neg (fun q => e ((nI_eq (by omega) (by omega)).mp q))]
        by_cases e2 : comeB K n A.1 b x i = true
        · rw [if_pos e2, if_pos ⟨e2, e⟩]
        · rw [if_neg e2, if_neg (fun q => e2 q.1)]
    rw [ht]
    simp only [bs]
    rw [nI_add, wr_nI (by omega), nI_1]
    simp only [bs]
    refine ⟨_, rfl, rfl, fun y hy => ?_, fun y hy => ?_, fun c c1 c2 => ?_⟩
    · simp only
      rw [up_ne (by decide)]
      by_cases e : y = i
      · subst e
        rw [up_at, if_pos (show y < y + 1 by omega)]
        unfold callA
        simp only
        by_cases e2 : comeB K n A.1 b x y = true
        · rw [if_pos e2, if_pos e2]
        · rw [if_neg e2, if_neg e2]; rfl
      · rw [up_nj e, p2 y hy]
        by_cases e2 : y < i
        · rw [if_pos e2, if_pos (by omega)]
        · rw [if_neg e2, if_neg (by omega)]
    · simp only
      by_cases e : y = i
      · subst e
        rw [up_at, if_pos (show y < y + 1 by omega)]
        unfold callA
        simp only
        by_cases e2 : comeB K n A.1 b x y = true <;> by_cases e3 : y = x <;> simp [e2, e3]
      · rw [up_nj e, up_ne (by decide), p3 y hy]
        by_cases e2 : y < i
        · rw [if_pos e2, if_pos (by omega)]
        · rw [if_neg e2, if_neg (by omega)]
    · simp only
      rw [up_ne c2, up_ne c1]
      exact p4 c c1 c2) (fun st hP => by
    obtain ⟨v, U⟩ := st
    obtain ⟨p1, p2, p3, p4⟩ := hP
    simp only at p1 p2 p3 p4
    subst p1
    unfold f47_carryOutCall_b1
    simp only
    have q8 : U 8 3 = nI n := by rw [p4 8 (by decide) (by decide), up_ne (by decide), f4 8 (by decide) (by decide)]; exact h8
    rw [q8, if_pos (nI_le (by omega) (by omega))]
    refine ⟨_, rfl, fun y hy => ?_, fun y hy => ?_, p4⟩
    · simp only
      rw [p2 y hy, if_pos hy]
    · simp only
      rw [p3 y hy, if_pos hy]) ((0:Int32), pv_up s4 14 b (nI (A.2.2.2.2.1 b + 1))) ⟨nI_0.symm, fun y hy => by
      simp only
      rw [up_ne (by decide), f4 12 (by decide) (by decide), (hR.1 y hy).2.2.1, if_neg (by omega)], fun y hy => by
      simp only
      rw [up_ne (by decide), f4 13 (by decide) (by decide), (hR.1 y hy).2.2.2.1, if_neg (by omega)], fun c c1 c2 => rfl⟩
  rw [h1]
  obtain ⟨v, U⟩ := e
  obtain ⟨q2, q3, q4⟩ := h2
  simp only at q2 q3 q4
  refine ⟨U, rfl, ⟨fun y hy => ⟨?_, ?_, q2 y hy, q3 y hy, ?_⟩, ?_⟩, fun c hc => ?_⟩
  · rw [q4 10 (by decide) (by decide), up_ne (by decide)]
    have := (g4.2 y hy).2.1
    rw [this]
    unfold callA
    simp only
    by_cases hm : mom (K b) = true
    · simp [hm]
    · simp only [hm, Bool.false_eq_true, if_false]
      unfold wrN
      rw [come_bit]
      by_cases e2 : comeB K n A.1 b x y = true
      · simp [e2]
      · simp [e2]
  · rw [q4 11 (by decide) (by decide), up_ne (by decide)]
    have := (g4.2 y hy).2.2
    rw [this]
    unfold callA
    simp only
    by_cases hm : mom (K b) = true
    · simp [hm]
    · simp only [hm, Bool.false_eq_true, if_false]
      unfold wrD
      rw [come_bit]
      by_cases e2 : comeB K n A.1 b x y = true
      · simp [e2]
      · simp [e2]
  · rw [q4 14 (by decide) (by decide)]
    unfold callA
    simp only
    by_cases e : y = b
    · subst e
      rw [up_at, if_pos rfl]
    · rw [up_nj e, f4 14 (by decide) (by decide), if_neg e]
      exact (hR.1 y hy).2.2.2.2
  · rw [q4 3 (by decide) (by decide), up_ne (by decide), f4 3 (by decide) (by decide)]
    exact hR.2
  · rw [q4 c (by omega) (by omega), up_ne (by omega), f4 c (by omega) (by omega)]
theorem carryMend_ok {s : pv_F} {n : Nat} {K : Nat → Nat} {A : TS} (hF : okT n K A) (hR : CRep s n A) {x l c : Nat} (hx : x < n) (hl : l ≤ 26) (h6 : (A.1 x).length < 6) : ∃ s', f48_carryOutMending (nI x) (nI l) (nI c) s = some s' ∧ CRep s' n (mendA x l c A) ∧ ∀ a, a ≠ 3 → a ≠ 10 → s' a = s a := by
  have hn := hF.1
  unfold f48_carryOutMending
  rw [rd_nI (by omega), (hR.1 x hx).1]
  simp only [bs]
  rw [with_ok (hF.2 x hx).2.1 hl h6]
  simp only [bs]
  rw [wr_nI (by omega)]
  simp only [bs, pv_pf]
  refine ⟨_, rfl, ⟨fun y hy => ?_, ?_⟩, fun a a1 a2 => ?_⟩
  · obtain ⟨r1, r2, r3, r4, r5⟩ := hR.1 y hy
    unfold mendA
    simp only
    refine ⟨?_, ?_, ?_, ?_, ?_⟩
    · rw [up_ne (by decide)]
      by_cases e : y = x
      · subst e
        rw [up_at, if_pos rfl]
      · rw [up_nj e, if_neg e]
        exact r1
    · rw [up_ne (by decide), up_ne (by decide)]; exact r2
    · rw [up_ne (by decide), up_ne (by decide)]; exact r3
    · rw [up_ne (by decide), up_ne (by decide)]; exact r4
    · rw [up_ne (by decide), up_ne (by decide)]; exact r5
  · rw [up_at, up_ne (by decide), hR.2, nI_add]
    rfl
  · rw [up_ne a1, up_ne a2]
/-! the model -/
theorem doCall_ok {T : pv_T} {n : Nat} {K : Nat → Nat} {A : TS} (hF : okT n K A) (hM : MR T n K A) {b x w : Nat} (hb : b < n) (hx : x < n) (hc : canA K A.1 b x = true) (hw : w ≤ 2) (hT : T.1 94 9 = nI w) : ∃ T', f157_doCall (nI b) (nI x) T = some (nI (bits (comeB K n A.1 b x) n), T') ∧ MR T' n K (callA K n b x w A) ∧ ∀ c, c ≠ 105 → T'.1 c = T.1 c := by
  have hn := hF.1
  have h128 := bits_128 (comeB K n A.1 b x) hn
  unfold f157_doCall
  rw [comersM_ok hF hM hb hx hc]
  simp only [bs]
  rw [nI70, rd_nI (by omega)]
  simp only [bs]
  have hb5 := (hM.2.2.1 b hb).2.2.2.2.2
  rw [Nat.zero_add] at hb5
  rw [hb5, wm_nI (by omega), nI_1]
  simp only [bs]
  obtain ⟨e, h1, h2⟩ := lq_inv (B := f157_doCall_b1 (nI b) (nI x) (nI (bits (comeB K n A.1 b x) n))) (P := fun i st => st.1 = nI i ∧ (∀ y, y < n → ∀ (B : TS), (B = if y < i then callA K n b x w A else (A.1, A.2.1, A.2.2.1, A.2.2.2.1, (callA K n b x w A).2.2.2.2.1, A.2.2.2.2.2)) → (∀ i, i < (B.1 y).length → st.2.1 105 (6 * y + i) = nI (96 + (B.1 y).getD i 0)) ∧ st.2.1 105 (42 + y) = nI (B.1 y).length ∧ st.2.1 105 (49 + y) = nI (B.2.1 y) ∧ st.2.1 105 (56 + y) = nI (B.2.2.1 y) ∧ st.2.1 105 (63 + y) = nI (B.2.2.2.1 y) ∧ st.2.1 105 (70 + y) = nI (B.2.2.2.2.1 y)) ∧ st.2.1 105 77 = nI A.2.2.2.2.2 ∧ ∀ c, c ≠ 105 → st.2.1 c = T.1 c) (Q := fun st => (∀ y, y < n → ∀ (B : TS), B = callA K n b x w A → (∀ i, i < (B.1 y).length → st.2.1 105 (6 * y + i) = nI (96 + (B.1 y).getD i 0)) ∧ st.2.1 105 (42 + y) = nI (B.1 y).length ∧ st.2.1 105 (49 + y) = nI (B.2.1 y) ∧ st.2.1 105 (56 + y) = nI (B.2.2.1 y) ∧ st.2.1 105 (63 + y) = nI (B.2.2.2.1 y) ∧ st.2.1 105 (70 + y) = nI (B.2.2.2.2.1 y)) ∧ st.2.1 105 77 = nI A.2.2.2.2.2 ∧ ∀ c, c ≠ 105 → st.2.1 c = T.1 c) n (fun i st hi hP => by
    obtain ⟨v, U⟩ := st
    obtain ⟨p1, p2, p3, p4⟩ := hP
    simp only at p1 p2 p3 p4
    subst p1
    unfold f157_doCall_b1
    simp only
    have q8 : U.1 94 8 = nI n := by rw [p4 94 (by decide)]; exact hM.1
    rw [q8, if_neg (nI_ge hi (by omega)), has_ok (by omega) (by omega), come_bit, nI_1]
    simp only [bs]
    have hO := hF.2 i hi
    have h6 := hO.2.1.1
    obtain ⟨r1, r2, r3, r4, r5, r6⟩ := p2 i hi _ (if_neg (Nat.lt_irrefl i)).symm
    simp only at r1 r2 r3 r4 r5 r6
    by_cases hcm : comeB K n A.1 b x i = true
    · rw [if_pos hcm, if_pos rfl, if_neg (show ¬ (1:Int32) = 0 by decide), nI56, rd_nI (by omega), r4]
      simp only [bs]
      rw [wm_nI (by omega), nI_1]
      simp only [bs]
      rw [nI63, rd_nI (by omega), up_nj (show 63 + i ≠ 56 + i by omega), r5]
      simp only [bs]
      have ht : ((if nI i = nI x then some (0:Int32) else some 1) : Option Int32) = some (nI (if i = x then 0 else 1)) := by
        by_cases e : i = x
        · rw [e, if_pos rfl, if_pos rfl]; rfl
        · rw [if_neg (fun q => e ((nI_eq (by omega) (by omega)).mp q)), if_neg e]; rfl
      rw [ht]
      simp only [bs]
      rw [wm_nI (by omega), nI_add]
      simp only [bs]
      obtain ⟨V, hV⟩ : ∃ V : pv_T, V = (pv_up (pv_up U.1 105 (56 + i) (nI (A.2.2.1 i + 1))) 105 (63 + i) (nI (A.2.2.2.1 i + if i = x then 0 else 1)), U.2) := ⟨_, rfl⟩
      have V1 : ∀ c, c ≠ 105 → V.1 c = U.1 c := fun c hc => by
        rw [hV]
        show pv_up (pv_up U.1 105 (56 + i) _) 105 (63 + i) _ c = _
        rw [up_ne hc, up_ne hc]
      have V2 : ∀ j, j ≠ 56 + i → j ≠ 63 + i → V.1 105 j = U.1 105 j := fun j j1 j2 => by
        rw [hV]
        show pv_up (pv_up U.1 105 (56 + i) _) 105 (63 + i) _ 105 j = _
        rw [up_nj j2, up_nj j1]
      have V3 : V.1 105 (56 + i) = nI (A.2.2.1 i + 1) := by
        rw [hV]
        show pv_up (pv_up U.1 105 (56 + i) _) 105 (63 + i) _ 105 (56 + i) = _
        rw [up_nj (by omega), up_at]
      have V4 : V.1 105 (63 + i) = nI (A.2.2.2.1 i + if i = x then 0 else 1) := by
        rw [hV]
        show pv_up (pv_up U.1 105 (56 + i) _) 105 (63 + i) _ 105 (63 + i) = _
        rw [up_at]
      rw [← hV]
      have hisA : f141_isA (nI b) (1:Int32) V = some (if mom (K b) then 1 else 0) := by
        unfold f141_isA
        rw [rd_nI (by omega), V1 101 (by decide), p4 101 (by decide), hM.2.1 b hb]
        simp only [bs]
        have h5 := (hF.2 b hb).1
        by_cases m1 : K b = 1
        · rw [m1, if_pos (by decide), if_pos (by decide)]; simp [pv_bl1]
        · rw [if_neg (show ¬ nI (K b) = (1:Int32) from fun q => m1 ((nI_eq (by omega) (by omega)).mp (show nI (K b) = nI 1 from q)))]
          by_cases m5 : K b = 5
          · rw [m5, if_pos True.intro, if_pos (by decide), if_pos (by decide)]; simp [pv_bl1]
          · rw [if_pos True.intro, if_neg (show ¬ nI (K b) = (5:Int32) from fun q => m5 ((nI_eq (by omega) (by omega)).mp (show nI (K b) = nI 5 from q))), if_neg (fun q => by have := (mom_iff _).mp q; omega)]
            simp [pv_bl0]
      rw [hisA]
      simp only [bs]
      by_cases hm : mom (K b) = true
      · rw [if_pos hm, if_neg (show ¬ (1:Int32) = 0 by decide)]
        simp only [bs]
        refine ⟨_, rfl, rfl, fun y hy B hB => ?_, ?_, fun c hc => ?_⟩
        · by_cases e : y = i
          · subst e
            rw [if_pos (show y < y + 1 by omega)] at hB
            subst hB
            unfold callA
            simp only [hm, hcm, Bool.not_true, Bool.and_false, Bool.false_eq_true, if_false, if_true]
            refine ⟨fun j hj => ?_, ?_, ?_, ?_, ?_, ?_⟩
            · rw [V2 _ (by omega) (by omega)]; exact r1 j hj
            · rw [V2 _ (by omega) (by omega)]; exact r2
            · rw [V2 _ (by omega) (by omega)]; exact r3
            · exact V3
            · rw [V4]
              by_cases e3 : y = x <;> simp [e3]
            · rw [V2 _ (by omega) (by omega)]; exact r6
          · have hB' : B = if y < i then callA K n b x w A else (A.1, A.2.1, A.2.2.1, A.2.2.2.1, (callA K n b x w A).2.2.2.2.1, A.2.2.2.2.2) := by
              rw [hB]
              by_cases e2 : y < i
              · rw [if_pos e2, if_pos (by omega)]
              · rw [if_neg e2, if_neg (by omega)]
            obtain ⟨t1, t2, t3, t4, t5, t6⟩ := p2 y hy B hB'
            have hlen : (B.1 y).length ≤ 6 := by
              rw [hB']
              split
              · exact ((okT_step (d := (b, x, 0, w)) hF ⟨hb, hx, by simp only [if_true]; exact ⟨hc, hw⟩⟩).2 y hy).2.1.1
              · exact (hF.2 y hy).2.1.1
            refine ⟨fun j hj => ?_, ?_, ?_, ?_, ?_, ?_⟩
            · rw [V2 _ (by omega) (by omega)]; exact t1 j hj
            · rw [V2 _ (by omega) (by omega)]; exact t2
            · rw [V2 _ (by omega) (by omega)]; exact t3
            · rw [V2 _ (by omega) (by omega)]; exact t4
            · rw [V2 _ (by omega) (by omega)]; exact t5
            · rw [V2 _ (by omega) (by omega)]; exact t6
        · simp only
          rw [V2 _ (by omega) (by omega)]; exact p3
        · simp only
          rw [V1 c hc]; exact p4 c hc
      · rw [if_neg hm, if_pos rfl]
        obtain ⟨W, w1, w2, w3, w4, w5, w6⟩ := comeM_ok (T := V) (x := i) (w := w) (d := A.2.1 i) (K := K) (l := A.1 i) (by omega) hO.1 (by rw [V1 101 (by decide), p4 101 (by decide)]; exact hM.2.1 i hi) hw (by rw [V1 94 (by decide), p4 94 (by decide)]; exact hT) hO.2.1 hO.2.2 (fun j hj => by rw [V2 _ (by omega) (by omega)]; exact r1 j hj) (by rw [V2 _ (by omega) (by omega)]; exact r2) (by rw [V2 _ (by omega) (by omega)]; exact r3)
        rw [w1]
        simp only [bs]
        refine ⟨_, rfl, rfl, fun y hy B hB => ?_, ?_, fun c hc => ?_⟩
        · by_cases e : y = i
          · subst e
            rw [if_pos (show y < y + 1 by omega)] at hB
            subst hB
            unfold callA
            simp only [hm, hcm, Bool.not_false, Bool.and_true, if_true]
            refine ⟨w2, w3, w4, ?_, ?_, ?_⟩
            · rw [w6 _ (by omega) (by omega) (by omega)]; exact V3
            · rw [w6 _ (by omega) (by omega) (by omega), V4]
              by_cases e3 : y = x <;> simp [e3]
            · rw [w6 _ (by omega) (by omega) (by omega), V2 _ (by omega) (by omega)]; exact r6
          · have hB' : B = if y < i then callA K n b x w A else (A.1, A.2.1, A.2.2.1, A.2.2.2.1, (callA K n b x w A).2.2.2.2.1, A.2.2.2.2.2) := by
              rw [hB]
              by_cases e2 : y < i
              · rw [if_pos e2, if_pos (by omega)]
              · rw [if_neg e2, if_neg (by omega)]
            obtain ⟨t1, t2, t3, t4, t5, t6⟩ := p2 y hy B hB'
            have hlen : (B.1 y).length ≤ 6 := by
              rw [hB']
              split
              · exact ((okT_step (d := (b, x, 0, w)) hF ⟨hb, hx, by simp only [if_true]; exact ⟨hc, hw⟩⟩).2 y hy).2.1.1
              · exact (hF.2 y hy).2.1.1
            refine ⟨fun j hj => ?_, ?_, ?_, ?_, ?_, ?_⟩
            · rw [w6 _ (by omega) (by omega) (by omega), V2 _ (by omega) (by omega)]; exact t1 j hj
            · rw [w6 _ (by omega) (by omega) (by omega), V2 _ (by omega) (by omega)]; exact t2
            · rw [w6 _ (by omega) (by omega) (by omega), V2 _ (by omega) (by omega)]; exact t3
            · rw [w6 _ (by omega) (by omega) (by omega), V2 _ (by omega) (by omega)]; exact t4
            · rw [w6 _ (by omega) (by omega) (by omega), V2 _ (by omega) (by omega)]; exact t5
            · rw [w6 _ (by omega) (by omega) (by omega), V2 _ (by omega) (by omega)]; exact t6
        · simp only
          rw [w6 _ (by omega) (by omega) (by omega), V2 _ (by omega) (by omega)]; exact p3
        · simp only
          rw [w5 c hc, V1 c hc]; exact p4 c hc
    · rw [if_neg hcm, if_pos (by decide)]
      simp only [bs]
      refine ⟨_, rfl, rfl, fun y hy B hB => ?_, p3, p4⟩
      by_cases e : y = i
      · subst e
        rw [if_pos (show y < y + 1 by omega)] at hB
        subst hB
        unfold callA
        simp only [hcm, Bool.false_and, Bool.false_eq_true, if_false]
        exact ⟨r1, r2, r3, r4, r5, r6⟩
      · refine p2 y hy B ?_
        rw [hB]
        by_cases e2 : y < i
        · rw [if_pos e2, if_pos (by omega)]
        · rw [if_neg e2, if_neg (by omega)]) (fun st hP => by
    obtain ⟨v, U⟩ := st
    obtain ⟨p1, p2, p3, p4⟩ := hP
    simp only at p1 p2 p3 p4
    subst p1
    unfold f157_doCall_b1
    simp only
    have q8 : U.1 94 8 = nI n := by rw [p4 94 (by decide)]; exact hM.1
    rw [q8, if_pos (nI_le (by omega) (by omega))]
    exact ⟨_, rfl, fun y hy B hB => p2 y hy B (by rw [hB, if_pos hy]), p3, p4⟩) ((0:Int32), (pv_up T.1 105 (70 + b) (nI (A.2.2.2.2.1 b + 1)), T.2)) ⟨nI_0.symm, fun y hy B hB => by
      rw [if_neg (by omega)] at hB
      subst hB
      obtain ⟨r1, r2, r3, r4, r5, r6⟩ := hM.2.2.1 y hy
      have h6 := (hF.2 y hy).2.1.1
      simp only [Nat.zero_add] at r1 r2 r3 r4 r5 r6
      show (∀ i, i < (A.1 y).length → pv_up T.1 105 (70 + b) _ 105 (6 * y + i) = _) ∧ pv_up T.1 105 (70 + b) _ 105 (42 + y) = _ ∧ pv_up T.1 105 (70 + b) _ 105 (49 + y) = _ ∧ pv_up T.1 105 (70 + b) _ 105 (56 + y) = _ ∧ pv_up T.1 105 (70 + b) _ 105 (63 + y) = _ ∧ pv_up T.1 105 (70 + b) _ 105 (70 + y) = _
      refine ⟨fun j hj => ?_, ?_, ?_, ?_, ?_, ?_⟩
      · rw [up_nj (by omega)]; exact r1 j hj
      · rw [up_nj (by omega)]; exact r2
      · rw [up_nj (by omega)]; exact r3
      · rw [up_nj (by omega)]; exact r4
      · rw [up_nj (by omega)]; exact r5
      · unfold callA
        simp only
        by_cases e : y = b
        · subst e
          rw [up_at, if_pos rfl]
        · rw [up_nj (by omega), if_neg e]
          exact r6, by
      show pv_up T.1 105 (70 + b) _ 105 77 = _
      rw [up_nj (by omega)]
      exact hM.2.2.2, fun c hc => by
      show pv_up T.1 105 (70 + b) _ c = _
      rw [up_ne hc]⟩
  rw [h1]
  obtain ⟨v, U⟩ := e
  obtain ⟨q2, q3, q4⟩ := h2
  simp only at q2 q3 q4
  refine ⟨U, rfl, ⟨by rw [q4 94 (by decide)]; exact hM.1, fun y hy => by rw [q4 101 (by decide)]; exact hM.2.1 y hy, fun y hy => ?_, q3⟩, q4⟩
  simp only [Nat.zero_add]
  exact q2 y hy _ rfl
theorem note_ok {T : pv_T} {k : Nat} (hk : k < 60) (h : T.1 94 18 = nI k) : ∃ T', f158_note T = some T' ∧ T'.1 94 18 = nI (k + 1) ∧ (∀ j, j ≠ 18 → T'.1 94 j = T.1 94 j) ∧ (∀ i, i < 78 → T'.1 106 (78 * k + i) = T.1 105 i) ∧ (∀ j, j < 78 * k → T'.1 106 j = T.1 106 j) ∧ ∀ c, c ≠ 94 → c ≠ 106 → T'.1 c = T.1 c := by
  unfold f158_note
  obtain ⟨T', h1, h2, h3, h4⟩ := copy_loop (B := f158_note_b1) (T := T) (a := 105) (b := 106) (p := 0) (q := 78 * k) (z := 78) (by omega) (by decide) (fun i U hi hU => by
    unfold f158_note_b1
    simp only
    rw [if_neg (show ¬ (78:Int32) ≤ nI i from nI_ge (b := 78) hi (by omega)), rd_nI (by omega)]
    simp only [bs]
    rw [hU 94 (by decide), h, show (78:Int32) = nI 78 from by decide, pk_mul, nI_add, wm_nI (by omega), nI_1]
    simp only [bs, Nat.zero_add]) (fun U => by
    unfold f158_note_b1
    simp only
    rw [if_pos (by decide)])
  rw [h1]
  simp only [bs, pv_pm]
  refine ⟨_, rfl, ?_, fun j hj => ?_, fun i hi => ?_, fun j hj => ?_, fun c c1 c2 => ?_⟩
  · rw [upTa, h3 94 (by decide), h, nI_1]
  · rw [upTj hj, h3 94 (by decide)]
  · rw [upT (by decide), h2 i hi, Nat.zero_add]
  · rw [upT (by decide), h4 j (Or.inl hj)]
  · rw [upT c1, h3 c c2]
