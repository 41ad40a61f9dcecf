/-! rows and texts -/
theorem upTa {T : pv_T} {a j : Nat} {x : Int32} {y : Int64} : ((pv_up T.1 a j x, y) : pv_T).1 a j = x := up_at _ _ _ _
theorem ra_r {r : Nat} (h : r < 6) : pv_ra 1 6 (nI r) = some (74 + 2 * r) := by
  unfold pv_ra
  rw [if_pos (in_nI h), nI_clamp (by omega)]
  match r, h with
  | 0, _ => rfl
  | 1, _ => rfl
  | 2, _ => rfl
  | 3, _ => rfl
  | 4, _ => rfl
  | 5, _ => rfl
theorem ra_t {r : Nat} (h : r < 4) : pv_ra 2 4 (nI r) = some (86 + 2 * r) := by
  unfold pv_ra
  rw [if_pos (in_nI h), nI_clamp (by omega)]
  match r, h with
  | 0, _ => rfl
  | 1, _ => rfl
  | 2, _ => rfl
  | 3, _ => rfl
theorem an_r {r : Nat} (h : r < 6) : pv_an (74 + 2 * r + 1) = 40 := by
  match r, h with
  | 0, _ => rfl
  | 1, _ => rfl
  | 2, _ => rfl
  | 3, _ => rfl
  | 4, _ => rfl
  | 5, _ => rfl
theorem an_t {r : Nat} (h : r < 4) : pv_an (86 + 2 * r + 1) = 80 := by
  match r, h with
  | 0, _ => rfl
  | 1, _ => rfl
  | 2, _ => rfl
  | 3, _ => rfl
theorem ix40 (r k : Nat) : (40:Int32) * nI r + nI k = nI (40 * r + k) := by rw [show (40:Int32) = nI 40 from by decide, pk_mul, nI_add]
theorem ix80 (r k : Nat) : (80:Int32) * nI r + nI k = nI (80 * r + k) := by rw [show (80:Int32) = nI 80 from by decide, pk_mul, nI_add]
theorem renew_ok {s : pv_F} {c N n : Nat} {v : Int32} (hN : pv_an (c + 1) = N) (hn : n ≤ N) (hb : N ≤ 1000) : ∃ s', f26_renew c (nI n) v s = some s' ∧ s' c 1 = 1 ∧ s' c 2 = nI n ∧ (∀ i, i < n → s' (c + 1) i = v) ∧ ∀ a, a ≠ c → a ≠ c + 1 → s' a = s a := by
  unfold f26_renew
  simp only [pv_pf, Option.bind_some]
  generalize hs3 : pv_up (pv_up s c 1 1) c 2 (nI n) = s3
  have h31 : s3 c 1 = 1 := by rw [← hs3, up_nj (by decide), up_at]
  have h32 : s3 c 2 = nI n := by rw [← hs3, up_at]
  have h3o : ∀ a, a ≠ c → s3 a = s a := fun a ha => by rw [← hs3, up_ne ha, up_ne ha]
  obtain ⟨⟨w, s9⟩, he, hq1, hq2, hq3⟩ := lq_inv (B := f26_renew_b1 c (nI n) v) (fun i st => st.1 = nI i ∧ (∀ j, j < i → st.2 (c + 1) j = v) ∧ ∀ a, a ≠ c + 1 → st.2 a = s3 a) (fun e => True ∧ (∀ j, j < n → e.2 (c + 1) j = v) ∧ ∀ a, a ≠ c + 1 → e.2 a = s3 a) n (by
    rintro i ⟨w, s⟩ hi ⟨rfl, h2, h3⟩
    dsimp only at h2 h3
    refine ⟨(nI (i + 1), pv_up s (c + 1) i v), ?_, rfl, fun j hj => ?_, fun a ha => ?_⟩
    · unfold f26_renew_b1
      dsimp only
      rw [if_neg (nI_ge hi (by omega)), hN, wr_nI (by omega), Option.bind_some, nI_1]
    · by_cases hji : j = i
      · subst hji; exact up_at _ _ _ _
      · show pv_up s (c + 1) i v (c + 1) j = v
        rw [up_nj hji]; exact h2 j (by omega)
    · show pv_up s (c + 1) i v a = s3 a
      rw [up_ne ha]; exact h3 a ha) (by
    rintro ⟨w, s⟩ ⟨rfl, h2, h3⟩
    exact ⟨(nI n, s), by unfold f26_renew_b1; dsimp only; rw [if_pos (nI_le (Nat.le_refl _) (by omega))], trivial, h2, h3⟩) ((0:Int32), s3) ⟨rfl, fun j hj => absurd hj (Nat.not_lt_zero j), fun a _ => rfl⟩
  dsimp only at hq2 hq3
  refine ⟨s9, by rw [he]; rfl, ?_, ?_, hq2, fun a h1 h2 => ?_⟩
  · rw [hq3 c (by omega)]; exact h31
  · rw [hq3 c (by omega)]; exact h32
  · rw [hq3 a h2]; exact h3o a h1
theorem RowRel.congr {m : Nat} {th sz szM th' sz' szM' : Int32} {pl ct pl' ct' : Nat → Int32} (h : RowRel m th sz pl szM ct) (h1 : th' = th) (h2 : sz' = sz) (h3 : szM' = szM) (h4 : ∀ i, i < m → pl' i = pl i) (h5 : ∀ i, i < m → ct' i = ct i) : RowRel m th' sz' pl' szM' ct' := by
  subst h1 h2 h3
  rcases h with h | ⟨a, n, b, c, d, e⟩
  · exact Or.inl h
  · exact Or.inr ⟨a, n, b, c, d, fun i hi => by rw [h4 i (by omega), h5 i (by omega)]; exact e i hi⟩
theorem IRows.set {s s' : pv_F} {T T' : pv_T} (h : IRows s T) {r : Nat} (hr : r < 6) (hrel : RowRel 40 (s' (74 + 2 * r) 1) (s' (74 + 2 * r) 2) (s' (75 + 2 * r)) (T'.1 96 r) (fun i => T'.1 97 (40 * r + i))) (hs : ∀ a, 74 ≤ a → a ≤ 85 → a ≠ 74 + 2 * r → a ≠ 75 + 2 * r → s' a = s a) (h1 : ∀ q, q < 6 → q ≠ r → T'.1 96 q = T.1 96 q) (h2 : ∀ q i, q < 6 → q ≠ r → i < 40 → T'.1 97 (40 * q + i) = T.1 97 (40 * q + i)) : IRows s' T' := by
  intro q hq
  by_cases hqr : q = r
  · subst hqr; exact hrel
  · have e1 := hs (74 + 2 * q) (by omega) (by omega) (by omega) (by omega)
    have e2 := hs (75 + 2 * q) (by omega) (by omega) (by omega) (by omega)
    exact (h q hq).congr (by rw [e1]) (by rw [e1]) (h1 q hq hqr) (fun i _ => by rw [e2]) (fun i hi => h2 q i hq hqr hi)
theorem ITexts.set {s s' : pv_F} {T T' : pv_T} (h : ITexts s T) {r : Nat} (hr : r < 4) (hrel : RowRel 80 (s' (86 + 2 * r) 1) (s' (86 + 2 * r) 2) (s' (87 + 2 * r)) (T'.1 99 r) (fun i => T'.1 100 (80 * r + i))) (hs : ∀ a, 86 ≤ a → a ≤ 93 → a ≠ 86 + 2 * r → a ≠ 87 + 2 * r → s' a = s a) (h1 : ∀ q, q < 4 → q ≠ r → T'.1 99 q = T.1 99 q) (h2 : ∀ q i, q < 4 → q ≠ r → i < 80 → T'.1 100 (80 * q + i) = T.1 100 (80 * q + i)) : ITexts s' T' := by
  intro q hq
  by_cases hqr : q = r
  · subst hqr; exact hrel
  · have e1 := hs (86 + 2 * q) (by omega) (by omega) (by omega) (by omega)
    have e2 := hs (87 + 2 * q) (by omega) (by omega) (by omega) (by omega)
    exact (h q hq).congr (by rw [e1]) (by rw [e1]) (h1 q hq hqr) (fun i _ => by rw [e2]) (fun i hi => h2 q i hq hqr hi)
theorem IMisc.frame {s s' : pv_F} {T T' : pv_T} (h : IMisc s T) (h0 : s' 0 = s 0) (h73 : s' 73 = s 73) (h94 : T'.1 94 = T.1 94) (h95 : T'.1 95 = T.1 95) : IMisc s' T' := by
  unfold IMisc
  rw [h0, h73, h94, h95]
  exact h
theorem rowM_ok {T : pv_T} {r n : Nat} (hr : r < 6) (hn : n ≤ 40) : ∃ T', f125_row (nI r) (nI n) T = some (nI n, T') ∧ T'.1 96 r = nI n ∧ (∀ q, q ≠ r → T'.1 96 q = T.1 96 q) ∧ (∀ i, i < 40 → T'.1 97 (40 * r + i) = 0) ∧ (∀ q i, q ≠ r → i < 40 → T'.1 97 (40 * q + i) = T.1 97 (40 * q + i)) ∧ (∀ a, a ≠ 96 → a ≠ 97 → T'.1 a = T.1 a) ∧ T'.2 = T.2 := by
  unfold f125_row
  rw [isRowM_in hr]
  simp only [Option.bind_some]
  rw [if_neg (by decide), if_pos (show nI n ≤ (40:Int32) from nI_le (b := 40) hn (by omega)), if_pos (nI_pos' (by omega)), wm_nI hr, Option.bind_some]
  generalize hT6 : ((pv_up T.1 96 r (nI n), T.2) : pv_T) = T6
  have e96 : T6.1 96 r = nI n := by rw [← hT6]; exact upTa
  have e96o : ∀ q, q ≠ r → T6.1 96 q = T.1 96 q := fun q hq => by rw [← hT6]; exact upTj hq
  have eo : ∀ a, a ≠ 96 → T6.1 a = T.1 a := fun a ha => by rw [← hT6]; exact upT ha
  have e2 : T6.2 = T.2 := by rw [← hT6]
  obtain ⟨⟨w, T9⟩, he, -, q2, q3, q4, q5⟩ := lq_inv (B := f125_row_b1 (nI r) (nI n)) (fun i st => st.1 = nI i ∧ (∀ j, j < i → st.2.1 97 (40 * r + j) = 0) ∧ (∀ j, (j < 40 * r ∨ 40 * r + 40 ≤ j) → st.2.1 97 j = T6.1 97 j) ∧ (∀ a, a ≠ 97 → st.2.1 a = T6.1 a) ∧ st.2.2 = T6.2) (fun e => True ∧ (∀ j, j < 40 → e.2.1 97 (40 * r + j) = 0) ∧ (∀ j, (j < 40 * r ∨ 40 * r + 40 ≤ j) → e.2.1 97 j = T6.1 97 j) ∧ (∀ a, a ≠ 97 → e.2.1 a = T6.1 a) ∧ e.2.2 = T6.2) 40 (by
    rintro i ⟨w, T⟩ hi ⟨rfl, h2, h3, h4, h5⟩
    dsimp only at h2 h3 h4 h5
    refine ⟨(nI (i + 1), (pv_up T.1 97 (40 * r + i) 0, T.2)), ?_, rfl, fun j hj => ?_, fun j hj => ?_, fun a ha => ?_, h5⟩
    · unfold f125_row_b1
      dsimp only
      rw [if_neg (show ¬ (40:Int32) ≤ nI i from nI_ge (b := 40) hi (by omega))]
      unfold f124_setRow
      rw [ix40, wm_nI (by omega), Option.bind_some, Option.bind_some, nI_1]
    · show pv_up T.1 97 (40 * r + i) 0 97 (40 * r + j) = 0
      by_cases hji : j = i
      · subst hji; exact up_at _ _ _ _
      · rw [up_nj (by omega)]; exact h2 j (by omega)
    · show pv_up T.1 97 (40 * r + i) 0 97 j = _
      rw [up_nj (by omega)]; exact h3 j hj
    · show pv_up T.1 97 (40 * r + i) 0 a = _
      rw [up_ne ha]; exact h4 a ha) (by
    rintro ⟨w, T⟩ ⟨rfl, h2, h3, h4, h5⟩
    exact ⟨(nI 40, T), by unfold f125_row_b1; dsimp only; rw [if_pos (show (40:Int32) ≤ nI 40 from by decide)], trivial, h2, h3, h4, h5⟩) ((0:Int32), T6) ⟨rfl, fun j hj => absurd hj (Nat.not_lt_zero j), fun _ _ => rfl, fun _ _ => rfl, rfl⟩
  dsimp only at q2 q3 q4 q5
  refine ⟨T9, by rw [he]; rfl, ?_, fun q hq => ?_, q2, fun q i hq hi => ?_, fun a h1 h2 => ?_, q5.trans e2⟩
  · rw [q4 96 (by decide)]; exact e96
  · rw [q4 96 (by decide)]; exact e96o q hq
  · rw [q3 _ (by omega), eo 97 (by decide)]
  · rw [q4 a h2]; exact eo a h1
theorem op0 : OP0 Inv := by
  intro a b s T h
  rcases pk_ix a (n := 6) (by omega) with ha | ha | ⟨r, hr, rfl⟩
  · obtain ⟨n1, n2⟩ := noRow (Or.inl ha)
    exact ⟨-1, s, T, by unfold f54_row; rw [n1]; rfl, by unfold f125_row; rw [n2]; rfl, h⟩
  · obtain ⟨n1, n2⟩ := noRow (Or.inr ha)
    exact ⟨-1, s, T, by unfold f54_row; rw [n1]; rfl, by unfold f125_row; rw [n2]; rfl, h⟩
  · rcases pk_ix b (n := 41) (by omega) with hb | hb | ⟨n, hn, rfl⟩
    · have h1 : b ≤ (40:Int32) := (cmp_neg hb 40 (by omega)).2.2.1
      have h2 := neg_not_le hb
      refine ⟨-3, fndC s 5, fndM T 5, ?_, ?_, h.fnd (by omega) (by omega)⟩
      · unfold f54_row
        rw [isRowC_in hr, Option.bind_some, if_neg (by decide), if_pos h1, if_neg h2, find_ok 5 (by omega)]
        rfl
      · unfold f125_row
        rw [isRowM_in hr, Option.bind_some, if_neg (by decide), if_pos h1, if_neg h2, meet_ok 5 (by omega)]
        rfl
    · obtain ⟨-, -, h2, -⟩ := cmp_big hb (by omega)
      have h1 : ¬ b ≤ (40:Int32) := (h2 40 (by omega)).1
      refine ⟨-1, s, T, ?_, ?_, h⟩
      · unfold f54_row
        rw [isRowC_in hr, Option.bind_some, if_neg (by decide), if_neg h1]
      · unfold f125_row
        rw [isRowM_in hr, Option.bind_some, if_neg (by decide), if_neg h1]
    · obtain ⟨s', c1, c2, c3, c4, c5⟩ := renew_ok (s := s) (v := 0) (an_r hr) (n := n) (by omega) (by omega)
      obtain ⟨T', d1, d2, d3, d4, d5, d6, d7⟩ := rowM_ok (T := T) hr (n := n) (by omega)
      refine ⟨nI n, s', T', ?_, d1, ?_⟩
      · unfold f54_row
        rw [isRowC_in hr, Option.bind_some, if_neg (by decide), if_pos (show nI n ≤ (40:Int32) from nI_le (b := 40) (by omega) (by omega)), if_pos (nI_pos' (by omega)), ra_r hr, Option.bind_some, c1]
        rfl
      · obtain ⟨i1, i2, i3, i4⟩ := h
        refine ⟨i1.frame (c5 0 (by omega) (by omega)) (c5 73 (by omega) (by omega)) (d6 94 (by omega) (by omega)) (d6 95 (by omega) (by omega)), i2.set hr (Or.inr ⟨c2, n, by omega, c3, d2, fun i hi => ?_⟩) (fun a h1 h2 h3 h4 => c5 a h3 (by omega)) (fun q _ hq => d3 q hq) (fun q i _ hq hi => d5 q i hq hi), i3.frame (fun a h1 h2 => c5 a (by omega) (by omega)) (d6 99 (by omega) (by omega)) (d6 100 (by omega) (by omega)), i4.frame (fun a h1 h2 => c5 a (by omega) (by omega)) (fun a h => d6 a (by omega) (by omega)) (by rw [d6 94 (by omega) (by omega)]) (by rw [d6 94 (by omega) (by omega)])⟩
        show s' (75 + 2 * r) i = T'.1 97 (40 * r + i)
        rw [d4 i (by omega), show 75 + 2 * r = 74 + 2 * r + 1 by omega]
        exact c4 i hi
