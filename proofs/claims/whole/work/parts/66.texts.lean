/-! texts; the mean; copies -/
theorem textM_ok {T : pv_T} {r n : Nat} (hr : r < 4) (hn : n ≤ 80) : ∃ T', f131_text (nI r) (nI n) T = some (nI n, T') ∧ T'.1 99 r = nI n ∧ (∀ q, q ≠ r → T'.1 99 q = T.1 99 q) ∧ (∀ i, i < 80 → T'.1 100 (80 * r + i) = 32) ∧ (∀ q i, q ≠ r → i < 80 → T'.1 100 (80 * q + i) = T.1 100 (80 * q + i)) ∧ (∀ a, a ≠ 99 → a ≠ 100 → T'.1 a = T.1 a) ∧ T'.2 = T.2 := by
  unfold f131_text
  rw [isTextM_in hr]
  simp only [Option.bind_some]
  rw [if_neg (by decide), if_pos (show nI n ≤ (80:Int32) from nI_le (b := 80) hn (by omega)), if_pos (nI_pos' (by omega)), wm_nI hr, Option.bind_some]
  generalize hT6 : ((pv_up T.1 99 r (nI n), T.2) : pv_T) = T6
  have e96 : T6.1 99 r = nI n := by rw [← hT6]; exact upTa
  have e96o : ∀ q, q ≠ r → T6.1 99 q = T.1 99 q := fun q hq => by rw [← hT6]; exact upTj hq
  have eo : ∀ a, a ≠ 99 → T6.1 a = T.1 a := fun a ha => by rw [← hT6]; exact upT ha
  have e2 : T6.2 = T.2 := by rw [← hT6]
  obtain ⟨⟨w, T9⟩, he, -, q2, q3, q4, q5⟩ := lq_inv (B := f131_text_b1 (nI r) (nI n)) (fun i st => st.1 = nI i ∧ (∀ j, j < i → st.2.1 100 (80 * r + j) = 32) ∧ (∀ j, (j < 80 * r ∨ 80 * r + 80 ≤ j) → st.2.1 100 j = T6.1 100 j) ∧ (∀ a, a ≠ 100 → st.2.1 a = T6.1 a) ∧ st.2.2 = T6.2) (fun e => True ∧ (∀ j, j < 80 → e.2.1 100 (80 * r + j) = 32) ∧ (∀ j, (j < 80 * r ∨ 80 * r + 80 ≤ j) → e.2.1 100 j = T6.1 100 j) ∧ (∀ a, a ≠ 100 → e.2.1 a = T6.1 a) ∧ e.2.2 = T6.2) 80 (by
    rintro i ⟨w, T⟩ hi ⟨rfl, h2, h3, h4, h5⟩
    dsimp only at h2 h3 h4 h5
    refine ⟨(nI (i + 1), (pv_up T.1 100 (80 * r + i) 32, T.2)), ?_, rfl, fun j hj => ?_, fun j hj => ?_, fun a ha => ?_, h5⟩
    · unfold f131_text_b1
      dsimp only
      rw [if_neg (show ¬ (80:Int32) ≤ nI i from nI_ge (b := 80) hi (by omega)), ix80, wm_nI (by omega), Option.bind_some, nI_1]
    · show pv_up T.1 100 (80 * r + i) 32 100 (80 * r + j) = 32
      by_cases hji : j = i
      · subst hji; exact up_at _ _ _ _
      · rw [up_nj (by omega)]; exact h2 j (by omega)
    · show pv_up T.1 100 (80 * r + i) 32 100 j = _
      rw [up_nj (by omega)]; exact h3 j hj
    · show pv_up T.1 100 (80 * r + i) 32 a = _
      rw [up_ne ha]; exact h4 a ha) (by
    rintro ⟨w, T⟩ ⟨rfl, h2, h3, h4, h5⟩
    exact ⟨(nI 80, T), by unfold f131_text_b1; dsimp only; rw [if_pos (show (80:Int32) ≤ nI 80 from by decide)], trivial, h2, h3, h4, h5⟩) ((0:Int32), T6) ⟨rfl, fun j hj => absurd hj (Nat.not_lt_zero j), fun _ _ => rfl, fun _ _ => rfl, rfl⟩
  dsimp only at q2 q3 q4 q5
  refine ⟨T9, by rw [he]; rfl, ?_, fun q hq => ?_, q2, fun q i hq hi => ?_, fun a h1 h2 => ?_, q5.trans e2⟩
  · rw [q4 99 (by decide)]; exact e96
  · rw [q4 99 (by decide)]; exact e96o q hq
  · rw [q3 _ (by omega), eo 100 (by decide)]
  · rw [q4 a h2]; exact eo a h1
theorem op6 : OP6 Inv := by
  intro a b s T h
  rcases pk_ix a (n := 4) (by omega) with ha | ha | ⟨r, hr, rfl⟩
  · obtain ⟨n1, n2⟩ := noText (Or.inl ha)
    exact ⟨-1, s, T, by unfold f60_text; rw [n1]; rfl, by unfold f131_text; rw [n2]; rfl, h⟩
  · obtain ⟨n1, n2⟩ := noText (Or.inr ha)
    exact ⟨-1, s, T, by unfold f60_text; rw [n1]; rfl, by unfold f131_text; rw [n2]; rfl, h⟩
  · rcases pk_ix b (n := 81) (by omega) with hb | hb | ⟨n, hn, rfl⟩
    · have h1 : b ≤ (80:Int32) := (cmp_neg hb 80 (by omega)).2.2.1
      have h2 := neg_not_le hb
      refine ⟨-3, fndC s 5, fndM T 5, ?_, ?_, h.fnd (by omega) (by omega)⟩
      · unfold f60_text
        rw [isTextC_in hr, Option.bind_some, if_neg (by decide), if_pos h1, if_neg h2, find_ok 5 (by omega)]
        rfl
      · unfold f131_text
        rw [isTextM_in hr, Option.bind_some, if_neg (by decide), if_pos h1, if_neg h2, meet_ok 5 (by omega)]
        rfl
    · obtain ⟨-, -, h2, -⟩ := cmp_big hb (by omega)
      have h1 : ¬ b ≤ (80:Int32) := (h2 80 (by omega)).1
      refine ⟨-1, s, T, ?_, ?_, h⟩
      · unfold f60_text
        rw [isTextC_in hr, Option.bind_some, if_neg (by decide), if_neg h1]
      · unfold f131_text
        rw [isTextM_in hr, Option.bind_some, if_neg (by decide), if_neg h1]
    · obtain ⟨s', c1, c2, c3, c4, c5⟩ := renew_ok (s := s) (v := 32) (an_t hr) (n := n) (by omega) (by omega)
      obtain ⟨T', d1, d2, d3, d4, d5, d6, d7⟩ := textM_ok (T := T) hr (n := n) (by omega)
      refine ⟨nI n, s', T', ?_, d1, ?_⟩
      · unfold f60_text
        rw [isTextC_in hr, Option.bind_some, if_neg (by decide), if_pos (show nI n ≤ (80:Int32) from nI_le (b := 80) (by omega) (by omega)), if_pos (nI_pos' (by omega)), ra_t hr, Option.bind_some, c1]
        rfl
      · obtain ⟨i1, i2, i3, i4⟩ := h
        refine ⟨i1.frame (c5 0 (by omega) (by omega)) (c5 73 (by omega) (by omega)) (d6 94 (by omega) (by omega)) (d6 95 (by omega) (by omega)), i2.frame (fun a h1 h2 => c5 a (by omega) (by omega)) (d6 96 (by omega) (by omega)) (d6 97 (by omega) (by omega)), i3.set hr (Or.inr ⟨c2, n, by omega, c3, d2, fun i hi => ?_⟩) (fun a h1 h2 h3 h4 => c5 a h3 (by omega)) (fun q _ hq => d3 q hq) (fun q i _ hq hi => d5 q i hq hi), i4.frame (fun a h1 h2 => c5 a (by omega) (by omega)) (fun a h => d6 a (by omega) (by omega)) (by rw [d6 94 (by omega) (by omega)]) (by rw [d6 94 (by omega) (by omega)])⟩
        show s' (87 + 2 * r) i = T'.1 100 (80 * r + i)
        rw [d4 i (by omega), show 87 + 2 * r = 86 + 2 * r + 1 by omega]
        exact c4 i hi
theorem Inv.settext {s : pv_F} {T : pv_T} (h : Inv s T) {r n i : Nat} {v : Int32} (hr : r < 4) (hn : n ≤ 80) (m1 : s (86 + 2 * r) 1 = 1) (m3 : s (86 + 2 * r) 2 = nI n) (m4 : T.1 99 r = nI n) (m5 : ∀ i, i < n → s (87 + 2 * r) i = T.1 100 (80 * r + i)) (hi : i < n) : Inv (pv_up s (87 + 2 * r) i v) (pv_up T.1 100 (80 * r + i) v, T.2) := by
  obtain ⟨i1, i2, i3, i4⟩ := h
  refine ⟨i1.frame (up_ne (by omega)) (up_ne (by omega)) (upT (by decide)) (upT (by decide)), i2.frame (fun a h1 h2 => up_ne (by omega)) (upT (by decide)) (upT (by decide)), i3.set hr ?_ (fun a h1 h2 h3 h4 => up_ne h4) (fun q _ hq => by rw [upT (by decide)]) (fun q j hq1 hq hj => upTj (by omega)), i4.frame (fun a h1 h2 => up_ne (by omega)) (fun a h => upT (by omega)) (by rw [upT (by decide)]) (by rw [upT (by decide)])⟩
  refine Or.inr ⟨?_, n, hn, ?_, ?_, fun j hj => ?_⟩
  · rw [up_ne (by omega)]; exact m1
  · rw [up_ne (by omega)]; exact m3
  · rw [upT (by decide)]; exact m4
  · show pv_up s (87 + 2 * r) i v (87 + 2 * r) j = pv_up T.1 100 (80 * r + i) v 100 (80 * r + j)
    by_cases hji : j = i
    · subst hji; rw [up_at, up_at]
    · rw [up_nj hji, up_nj (by omega)]; exact m5 j hj
theorem op7 : OP7 Inv := by
  intro a b v s T h
  rcases pk_ix a (n := 4) (by omega) with ha | ha | ⟨r, hr, rfl⟩
  · exact ⟨-1, s, T, by unfold f61_put; rw [(noText (Or.inl ha)).1]; rfl, by unfold f132_put; rw [askedT_no T (Or.inl ha)]; rfl, h⟩
  · exact ⟨-1, s, T, by unfold f61_put; rw [(noText (Or.inr ha)).1]; rfl, by unfold f132_put; rw [askedT_no T (Or.inr ha)]; rfl, h⟩
  · unfold f61_put f132_put
    rw [isTextC_in hr, Option.bind_some, if_neg (by decide), ra_t hr, Option.bind_some]
    rcases h.2.2.1 r hr with ⟨m1, m2⟩ | ⟨m1, n, m2, m3, m4, m5⟩
    · refine ⟨-3, fndC s 1, fndM T 1, ?_, by rw [askedT_miss hr m2]; rfl, h.fnd (by omega) (by omega)⟩
      rw [place_miss m1, Option.bind_some, if_neg (by decide), find_ok 1 (by omega)]
      rfl
    · rw [askedT_there hr (by omega) m4]
      simp only [Option.bind_some]
      rw [if_pos (show (0:Int32) ≤ 0 by decide), rd_nI hr, m4, Option.bind_some]
      rcases pk_ix b (n := n) (by omega) with hb | hb | ⟨i, hi, rfl⟩
      · refine ⟨-3, fndC s 2, fndM T 2, ?_, ?_, h.fnd (by omega) (by omega)⟩
        · rw [place_out m1 m3 (Or.inl hb), Option.bind_some, if_neg (by decide), find_ok 2 (by omega)]
          rfl
        · rw [out_len (by omega) (Or.inl hb), Option.bind_some, if_pos rfl, meet_ok 2 (by omega)]
          rfl
      · refine ⟨-3, fndC s 2, fndM T 2, ?_, ?_, h.fnd (by omega) (by omega)⟩
        · rw [place_out m1 m3 (Or.inr hb), Option.bind_some, if_neg (by decide), find_ok 2 (by omega)]
          rfl
        · rw [out_len (by omega) (Or.inr hb), Option.bind_some, if_pos rfl, meet_ok 2 (by omega)]
          rfl
      · refine ⟨1000 + s (87 + 2 * r) i, _, _, ?_, ?_, h.settext (v := v.toInt8.toInt32) hr m2 m1 m3 m4 m5 hi⟩
        · rw [place_in m1 m3 hi (by omega), Option.bind_some, if_pos rfl, an_t hr, show 86 + 2 * r + 1 = 87 + 2 * r by omega, rd_nI (by omega), Option.bind_some, wr_nI (by omega)]
          rfl
        · rw [in_len hi (by omega), Option.bind_some, if_neg (by decide), ix80, rd_nI (by omega), Option.bind_some, wm_nI (by omega), m5 i hi, Int32.add_comm]
          rfl
