/-! places of rows and texts -/
theorem asked_no {x : Int32} (T : pv_T) (h : x < 0 ∨ nI 6 ≤ x) : f121_askedRow x T = some (-1, T) := by
  unfold f121_askedRow
  rw [(noRow h).2]
  rfl
theorem asked_miss {T : pv_T} {r : Nat} (hr : r < 6) (h : T.1 96 r = -9) : f121_askedRow (nI r) T = some (-3, fndM T 1) := by
  unfold f121_askedRow
  rw [isRowM_in hr, Option.bind_some, if_neg (by decide), rd_nI hr, h, Option.bind_some, if_neg (by decide), meet_ok 1 (by omega)]
  rfl
theorem asked_there {T : pv_T} {r n : Nat} (hr : r < 6) (hn : n < 2 ^ 31) (h : T.1 96 r = nI n) : f121_askedRow (nI r) T = some (0, T) := by
  unfold f121_askedRow
  rw [isRowM_in hr, Option.bind_some, if_neg (by decide), rd_nI hr, h, Option.bind_some, if_pos (nI_pos' hn)]
  rfl
theorem askedT_no {x : Int32} (T : pv_T) (h : x < 0 ∨ nI 4 ≤ x) : f122_askedText x T = some (-1, T) := by
  unfold f122_askedText
  rw [(noText h).2]
  rfl
theorem askedT_miss {T : pv_T} {r : Nat} (hr : r < 4) (h : T.1 99 r = -9) : f122_askedText (nI r) T = some (-3, fndM T 1) := by
  unfold f122_askedText
  rw [isTextM_in hr, Option.bind_some, if_neg (by decide), rd_nI hr, h, Option.bind_some, if_neg (by decide), meet_ok 1 (by omega)]
  rfl
theorem askedT_there {T : pv_T} {r n : Nat} (hr : r < 4) (hn : n < 2 ^ 31) (h : T.1 99 r = nI n) : f122_askedText (nI r) T = some (0, T) := by
  unfold f122_askedText
  rw [isTextM_in hr, Option.bind_some, if_neg (by decide), rd_nI hr, h, Option.bind_some, if_pos (nI_pos' hn)]
  rfl
theorem in_len {i n : Nat} (h : i < n) (hn : n < 2 ^ 31) : f114_in (nI i) 0 (nI n - 1) = some 1 := by
  obtain ⟨m, rfl⟩ : ∃ m, n = m + 1 := ⟨n - 1, by omega⟩
  rw [nI_pred, inM_in (by omega) (by omega)]
theorem out_len {x : Int32} {n : Nat} (hn : n < 2 ^ 31) (h : x < 0 ∨ nI n ≤ x) : f114_in x 0 (nI n - 1) = some 0 := by
  rw [in_eq]
  rcases h with h | h
  · rw [if_pos h]
  · obtain ⟨h1, h2, h3, h4⟩ := cmp_big h hn
    rw [if_neg h1]
    cases n with
    | zero =>
      have : nI 0 - 1 < x := by
        have e : nI 0 - 1 = (-1 : Int32) := by decide
        rw [e, Int32.lt_iff_toInt_lt]
        rw [Int32.le_iff_toInt_le, Int32.toInt_zero] at h2
        have : (-1 : Int32).toInt = -1 := by decide
        omega
      rw [if_pos this]
    | succ m => rw [nI_pred, if_pos (h3 m (by omega)).2]
theorem hasC_in {s : pv_F} {c i n : Nat} (hz : s c 2 = nI n) (h : i < n) (hn : n < 2 ^ 31) : f27_has c (nI i) s = some 1 := by
  unfold f27_has
  rw [if_neg (nI_pos (by omega)), hz, if_neg (nI_ge h hn), Option.bind_some, pv_bl1]
  rfl
theorem hasC_out {s : pv_F} {c n : Nat} {x : Int32} (hz : s c 2 = nI n) (h : x < 0 ∨ nI n ≤ x) : f27_has c x s = some 0 := by
  unfold f27_has
  rw [hz]
  rcases h with h | h
  · rw [if_pos h, Option.bind_some, pv_bl0]; rfl
  · by_cases h0 : x < 0
    · rw [if_pos h0, Option.bind_some, pv_bl0]; rfl
    · rw [if_neg h0, if_pos h, Option.bind_some, pv_bl0]; rfl
theorem place_miss {s : pv_F} {c : Nat} {x : Int32} (h : s c 1 = 0) : f105_placeFinding c x s = some 1 := by
  unfold f105_placeFinding
  rw [if_pos h]
theorem place_in {s : pv_F} {c i n : Nat} (ht : s c 1 = 1) (hz : s c 2 = nI n) (h : i < n) (hn : n < 2 ^ 31) : f105_placeFinding c (nI i) s = some 0 := by
  unfold f105_placeFinding
  rw [if_neg (by rw [ht]; decide), hasC_in hz h hn, Option.bind_some, if_neg (by decide)]
  rfl
theorem place_out {s : pv_F} {c n : Nat} {x : Int32} (ht : s c 1 = 1) (hz : s c 2 = nI n) (h : x < 0 ∨ nI n ≤ x) : f105_placeFinding c x s = some 2 := by
  unfold f105_placeFinding
  rw [if_neg (by rw [ht]; decide), hasC_out hz h, Option.bind_some, if_pos rfl]
  rfl
theorem at_no {x b : Int32} (T : pv_T) (h : x < 0 ∨ nI 6 ≤ x) : f126_at x b T = some (-1, T) := by
  unfold f126_at
  rw [asked_no T h, Option.bind_some]
  rfl
theorem at_miss {T : pv_T} {r : Nat} {b : Int32} (hr : r < 6) (h : T.1 96 r = -9) : f126_at (nI r) b T = some (-3, fndM T 1) := by
  unfold f126_at
  rw [asked_miss hr h, Option.bind_some]
  rfl
theorem at_out {T : pv_T} {r n : Nat} {b : Int32} (hr : r < 6) (hn : n ≤ 40) (h : T.1 96 r = nI n) (hb : b < 0 ∨ nI n ≤ b) : f126_at (nI r) b T = some (-3, fndM T 2) := by
  unfold f126_at
  rw [asked_there hr (by omega) h, Option.bind_some]
  dsimp only
  rw [if_pos (by decide), rd_nI hr, h, Option.bind_some, out_len (by omega) hb, Option.bind_some, if_pos rfl, meet_ok 2 (by omega)]
  rfl
theorem at_in {T : pv_T} {r n i : Nat} (hr : r < 6) (hn : n ≤ 40) (h : T.1 96 r = nI n) (hi : i < n) : f126_at (nI r) (nI i) T = some (1, (pv_up T.1 94 2 (T.1 97 (40 * r + i)), T.2)) := by
  unfold f126_at
  rw [asked_there hr (by omega) h, Option.bind_some]
  dsimp only
  rw [if_pos (by decide), rd_nI hr, h, Option.bind_some, in_len hi (by omega), Option.bind_some, if_neg (by decide)]
  unfold f123_rowAt f116_ask
  rw [ix40, rd_nI (by omega)]
  rfl
theorem op2 : OP2 Inv := by
  intro a b s T h
  rcases pk_ix a (n := 6) (by omega) with ha | ha | ⟨r, hr, rfl⟩
  · exact ⟨-1, s, T, by unfold f56_at; rw [(noRow (Or.inl ha)).1]; rfl, at_no T (Or.inl ha), h⟩
  · exact ⟨-1, s, T, by unfold f56_at; rw [(noRow (Or.inr ha)).1]; rfl, at_no T (Or.inr ha), h⟩
  · unfold f56_at
    rw [isRowC_in hr, Option.bind_some, if_neg (by decide), ra_r hr, Option.bind_some]
    rcases h.2.1 r hr with ⟨m1, m2⟩ | ⟨m1, n, m2, m3, m4, m5⟩
    · refine ⟨-3, fndC s 1, fndM T 1, ?_, at_miss hr m2, h.fnd (by omega) (by omega)⟩
      rw [place_miss m1, Option.bind_some, if_neg (by decide), find_ok 1 (by omega)]
      rfl
    · rcases pk_ix b (n := n) (by omega) with hb | hb | ⟨i, hi, rfl⟩
      · refine ⟨-3, fndC s 2, fndM T 2, ?_, at_out hr m2 m4 (Or.inl hb), h.fnd (by omega) (by omega)⟩
        rw [place_out m1 m3 (Or.inl hb), Option.bind_some, if_neg (by decide), find_ok 2 (by omega)]
        rfl
      · refine ⟨-3, fndC s 2, fndM T 2, ?_, at_out hr m2 m4 (Or.inr hb), h.fnd (by omega) (by omega)⟩
        rw [place_out m1 m3 (Or.inr hb), Option.bind_some, if_neg (by decide), find_ok 2 (by omega)]
        rfl
      · refine ⟨1, pv_up s 0 8 (s (75 + 2 * r) i), _, ?_, at_in hr m2 m4 hi, ?_⟩
        · rw [place_in m1 m3 hi (by omega), Option.bind_some, if_pos rfl, Option.bind_some, an_r hr, show 74 + 2 * r + 1 = 75 + 2 * r by omega, rd_nI (by omega)]
          rfl
        · rw [m5 i hi]
          exact h.tell _
/-- place i of row r is put on both sides -/
theorem Inv.setrow {s : pv_F} {T : pv_T} (h : Inv s T) {r n i : Nat} {v : Int32} (hr : r < 6) (hn : n ≤ 40) (m1 : s (74 + 2 * r) 1 = 1) (m3 : s (74 + 2 * r) 2 = nI n) (m4 : T.1 96 r = nI n) (m5 : ∀ i, i < n → s (75 + 2 * r) i = T.1 97 (40 * r + i)) (hi : i < n) : Inv (pv_up s (75 + 2 * r) i v) (pv_up T.1 97 (40 * r + i) v, T.2) := by
  obtain ⟨i1, i2, i3, i4⟩ := h
  refine ⟨i1.frame (up_ne (by omega)) (up_ne (by omega)) (upT (by decide)) (upT (by decide)), i2.set hr ?_ (fun a h1 h2 h3 h4 => up_ne h4) (fun q _ hq => by rw [upT (by decide)]) (fun q j hq1 hq hj => upTj (by omega)), i3.frame (fun a h1 h2 => up_ne (by omega)) (upT (by decide)) (upT (by decide)), i4.frame (fun a h1 h2 => up_ne (by omega)) (fun a h => upT (by omega)) (by rw [upT (by decide)]) (by rw [upT (by decide)])⟩
  refine Or.inr ⟨?_, n, hn, ?_, ?_, fun j hj => ?_⟩
  · rw [up_ne (by omega)]; exact m1
  · rw [up_ne (by omega)]; exact m3
  · rw [upT (by decide)]; exact m4
  · show pv_up s (75 + 2 * r) i v (75 + 2 * r) j = pv_up T.1 97 (40 * r + i) v 97 (40 * r + j)
    by_cases hji : j = i
    · subst hji; rw [up_at, up_at]
    · rw [up_nj hji, up_nj (by omega)]; exact m5 j hj
theorem op1 : OP1 Inv := by
  intro a b v s T h
  rcases pk_ix a (n := 6) (by omega) with ha | ha | ⟨r, hr, rfl⟩
  · exact ⟨-1, s, T, by unfold f55_lay; rw [(noRow (Or.inl ha)).1]; rfl, by unfold f127_lay; rw [at_no T (Or.inl ha)]; rfl, h⟩
  · exact ⟨-1, s, T, by unfold f55_lay; rw [(noRow (Or.inr ha)).1]; rfl, by unfold f127_lay; rw [at_no T (Or.inr ha)]; rfl, h⟩
  · unfold f55_lay f127_lay
    rw [isRowC_in hr, Option.bind_some, if_neg (by decide), ra_r hr, Option.bind_some]
    rcases h.2.1 r hr with ⟨m1, m2⟩ | ⟨m1, n, m2, m3, m4, m5⟩
    · refine ⟨-3, fndC s 1, fndM T 1, ?_, by rw [at_miss hr m2]; rfl, h.fnd (by omega) (by omega)⟩
      rw [place_miss m1, Option.bind_some, if_neg (by decide), find_ok 1 (by omega)]
      rfl
    · rcases pk_ix b (n := n) (by omega) with hb | hb | ⟨i, hi, rfl⟩
      · refine ⟨-3, fndC s 2, fndM T 2, ?_, by rw [at_out hr m2 m4 (Or.inl hb)]; rfl, h.fnd (by omega) (by omega)⟩
        rw [place_out m1 m3 (Or.inl hb), Option.bind_some, if_neg (by decide), find_ok 2 (by omega)]
        rfl
      · refine ⟨-3, fndC s 2, fndM T 2, ?_, by rw [at_out hr m2 m4 (Or.inr hb)]; rfl, h.fnd (by omega) (by omega)⟩
        rw [place_out m1 m3 (Or.inr hb), Option.bind_some, if_neg (by decide), find_ok 2 (by omega)]
        rfl
      · have h2 := h.tell (s (75 + 2 * r) i)
        have h3 := h2.setrow (v := v) hr m2 (by rw [up_ne (by omega)]; exact m1) (by rw [up_ne (by omega)]; exact m3) (by rw [upT (by decide)]; exact m4) (fun j hj => by rw [up_ne (by omega), upT (by decide)]; exact m5 j hj) hi
        refine ⟨1, _, _, ?_, ?_, h3⟩
        · rw [place_in m1 m3 hi (by omega), Option.bind_some, if_pos rfl, Option.bind_some, an_r hr, show 74 + 2 * r + 1 = 75 + 2 * r by omega, rd_nI (by omega)]
          simp only [Option.bind_some, pv_pf]
          rw [an_r hr, show 74 + 2 * r + 1 = 75 + 2 * r by omega, wr_nI (show i < 40 by omega)]
          rfl
        · rw [at_in hr m2 m4 hi, Option.bind_some]
          dsimp only
          rw [if_pos (by decide)]
          unfold f124_setRow
          rw [ix40, wm_nI (by omega), m5 i hi]
          rfl
theorem op3 : OP3 Inv := by
  intro a s T h
  rcases pk_ix a (n := 6) (by omega) with ha | ha | ⟨r, hr, rfl⟩
  · exact ⟨-1, s, T, by unfold f57_tear; rw [(noRow (Or.inl ha)).1]; rfl, by unfold f128_tear; rw [asked_no T (Or.inl ha)]; rfl, h⟩
  · exact ⟨-1, s, T, by unfold f57_tear; rw [(noRow (Or.inr ha)).1]; rfl, by unfold f128_tear; rw [asked_no T (Or.inr ha)]; rfl, h⟩
  · unfold f57_tear f128_tear
    rw [isRowC_in hr, Option.bind_some, if_neg (by decide), ra_r hr, Option.bind_some]
    rcases h.2.1 r hr with ⟨m1, m2⟩ | ⟨m1, n, m2, m3, m4, m5⟩
    · refine ⟨-3, fndC s 1, fndM T 1, ?_, by rw [asked_miss hr m2]; rfl, h.fnd (by omega) (by omega)⟩
      rw [if_pos m1, find_ok 1 (by omega)]
      rfl
    · refine ⟨1, pv_up s (74 + 2 * r) 1 0, (pv_up T.1 96 r (-9), T.2), ?_, ?_, ?_⟩
      · rw [if_neg (by rw [m1]; decide)]
        rfl
      · rw [asked_there hr (by omega) m4, Option.bind_some]
        dsimp only
        rw [if_pos (by decide), wm_nI hr]
        rfl
      · obtain ⟨i1, i2, i3, i4⟩ := h
        refine ⟨i1.frame (up_ne (by omega)) (up_ne (by omega)) (upT (by decide)) (upT (by decide)), i2.set hr (Or.inl ⟨up_at _ _ _ _, upTa⟩) (fun a h1 h2 h3 h4 => up_ne h3) (fun q _ hq => upTj hq) (fun q j hq1 hq hj => by rw [upT (by decide)]), i3.frame (fun a h1 h2 => up_ne (by omega)) (upT (by decide)) (upT (by decide)), i4.frame (fun a h1 h2 => up_ne (by omega)) (fun a h => upT (by omega)) (by rw [upT (by decide)]) (by rw [upT (by decide)])⟩
