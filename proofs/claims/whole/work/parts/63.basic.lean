/-! compares, findings, way, price -/
theorem cmp_big {a : Int32} {n : Nat} (h : nI n ≤ a) (hn : n < 2 ^ 31) : ¬ a < 0 ∧ 0 ≤ a ∧ (∀ m, m < n → ¬ a ≤ nI m ∧ nI m < a) ∧ (∀ m, m ≤ n → nI m ≤ a ∧ ¬ a < nI m) := by
  rw [Int32.le_iff_toInt_le, nI_toInt hn] at h
  refine ⟨?_, ?_, fun m hm => ⟨?_, ?_⟩, fun m hm => ⟨?_, ?_⟩⟩
  · rw [Int32.lt_iff_toInt_lt, Int32.toInt_zero]; omega
  · rw [Int32.le_iff_toInt_le, Int32.toInt_zero]; omega
  · rw [Int32.le_iff_toInt_le, nI_toInt (by omega)]; omega
  · rw [Int32.lt_iff_toInt_lt, nI_toInt (by omega)]; omega
  · rw [Int32.le_iff_toInt_le, nI_toInt (by omega)]; omega
  · rw [Int32.lt_iff_toInt_lt, nI_toInt (by omega)]; omega
theorem cmp_neg {a : Int32} (h : a < 0) (m : Nat) (hm : m < 2 ^ 31) : ¬ nI m ≤ a ∧ a < nI m ∧ a ≤ nI m ∧ ¬ nI m < a := by
  rw [Int32.lt_iff_toInt_lt, Int32.toInt_zero] at h
  refine ⟨?_, ?_, ?_, ?_⟩
  · rw [Int32.le_iff_toInt_le, nI_toInt hm]; omega
  · rw [Int32.lt_iff_toInt_lt, nI_toInt hm]; omega
  · rw [Int32.le_iff_toInt_le, nI_toInt hm]; omega
  · rw [Int32.lt_iff_toInt_lt, nI_toInt hm]; omega
theorem neg_not_le {a : Int32} (h : a < 0) : ¬ 0 ≤ a := by
  rw [Int32.lt_iff_toInt_lt] at h
  rw [Int32.le_iff_toInt_le]
  omega
theorem nle_lt {a b : Int32} (h : ¬ a ≤ b) : b < a := Int32.not_le.mp h
theorem nlt_le {a b : Int32} (h : ¬ a < b) : b ≤ a := Int32.not_lt.mp h
theorem in_eq (x a b : Int32) : f114_in x a b = some (if x < a then 0 else if b < x then 0 else 1) := by
  unfold f114_in
  by_cases h : x < a
  · simp [h, pv_bl0]
  · by_cases h2 : b < x
    · simp [h, h2, pv_bl0]
    · simp [h, h2, pv_bl1]
theorem isRowC (x : Int32) : f99_isRow x = some (if x < 0 then 0 else if 6 ≤ x then 0 else 1) := by
  unfold f99_isRow
  by_cases h : x < 0
  · simp [h, pv_bl0]
  · by_cases h2 : 6 ≤ x
    · simp [h, h2, pv_bl0]
    · simp [h, h2, pv_bl1]
theorem isTextC (x : Int32) : f100_isText x = some (if x < 0 then 0 else if 4 ≤ x then 0 else 1) := by
  unfold f100_isText
  by_cases h : x < 0
  · simp [h, pv_bl0]
  · by_cases h2 : 4 ≤ x
    · simp [h, h2, pv_bl0]
    · simp [h, h2, pv_bl1]
theorem isRowC_in {r : Nat} (h : r < 6) : f99_isRow (nI r) = some 1 := by
  rw [isRowC, if_neg (nI_pos (by omega)), if_neg (show ¬ (6:Int32) ≤ nI r from nI_ge (b := 6) h (by omega))]
theorem isTextC_in {r : Nat} (h : r < 4) : f100_isText (nI r) = some 1 := by
  rw [isTextC, if_neg (nI_pos (by omega)), if_neg (show ¬ (4:Int32) ≤ nI r from nI_ge (b := 4) h (by omega))]
theorem inM_in {r m : Nat} (h : r ≤ m) (hm : m < 2 ^ 31) : f114_in (nI r) 0 (nI m) = some 1 := by
  rw [in_eq, if_neg (nI_pos (by omega)), if_neg (nI_nlt h (by omega))]
theorem isRowM_in {r : Nat} (h : r < 6) : f119_isRow (nI r) = some 1 := by
  unfold f119_isRow
  rw [show (5:Int32) = nI 5 from by decide, inM_in (by omega) (by omega)]
  simp [pv_bl1]
theorem isTextM_in {r : Nat} (h : r < 4) : f120_isText (nI r) = some 1 := by
  unfold f120_isText
  rw [show (3:Int32) = nI 3 from by decide, inM_in (by omega) (by omega)]
  simp [pv_bl1]
/-- a number that is no row -/
theorem noRow {x : Int32} (h : x < 0 ∨ nI 6 ≤ x) : f99_isRow x = some 0 ∧ f119_isRow x = some 0 := by
  unfold f119_isRow
  rw [isRowC, in_eq]
  rcases h with h | h
  · simp [h, pv_bl0]
  · obtain ⟨h1, -, h2, -⟩ := cmp_big h (by omega)
    have h3 : (6:Int32) ≤ x := h
    have h5 : (5:Int32) < x := (h2 5 (by omega)).2
    simp [h1, h3, h5, pv_bl0]
theorem noText {x : Int32} (h : x < 0 ∨ nI 4 ≤ x) : f100_isText x = some 0 ∧ f120_isText x = some 0 := by
  unfold f120_isText
  rw [isTextC, in_eq]
  rcases h with h | h
  · simp [h, pv_bl0]
  · obtain ⟨h1, -, h2, -⟩ := cmp_big h (by omega)
    have h3 : (4:Int32) ≤ x := h
    have h5 : (3:Int32) < x := (h2 3 (by omega)).2
    simp [h1, h3, h5, pv_bl0]
/-! findings -/
def fndC (s : pv_F) (f : Nat) : pv_F := pv_up (pv_up s 0 9 (nI f)) 73 f (s 73 f + 1)
def fndM (T : pv_T) (f : Nat) : pv_T := (pv_up (pv_up T.1 94 0 (nI f)) 95 f (T.1 95 f + 1), T.2)
theorem find_ok {s : pv_F} {x : Int32} (f : Nat) (hf : f < 6) (hx : x = nI f := by rfl) : f104_find x s = some (-3, fndC s f) := by
  subst hx
  unfold f104_find fndC
  simp only [pv_pf, Option.bind_some, rd_nI hf, wr_nI hf]
  rw [up_ne (by decide)]
theorem meet_ok {T : pv_T} {x : Int32} (f : Nat) (hf : f < 6) (hx : x = nI f := by rfl) : f115_meet x T = some (-3, fndM T f) := by
  subst hx
  unfold f115_meet fndM
  simp only [pv_pm, Option.bind_some, rd_nI hf, wm_nI hf]
  rw [up_ne (by decide)]
theorem fndC_o {s : pv_F} {f a : Nat} (h0 : a ≠ 0) (h73 : a ≠ 73) : fndC s f a = s a := by
  unfold fndC
  rw [up_ne h73, up_ne h0]
theorem fndM_o {T : pv_T} {f a : Nat} (h0 : a ≠ 94) (h73 : a ≠ 95) : (fndM T f).1 a = T.1 a := by
  unfold fndM
  show pv_up (pv_up T.1 94 0 (nI f)) 95 f (T.1 95 f + 1) a = T.1 a
  rw [up_ne h73, up_ne h0]
theorem fndC_0 {s : pv_F} {f j : Nat} (h : j ≠ 9) : fndC s f 0 j = s 0 j := by
  unfold fndC
  rw [up_ne (by decide), up_nj h]
theorem fndM_0 {T : pv_T} {f j : Nat} (h : j ≠ 0) : (fndM T f).1 94 j = T.1 94 j := by
  unfold fndM
  show pv_up (pv_up T.1 94 0 (nI f)) 95 f (T.1 95 f + 1) 94 j = T.1 94 j
  rw [up_ne (by decide), up_nj h]
theorem IMisc.fnd {s : pv_F} {T : pv_T} (h : IMisc s T) {f : Nat} (hf1 : 1 ≤ f) (hf : f < 6) : IMisc (fndC s f) (fndM T f) := by
  obtain ⟨a1, a2, a3, a4, a5, a6, a7⟩ := h
  refine ⟨?_, ?_, ?_, ?_, ?_, ?_, fun g g1 g2 => ?_⟩
  · rw [fndC_0 (by decide)]; exact a1
  · rw [fndC_0 (by decide)]; exact a2
  · rw [fndC_0 (by decide), fndM_0 (by decide)]; exact a3
  · rw [fndC_0 (by decide), fndM_0 (by decide)]; exact a4
  · rw [fndC_0 (by decide), fndM_0 (by decide)]; exact a5
  · unfold fndC fndM
    show pv_up (pv_up T.1 94 0 (nI f)) 95 f (T.1 95 f + 1) 94 0 = _
    rw [up_ne (by decide), up_at, up_ne (by decide), up_at]
  · unfold fndC fndM
    show pv_up (pv_up T.1 94 0 (nI f)) 95 f (T.1 95 f + 1) 95 g = _
    by_cases hg : g = f
    · subst hg
      rw [up_at, up_at, a7 g g1 g2]
    · rw [up_nj hg, up_nj hg, up_ne (by decide), up_ne (by decide)]
      exact a7 g g1 g2
theorem Inv.fnd {s : pv_F} {T : pv_T} (h : Inv s T) {f : Nat} (hf1 : 1 ≤ f) (hf : f < 6) : Inv (fndC s f) (fndM T f) := by
  obtain ⟨a, b, c, d⟩ := h
  exact ⟨a.fnd hf1 hf, b.frame (fun a h1 h2 => fndC_o (by omega) (by omega)) (fndM_o (by decide) (by decide)) (fndM_o (by decide) (by decide)), c.frame (fun a h1 h2 => fndC_o (by omega) (by omega)) (fndM_o (by decide) (by decide)) (fndM_o (by decide) (by decide)), d.frame (fun a h1 h2 => fndC_o (by omega) (by omega)) (fun a h => fndM_o (by omega) (by omega)) (fndM_0 (by decide)) (fndM_0 (by decide))⟩
theorem upT {T : pv_T} {a j c : Nat} {x : Int32} {y : Int64} (h : c ≠ a) : ((pv_up T.1 a j x, y) : pv_T).1 c = T.1 c := up_ne h
theorem upTj {T : pv_T} {a j i : Nat} {x : Int32} {y : Int64} (h : i ≠ j) : ((pv_up T.1 a j x, y) : pv_T).1 a i = T.1 a i := up_nj h
/-- an int of the objects themselves is put on both sides -/
theorem Inv.put0 {s : pv_F} {T : pv_T} (h : Inv s T) {j i : Nat} {x : Int32} (hj : (j = 6 ∧ i = 9 ∧ ∃ w, w ≤ 2 ∧ x = nI w) ∨ (j = 7 ∧ i = 10 ∧ ∃ p, p ≤ 99 ∧ x = nI p) ∨ (j = 8 ∧ i = 2)) : Inv (pv_up s 0 j x) (pv_up T.1 94 i x, T.2) := by
  obtain ⟨⟨a1, a2, a3, a4, a5, a6, a7⟩, b, c, d⟩ := h
  have hi8 : i ≠ 8 ∧ i ≠ 18 := by omega
  refine ⟨⟨?_, ?_, ?_, ?_, ?_, ?_, fun g g1 g2 => ?_⟩, b.frame (fun a h1 h2 => up_ne (by omega)) (upT (by decide)) (upT (by decide)), c.frame (fun a h1 h2 => up_ne (by omega)) (upT (by decide)) (upT (by decide)), d.frame (fun a h1 h2 => up_ne (by omega)) (fun a h => upT (by omega)) (upTj (Ne.symm hi8.1)) (upTj (Ne.symm hi8.2))⟩
  · rcases hj with ⟨rfl, -, w, h1, h2⟩ | ⟨rfl, -, -⟩ | ⟨rfl, -⟩
    · rw [up_at]; exact ⟨w, h1, h2⟩
    · rw [up_nj (by decide)]; exact a1
    · rw [up_nj (by decide)]; exact a1
  · rcases hj with ⟨rfl, -, -⟩ | ⟨rfl, -, w, h1, h2⟩ | ⟨rfl, -⟩
    · rw [up_nj (by decide)]; exact a2
    · rw [up_at]; exact ⟨w, h1, h2⟩
    · rw [up_nj (by decide)]; exact a2
  · rcases hj with ⟨rfl, rfl, -⟩ | ⟨rfl, rfl, -⟩ | ⟨rfl, rfl⟩
    · show pv_up T.1 94 9 x 94 9 = _
      rw [up_at, up_at]
    · show pv_up T.1 94 10 x 94 9 = _
      rw [up_nj (by decide), up_nj (by decide)]; exact a3
    · show pv_up T.1 94 2 x 94 9 = _
      rw [up_nj (by decide), up_nj (by decide)]; exact a3
  · rcases hj with ⟨rfl, rfl, -⟩ | ⟨rfl, rfl, -⟩ | ⟨rfl, rfl⟩
    · show pv_up T.1 94 9 x 94 10 = _
      rw [up_nj (by decide), up_nj (by decide)]; exact a4
    · show pv_up T.1 94 10 x 94 10 = _
      rw [up_at, up_at]
    · show pv_up T.1 94 2 x 94 10 = _
      rw [up_nj (by decide), up_nj (by decide)]; exact a4
  · rcases hj with ⟨rfl, rfl, -⟩ | ⟨rfl, rfl, -⟩ | ⟨rfl, rfl⟩
    · show pv_up T.1 94 9 x 94 2 = _
      rw [up_nj (by decide), up_nj (by decide)]; exact a5
    · show pv_up T.1 94 10 x 94 2 = _
      rw [up_nj (by decide), up_nj (by decide)]; exact a5
    · show pv_up T.1 94 2 x 94 2 = _
      rw [up_at, up_at]
  · rcases hj with ⟨rfl, rfl, -⟩ | ⟨rfl, rfl, -⟩ | ⟨rfl, rfl⟩
    · show pv_up T.1 94 9 x 94 0 = _
      rw [up_nj (by decide), up_nj (by decide)]; exact a6
    · show pv_up T.1 94 10 x 94 0 = _
      rw [up_nj (by decide), up_nj (by decide)]; exact a6
    · show pv_up T.1 94 2 x 94 0 = _
      rw [up_nj (by decide), up_nj (by decide)]; exact a6
  · show pv_up T.1 94 i x 95 g = _
    rw [up_ne (by decide), up_ne (by decide)]
    exact a7 g g1 g2
theorem Inv.tell {s : pv_F} {T : pv_T} (h : Inv s T) (x : Int32) : Inv (pv_up s 0 8 x) (pv_up T.1 94 2 x, T.2) := h.put0 (Or.inr (Or.inr ⟨rfl, rfl⟩))
theorem op13 : OP13 Inv := by
  intro a s T h
  obtain ⟨m1, m2, m3, m4, m5, m6, m7⟩ := h.1
  unfold f67_way f150_way
  rw [in_eq]
  rcases pk_ix a (n := 3) (by omega) with ha | ha | ⟨j, hj, rfl⟩
  · exact ⟨-1, s, T, by simp [ha], by simp [ha], h⟩
  · obtain ⟨h1, -, h2, -⟩ := cmp_big ha (by omega)
    have h3 : ¬ a ≤ (2:Int32) := (h2 2 (by omega)).1
    have h4 : (2:Int32) < a := (h2 2 (by omega)).2
    exact ⟨-1, s, T, by simp [h1, h3], by simp [h1, h4], h⟩
  · have h1 : ¬ nI j < 0 := nI_pos (by omega)
    have h3 : nI j ≤ (2:Int32) := nI_le (b := 2) (by omega) (by omega)
    have h4 : ¬ (2:Int32) < nI j := nI_nlt (a := 2) (by omega) (by omega)
    refine ⟨s 0 6, pv_up s 0 6 (nI j), (pv_up T.1 94 9 (nI j), T.2), by simp [h1, h3, pv_pf], by simp [h1, h4, pv_pm, m3], h.put0 (Or.inl ⟨rfl, rfl, j, by omega, rfl⟩)⟩
theorem op14 : OP14 Inv := by
  intro a s T h
  obtain ⟨m1, m2, m3, m4, m5, m6, m7⟩ := h.1
  unfold f68_price f151_price
  rw [in_eq]
  rcases pk_ix a (n := 100) (by omega) with ha | ha | ⟨j, hj, rfl⟩
  · exact ⟨-1, s, T, by simp [ha], by simp [ha], h⟩
  · obtain ⟨h1, -, h2, -⟩ := cmp_big ha (by omega)
    have h3 : ¬ a ≤ (99:Int32) := (h2 99 (by omega)).1
    have h4 : (99:Int32) < a := (h2 99 (by omega)).2
    exact ⟨-1, s, T, by simp [h1, h3], by simp [h1, h4], h⟩
  · have h1 : ¬ nI j < 0 := nI_pos (by omega)
    have h3 : nI j ≤ (99:Int32) := nI_le (b := 99) (by omega) (by omega)
    have h4 : ¬ (99:Int32) < nI j := nI_nlt (a := 99) (by omega) (by omega)
    refine ⟨s 0 7, pv_up s 0 7 (nI j), (pv_up T.1 94 10 (nI j), T.2), by simp [h1, h3, pv_pf], by simp [h1, h4, pv_pm, m4], h.put0 (Or.inr (Or.inl ⟨rfl, rfl, j, by omega, rfl⟩))⟩
theorem op38 : OP38 Inv := fun s T h => ⟨s 0 8, rfl, congrArg some h.1.2.2.2.2.1⟩
theorem op42 : OP42 Inv := fun s T h => ⟨s 0 9, rfl, congrArg some h.1.2.2.2.2.2.1⟩
theorem op43 : OP43 Inv := by
  intro a s T h
  obtain ⟨m1, m2, m3, m4, m5, m6, m7⟩ := h.1
  unfold f97_findings f212_findings
  rw [in_eq]
  rcases pk_ix a (n := 6) (by omega) with ha | ha | ⟨j, hj, rfl⟩
  · have h1 : a < (1:Int32) := (cmp_neg ha 1 (by omega)).2.1
    exact ⟨-1, by simp [h1], by simp [h1]⟩
  · obtain ⟨h1, -, h2, -⟩ := cmp_big ha (by omega)
    have h3 : ¬ a ≤ (5:Int32) := (h2 5 (by omega)).1
    have h4 : (5:Int32) < a := (h2 5 (by omega)).2
    exact ⟨-1, by simp [h3], by simp [h4]⟩
  · by_cases hj0 : j = 0
    · subst hj0
      have h1 : nI 0 < (1:Int32) := by decide
      exact ⟨-1, by simp [h1], by simp [h1]⟩
    · have h1 : ¬ nI j < (1:Int32) := nI_nlt (b := 1) (by omega) (by omega)
      have h3 : nI j ≤ (5:Int32) := nI_le (b := 5) (by omega) (by omega)
      have h4 : ¬ (5:Int32) < nI j := nI_nlt (a := 5) (by omega) (by omega)
      refine ⟨s 73 j, by simp [h1, h3, rd_nI hj], by simp [h1, h4, rd_nI hj, m7 j (by omega) hj]⟩
