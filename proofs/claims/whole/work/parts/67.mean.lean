/-! the mean; copies -/
def sum64 (f : Nat → Int32) : Nat → Int64
  | 0 => 0
  | n + 1 => sum64 f n + (f n).toInt64
theorem sum64_congr {f g : Nat → Int32} {n : Nat} (h : ∀ i, i < n → f i = g i) : sum64 f n = sum64 g n := by
  induction n with
  | zero => rfl
  | succ n ih =>
    unfold sum64
    rw [ih (fun i hi => h i (by omega)), h n (by omega)]
theorem sumC_ok {s : pv_F} {c N n : Nat} (hN : pv_an (c + 1) = N) (hz : s c 2 = nI n) (hn : n ≤ N) (hb : N ≤ 1000) : f29_sum c s = some (sum64 (s (c + 1)) n) := by
  unfold f29_sum
  obtain ⟨⟨a, w⟩, he, hq⟩ := lq_inv (B := f29_sum_b1 c s) (fun i st => st.1 = sum64 (s (c + 1)) i ∧ st.2 = nI i) (fun e => e.1 = sum64 (s (c + 1)) n) n (by
    rintro i ⟨a, w⟩ hi ⟨rfl, rfl⟩
    refine ⟨(sum64 (s (c + 1)) (i + 1), nI (i + 1)), ?_, rfl, rfl⟩
    unfold f29_sum_b1
    dsimp only
    rw [hz, if_neg (nI_ge hi (by omega)), hN, rd_nI (by omega), Option.bind_some, nI_1]
    rfl) (by
    rintro ⟨a, w⟩ ⟨rfl, rfl⟩
    exact ⟨_, by unfold f29_sum_b1; dsimp only; rw [hz, if_pos (nI_le (Nat.le_refl _) (by omega))], rfl⟩) ((0:Int64), (0:Int32)) ⟨rfl, rfl⟩
  rw [he, Option.bind_some]
  dsimp only at hq ⊢
  rw [hq]
theorem sumM_ok {T : pv_T} {r n : Nat} (hr : r < 6) (hz : T.1 96 r = nI n) (hn : n ≤ 40) : ∃ w, pv_lq (f130_mean_b1 (nI r) T) 20000 ((0:Int64), (0:Int32)) = some (sum64 (fun i => T.1 97 (40 * r + i)) n, w) := by
  obtain ⟨⟨a, w⟩, he, hq⟩ := lq_inv (B := f130_mean_b1 (nI r) T) (fun i st => st.1 = sum64 (fun i => T.1 97 (40 * r + i)) i ∧ st.2 = nI i) (fun e => e.1 = sum64 (fun i => T.1 97 (40 * r + i)) n) n (by
    rintro i ⟨a, w⟩ hi ⟨rfl, rfl⟩
    refine ⟨(sum64 (fun i => T.1 97 (40 * r + i)) (i + 1), nI (i + 1)), ?_, rfl, rfl⟩
    unfold f130_mean_b1
    dsimp only
    rw [rd_nI hr, hz, Option.bind_some, if_neg (nI_ge hi (by omega))]
    unfold f123_rowAt
    rw [ix40, rd_nI (by omega), nI_1]
    rfl) (by
    rintro ⟨a, w⟩ ⟨rfl, rfl⟩
    exact ⟨_, by unfold f130_mean_b1; dsimp only; rw [rd_nI hr, hz, Option.bind_some, if_pos (nI_le (Nat.le_refl _) (by omega))], rfl⟩) ((0:Int64), (0:Int32)) ⟨rfl, rfl⟩
  exact ⟨w, by rw [he, ← hq]⟩
theorem ldv_nz {x : Int64} {n : Nat} (h0 : 0 < n) (h : n < 2 ^ 31) : pv_ldv x (nI n).toInt64 = some (x / (nI n).toInt64) := by
  unfold pv_ldv
  rw [if_neg]
  intro e
  have h1 := congrArg Int64.toInt e
  rw [Int32.toInt_toInt64, nI_toInt h] at h1
  have h2 : (0 : Int64).toInt = 0 := by decide
  omega
theorem op5 : OP5 Inv := by
  intro a s T h
  rcases pk_ix a (n := 6) (by omega) with ha | ha | ⟨r, hr, rfl⟩
  · exact ⟨-1, s, T, by unfold f59_mean; rw [(noRow (Or.inl ha)).1]; rfl, by unfold f130_mean; rw [asked_no T (Or.inl ha)]; rfl, h⟩
  · exact ⟨-1, s, T, by unfold f59_mean; rw [(noRow (Or.inr ha)).1]; rfl, by unfold f130_mean; rw [asked_no T (Or.inr ha)]; rfl, h⟩
  · unfold f59_mean f130_mean
    rw [isRowC_in hr, Option.bind_some, if_neg (by decide), ra_r hr, Option.bind_some]
    rcases h.2.1 r hr with ⟨m1, m2⟩ | ⟨m1, n, m2, m3, m4, m5⟩
    · refine ⟨-3, fndC s 1, fndM T 1, ?_, by rw [asked_miss hr m2]; rfl, h.fnd (by omega) (by omega)⟩
      rw [if_pos m1, find_ok 1 (by omega)]
      rfl
    · obtain ⟨w, hsum⟩ := sumM_ok hr m4 m2
      rw [asked_there hr (by omega) m4]
      simp only [Option.bind_some]
      rw [if_neg (by rw [m1]; decide), if_pos (show (0:Int32) ≤ 0 by decide), hsum]
      simp only [Option.bind_some]
      rw [rd_nI hr, m4, m3]
      simp only [Option.bind_some]
      cases n with
      | zero =>
        refine ⟨-3, fndC s 4, fndM T 4, ?_, ?_, h.fnd (by omega) (by omega)⟩
        · rw [if_neg (by decide), find_ok 4 (by omega)]
          rfl
        · rw [if_pos (by decide), meet_ok 4 (by omega)]
          rfl
      | succ n =>
        have hsC := sumC_ok (s := s) (an_r hr) m3 m2 (by omega)
        rw [show 74 + 2 * r + 1 = 75 + 2 * r by omega, sum64_congr m5] at hsC
        have h1 : (1:Int32) ≤ nI (n + 1) := nI_le (a := 1) (by omega) (by omega)
        have h2 : ¬ nI (n + 1) = 0 := nI_ne0 (by omega) (by omega)
        refine ⟨1, _, _, ?_, ?_, h.tell (sum64 (fun i => T.1 97 (40 * r + i)) (n + 1) / (nI (n + 1)).toInt64).toInt32⟩
        · rw [if_pos h1, hsC]
          simp only [Option.bind_some]
          rw [ldv_nz (by omega) (by omega)]
          rfl
        · rw [if_neg h2, ldv_nz (by omega) (by omega)]
          rfl
