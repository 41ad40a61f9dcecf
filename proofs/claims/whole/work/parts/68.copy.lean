/-! copies -/
theorem cmpL {p m n : Nat} (hp : p < 2 ^ 31) (hm : m < 2 ^ 31) (hn : n < 2 ^ 31) : (lg_cmp ((nI p).toInt64 + (nI m).toInt64) (nI n).toInt64 ≤ 0 ↔ p + m ≤ n) ∧ (0 < lg_cmp ((nI p).toInt64 + (nI m).toInt64) (nI n).toInt64 ↔ n < p + m) := by
  rw [lg_cmp_le, lg_cmp_gt, nI_l hp, nI_l hm, nI_l hn, lN_add]
  have e1 : (lN (p + m)).toInt = ((p + m : Nat) : Int) := lg_ofNat_toInt (by omega)
  have e2 := lN_toInt hn
  rw [Int64.le_iff_toInt_le, Int64.lt_iff_toInt_lt, e1, e2]
  constructor <;> omega
theorem runC {s : pv_F} {c n m : Nat} {x : Int32} (hz : s c 2 = nI n) (hn : n < 2 ^ 30) (hm : m < 2 ^ 31) : (x < 0 → f28_hasRun c x (nI m) s = some 0) ∧ ∀ p, x = nI p → p < 2 ^ 31 → f28_hasRun c x (nI m) s = some (if p + m ≤ n then 1 else 0) := by
  unfold f28_hasRun
  rw [hz]
  refine ⟨fun h => by rw [if_pos h, Option.bind_some, pv_bl0]; rfl, fun p hx hp => ?_⟩
  subst hx
  rw [if_neg (nI_pos hp)]
  by_cases h1 : n < p
  · rw [if_pos (nI_lt h1 hp), if_neg (by omega), Option.bind_some, pv_bl0]; rfl
  · rw [if_neg (nI_nlt (by omega) (by omega)), pk_sub (by omega)]
    by_cases h2 : n - p < m
    · rw [if_pos (nI_lt h2 hm), if_neg (by omega), Option.bind_some, pv_bl0]; rfl
    · rw [if_neg (nI_nlt (by omega) (by omega)), if_pos (by omega), Option.bind_some, pv_bl1]; rfl
theorem cpM1 {T : pv_T} {r p m : Nat} {x3 x4 : Int32} (hr : r < 6) (hpm : p + m ≤ 40) : ∃ w T', pv_lq (f129_copy_b1 (nI r) (nI p) x3 x4 (nI m)) 20000 ((0:Int32), T) = some (w, T') ∧ (∀ k, k < m → T'.1 98 k = T.1 97 (40 * r + (p + k))) ∧ (∀ a, a ≠ 98 → T'.1 a = T.1 a) ∧ T'.2 = T.2 := by
  obtain ⟨⟨w, T'⟩, he, h1, h2, h3⟩ := lq_inv (B := f129_copy_b1 (nI r) (nI p) x3 x4 (nI m)) (fun i st => st.1 = nI i ∧ (∀ k, k < i → st.2.1 98 k = T.1 97 (40 * r + (p + k))) ∧ (∀ a, a ≠ 98 → st.2.1 a = T.1 a) ∧ st.2.2 = T.2) (fun e => (∀ k, k < m → e.2.1 98 k = T.1 97 (40 * r + (p + k))) ∧ (∀ a, a ≠ 98 → e.2.1 a = T.1 a) ∧ e.2.2 = T.2) m (by
    rintro i ⟨w, U⟩ hi ⟨rfl, h2, h3, h4⟩
    dsimp only at h2 h3 h4
    refine ⟨(nI (i + 1), (pv_up U.1 98 i (T.1 97 (40 * r + (p + i))), U.2)), ?_, rfl, fun j hj => ?_, fun a ha => ?_, h4⟩
    · unfold f129_copy_b1 f123_rowAt
      dsimp only
      rw [if_neg (nI_ge hi (by omega)), nI_add, ix40, rd_nI (by omega), h3 97 (by decide)]
      simp only [Option.bind_some]
      rw [wm_nI (by omega), Option.bind_some, nI_1]
    · show pv_up U.1 98 i _ 98 j = _
      by_cases hji : j = i
      · subst hji; exact up_at _ _ _ _
      · rw [up_nj hji]; exact h2 j (by omega)
    · show pv_up U.1 98 i _ a = _
      rw [up_ne ha]; exact h3 a ha) (by
    rintro ⟨w, U⟩ ⟨rfl, h2, h3, h4⟩
    exact ⟨_, by unfold f129_copy_b1; dsimp only; rw [if_pos (nI_le (Nat.le_refl _) (by omega))], h2, h3, h4⟩) ((0:Int32), T) ⟨rfl, fun j hj => absurd hj (Nat.not_lt_zero j), fun _ _ => rfl, rfl⟩
  exact ⟨w, T', he, h1, h2, h3⟩
theorem cpM2 {T : pv_T} {r p m : Nat} (hr : r < 6) (hpm : p + m ≤ 40) : ∃ w T', pv_lq (f129_copy_b2 (nI r) (nI p) (nI m)) 20000 ((0:Int32), T) = some (w, T') ∧ (∀ k, k < m → T'.1 97 (40 * r + (p + k)) = T.1 98 k) ∧ (∀ k, (k < 40 * r + p ∨ 40 * r + p + m ≤ k) → T'.1 97 k = T.1 97 k) ∧ (∀ a, a ≠ 97 → T'.1 a = T.1 a) ∧ T'.2 = T.2 := by
  obtain ⟨⟨w, T'⟩, he, h1, h2, h3, h4⟩ := lq_inv (B := f129_copy_b2 (nI r) (nI p) (nI m)) (fun i st => st.1 = nI i ∧ (∀ k, k < i → st.2.1 97 (40 * r + (p + k)) = T.1 98 k) ∧ (∀ k, (k < 40 * r + p ∨ 40 * r + p + i ≤ k) → st.2.1 97 k = T.1 97 k) ∧ (∀ a, a ≠ 97 → st.2.1 a = T.1 a) ∧ st.2.2 = T.2) (fun e => (∀ k, k < m → e.2.1 97 (40 * r + (p + k)) = T.1 98 k) ∧ (∀ k, (k < 40 * r + p ∨ 40 * r + p + m ≤ k) → e.2.1 97 k = T.1 97 k) ∧ (∀ a, a ≠ 97 → e.2.1 a = T.1 a) ∧ e.2.2 = T.2) m (by
    rintro i ⟨w, U⟩ hi ⟨rfl, h2, h3, h4, h5⟩
    dsimp only at h2 h3 h4 h5
    refine ⟨(nI (i + 1), (pv_up U.1 97 (40 * r + (p + i)) (T.1 98 i), U.2)), ?_, rfl, fun j hj => ?_, fun k hk => ?_, fun a ha => ?_, h5⟩
    · unfold f129_copy_b2 f124_setRow
      dsimp only
      rw [if_neg (nI_ge hi (by omega)), rd_nI (by omega), h4 98 (by decide)]
      simp only [Option.bind_some]
      rw [nI_add, ix40, wm_nI (by omega), nI_1]
      rfl
    · show pv_up U.1 97 _ _ 97 _ = _
      by_cases hji : j = i
      · subst hji; exact up_at _ _ _ _
      · rw [up_nj (by omega)]; exact h2 j (by omega)
    · show pv_up U.1 97 _ _ 97 k = _
      rw [up_nj (by omega)]; exact h3 k (by omega)
    · show pv_up U.1 97 _ _ a = _
      rw [up_ne ha]; exact h4 a ha) (by
    rintro ⟨w, U⟩ ⟨rfl, h2, h3, h4, h5⟩
    exact ⟨_, by unfold f129_copy_b2; dsimp only; rw [if_pos (nI_le (Nat.le_refl _) (by omega))], h2, h3, h4, h5⟩) ((0:Int32), T) ⟨rfl, fun j hj => absurd hj (Nat.not_lt_zero j), fun _ _ => rfl, fun _ _ => rfl, rfl⟩
  exact ⟨w, T', he, h1, h2, h3, h4⟩
theorem op4 : OP4 Inv := by
  intro a b c d e s T h
  unfold f58_copy f129_copy
  rcases (show (a < 0 ∨ nI 6 ≤ a) ∨ ∃ r, r < 6 ∧ a = nI r from by rcases pk_ix a (n := 6) (by omega) with q | q | q; exact Or.inl (Or.inl q); exact Or.inl (Or.inr q); exact Or.inr q) with ha | ⟨r, hr, rfl⟩
  · rw [(noRow ha).1, (noRow ha).2]
    exact ⟨-1, s, T, rfl, rfl, h⟩
  rw [isRowC_in hr, isRowM_in hr]
  simp only [Option.bind_some]
  rw [if_neg (show ¬ (1:Int32) = 0 by decide), if_neg (show ¬ (1:Int32) = 0 by decide)]
  rcases (show (c < 0 ∨ nI 6 ≤ c) ∨ ∃ r, r < 6 ∧ c = nI r from by rcases pk_ix c (n := 6) (by omega) with q | q | q; exact Or.inl (Or.inl q); exact Or.inl (Or.inr q); exact Or.inr q) with hc | ⟨t, ht, rfl⟩
  · rw [(noRow hc).1, (noRow hc).2]
    exact ⟨-1, s, T, rfl, rfl, h⟩
  rw [isRowC_in ht, isRowM_in ht]
  simp only [Option.bind_some]
  rw [if_neg (show ¬ (1:Int32) = 0 by decide), if_neg (show ¬ (1:Int32) = 0 by decide)]
  by_cases he : e < 0
  · rw [if_neg (neg_not_le he), if_neg (neg_not_le he), find_ok 5 (by omega), meet_ok 5 (by omega)]
    exact ⟨-3, _, _, rfl, rfl, h.fnd (by omega) (by omega)⟩
  obtain ⟨m, hm, rfl⟩ := nI_of he
  rw [if_pos (nI_pos' hm), if_pos (nI_pos' hm), ra_r hr, ra_r ht, rd_nI hr, rd_nI ht]
  simp only [Option.bind_some]
  have f1 : ∃ a s' T', ((f104_find (1:Int32) s).bind fun (x : Int32 × pv_F) => some (x.1, x.2)) = some (a, s') ∧ ((f115_meet (1:Int32) T).bind fun (x : Int32 × pv_T) => some (x.1, x.2)) = some (a, T') ∧ Inv s' T' := ⟨-3, _, _, by rw [find_ok 1 (by omega)]; rfl, by rw [meet_ok 1 (by omega)]; rfl, h.fnd (by omega) (by omega)⟩
  have f2 : ∃ a s' T', ((f104_find (2:Int32) s).bind fun (x : Int32 × pv_F) => some (x.1, x.2)) = some (a, s') ∧ ((f115_meet (2:Int32) T).bind fun (x : Int32 × pv_T) => some (x.1, x.2)) = some (a, T') ∧ Inv s' T' := ⟨-3, _, _, by rw [find_ok 2 (by omega)]; rfl, by rw [meet_ok 2 (by omega)]; rfl, h.fnd (by omega) (by omega)⟩
  rcases h.2.1 r hr with ⟨m1, m2⟩ | ⟨m1, n, m2, m3, m4, m5⟩
  · rw [if_pos m1, m2, if_pos (show (-9:Int32) < 0 by decide)]
    exact f1
  rw [if_neg (by rw [m1]; decide), m4, if_neg (nI_pos (by omega))]
  rcases h.2.1 t ht with ⟨k1, k2⟩ | ⟨k1, q, k2, k3, k4, k5⟩
  · rw [if_pos k1, k2, if_neg (show ¬ (0:Int32) ≤ -9 by decide)]
    exact f1
  rw [if_neg (by rw [k1]; decide), k4, if_pos (nI_pos' (by omega))]
  obtain ⟨g1, g2⟩ := runC (x := b) m3 (by omega) hm
  obtain ⟨g3, g4⟩ := runC (x := d) k3 (by omega) hm
  by_cases hb : b < 0
  · rw [g1 hb, if_pos hb]
    exact f2
  obtain ⟨p, hp, rfl⟩ := nI_of hb
  rw [g2 p rfl hp, if_neg hb]
  by_cases hd : d < 0
  · rw [if_pos hd, g3 hd]
    by_cases hpm : p + m ≤ n
    · rw [if_pos hpm]; exact f2
    · rw [if_neg hpm]; exact f2
  obtain ⟨u, hu, rfl⟩ := nI_of hd
  rw [if_neg hd, g4 u rfl hu]
  obtain ⟨x1, x2⟩ := cmpL hp hm (show n < 2 ^ 31 by omega)
  obtain ⟨x3, x4⟩ := cmpL hu hm (show q < 2 ^ 31 by omega)
  by_cases hpm : p + m ≤ n
  · have hx2 : ¬ (0 < lg_cmp ((nI p).toInt64 + (nI m).toInt64) (nI n).toInt64) := fun z => by
      have := x2.mp z
      omega
    rw [if_pos hpm, if_neg hx2]
    simp only [Option.bind_some]
    rw [if_neg (show ¬ (1:Int32) = 0 by decide)]
    by_cases hum : u + m ≤ q
    · rw [if_pos hum, if_pos (x3.mpr hum), if_neg (show ¬ (1:Int32) = 0 by decide)]
      obtain ⟨w1, T1, l1, l2, l3, l4⟩ := cpM1 (T := T) (x3 := nI t) (x4 := nI u) hr (p := p) (m := m) (by omega)
      obtain ⟨w2, T2, j1, j2, j3, j4, j5⟩ := cpM2 (T := T1) ht (p := u) (m := m) (by omega)
      rw [l1]
      simp only [Option.bind_some]
      rw [j1, an_r hr, an_r ht, show 74 + 2 * r + 1 = 75 + 2 * r by omega, show 74 + 2 * t + 1 = 75 + 2 * t by omega]
      have hcy : pv_cy s (75 + 2 * r) 40 (75 + 2 * t) 40 (nI p) (nI u) (nI m) = some (pv_upf s (75 + 2 * t) (va_cpy (s (75 + 2 * r)) (s (75 + 2 * t)) p u m)) := by
        unfold pv_cy
        rw [nI_clamp hp, nI_clamp hu, nI_clamp hm, if_pos ⟨nI_pos hp, nI_pos hu, nI_pos hm, by omega, by omega⟩]
      rw [hcy]
      refine ⟨1, _, _, rfl, rfl, ?_⟩
      have cn : ∀ a, a ≠ 75 + 2 * t → pv_upf s (75 + 2 * t) (va_cpy (s (75 + 2 * r)) (s (75 + 2 * t)) p u m) a = s a := fun a ha => if_neg ha
      have dn : ∀ a, a ≠ 97 → a ≠ 98 → T2.1 a = T.1 a := fun a h1 h2 => by rw [j4 a h1, l3 a h2]
      obtain ⟨i1, i2, i3, i4⟩ := h
      refine ⟨i1.frame (cn 0 (by omega)) (cn 73 (by omega)) (dn 94 (by decide) (by decide)) (dn 95 (by decide) (by decide)), i2.set ht ?_ (fun a h1 h2 h3 h4 => cn a h4) (fun q _ hq => by rw [dn 96 (by decide) (by decide)]) (fun y i hy1 hy hi => by rw [j3 _ (by omega), l3 97 (by decide)]), i3.frame (fun a h1 h2 => cn a (by omega)) (dn 99 (by decide) (by decide)) (dn 100 (by decide) (by decide)), i4.frame (fun a h1 h2 => cn a (by omega)) (fun a h => dn a (by omega) (by omega)) (by rw [dn 94 (by decide) (by decide)]) (by rw [dn 94 (by decide) (by decide)])⟩
      refine Or.inr ⟨by rw [cn _ (by omega)]; exact k1, q, k2, by rw [cn _ (by omega)]; exact k3, by rw [dn 96 (by decide) (by decide)]; exact k4, fun i hi => ?_⟩
      show pv_upf s (75 + 2 * t) (va_cpy (s (75 + 2 * r)) (s (75 + 2 * t)) p u m) (75 + 2 * t) i = T2.1 97 (40 * t + i)
      rw [show pv_upf s (75 + 2 * t) (va_cpy (s (75 + 2 * r)) (s (75 + 2 * t)) p u m) (75 + 2 * t) = va_cpy (s (75 + 2 * r)) (s (75 + 2 * t)) p u m from if_pos rfl]
      by_cases hin : u ≤ i ∧ i < u + m
      · rw [pk_cpy_in hin.1 hin.2]
        have e1 := j2 (i - u) (by omega)
        rw [show u + (i - u) = i by omega, l2 (i - u) (by omega)] at e1
        rw [e1]
        exact m5 _ (by omega)
      · rw [pk_cpy_out (by omega), j3 _ (by omega), l3 97 (by decide)]
        exact k5 i hi
    · have hx3 : ¬ (lg_cmp ((nI u).toInt64 + (nI m).toInt64) (nI q).toInt64 ≤ 0) := fun z => hum (x3.mp z)
      rw [if_neg hum, if_neg hx3]
      exact f2
  · rw [if_neg hpm, if_pos (x2.mpr (by omega))]
    exact f2
