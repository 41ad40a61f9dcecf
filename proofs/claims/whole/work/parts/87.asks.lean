/-! ROWS OF CALLS: asked -/
theorem numsC {s : pv_F} {c z N most : Nat} {v2 : Int32} (hN : pv_an (c + 1) = N) (ht : s c 1 = 1) (hz : s c 2 = nI z) (hzN : z ≤ N) (hb : N ≤ 1000) (hm : z ≤ most) (hm2 : most < 2 ^ 31) : (f107_numbersFinding c (nI most) v2 s = some 0 ∧ ∀ i, i < z → ¬ s (c + 1) i < 0 ∧ s (c + 1) i < v2) ∨ (f107_numbersFinding c (nI most) v2 s = some 3 ∧ ∃ i, i < z ∧ (s (c + 1) i < 0 ∨ ¬ s (c + 1) i < v2)) := by
  unfold f107_numbersFinding
  rw [ht, if_neg (show ¬ (1:Int32) = 0 by decide), hz, if_pos (nI_le hm hm2)]
  obtain ⟨o, o1, o2⟩ := lp_inv (B := f107_numbersFinding_b1 c v2 s) (P := fun i st => st = nI i ∧ ∀ j, j < i → ¬ s (c + 1) j < 0 ∧ s (c + 1) j < v2) (Q := fun o => match o with
    | .inl _ => ∀ i, i < z → ¬ s (c + 1) i < 0 ∧ s (c + 1) i < v2
    | .inr q => q = 3 ∧ ∃ i, i < z ∧ (s (c + 1) i < 0 ∨ ¬ s (c + 1) i < v2)) z (fun i st hi hP => by
    obtain ⟨rfl, p1⟩ := hP
    unfold f107_numbersFinding_b1
    simp only
    rw [hz]
    by_cases e : i = z
    · subst e
      rw [if_pos (nI_le (by omega) (by omega))]
      exact Or.inr ⟨_, rfl, p1⟩
    · rw [if_neg (nI_ge (by omega) (by omega)), hN, rd_nI (by omega)]
      simp only [bs]
      by_cases h1 : s (c + 1) i < 0
      · rw [if_pos h1]
        exact Or.inr ⟨_, rfl, rfl, i, by omega, Or.inl h1⟩
      · rw [if_neg h1]
        by_cases h2 : s (c + 1) i < v2
        · rw [if_pos h2, nI_1]
          refine Or.inl ⟨by omega, _, rfl, rfl, fun j hj => ?_⟩
          by_cases ej : j = i
          · subst ej; exact ⟨h1, h2⟩
          · exact p1 j (by omega)
        · rw [if_neg h2]
          exact Or.inr ⟨_, rfl, rfl, i, by omega, Or.inr h2⟩) (0:Int32) ⟨nI_0.symm, fun j hj => by omega⟩
  rw [o1]
  simp only [bs]
  match o, o2 with
  | .inl _, o2 => exact Or.inl ⟨rfl, o2⟩
  | .inr q, o2 => exact Or.inr ⟨by simp only; rw [o2.1], o2.2⟩
theorem rowAt_ok {T : pv_T} {r i : Nat} (hr : r < 6) (hi : i < 40) : f123_rowAt (nI r) (nI i) T = some (T.1 97 (40 * r + i)) := by
  unfold f123_rowAt
  rw [ix40, rd_nI (by omega)]
  simp only [bs]
theorem askM {T : pv_T} {r z : Nat} (hr : r < 6) (hz : T.1 96 r = nI z) (hz40 : z ≤ 40) {B : Int32 → Option (Int32 ⊕ (Int32 ⊕ (Int32 × pv_T)))} {ok : Int32 → Option Int32} {g : Int32 → Bool} (hB : ∀ v, B v = (pv_rd T.1 96 6 (nI r)).bind fun q => if q ≤ v then some (.inr (.inl v)) else (f123_rowAt (nI r) v T).bind fun q12 => (ok q12).bind fun q14 => if q14 = 0 then (f115_meet (3:Int32) T).bind fun x => some (.inr (.inr (x.1, x.2))) else some (.inl (v + (1:Int32)))) (hok : ∀ v, ok v = some (if g v then 1 else 0)) : (∃ v, pv_lp B 20000 (0:Int32) = some (.inl v) ∧ ∀ i, i < z → g (T.1 97 (40 * r + i)) = true) ∨ (pv_lp B 20000 (0:Int32) = some (.inr (-3, fndM T 3)) ∧ ∃ i, i < z ∧ g (T.1 97 (40 * r + i)) = false) := by
  obtain ⟨o, o1, o2⟩ := lp_inv (B := B) (P := fun i st => st = nI i ∧ ∀ j, j < i → g (T.1 97 (40 * r + j)) = true) (Q := fun o => match o with
    | .inl _ => ∀ i, i < z → g (T.1 97 (40 * r + i)) = true
    | .inr q => q = (-3, fndM T 3) ∧ ∃ i, i < z ∧ g (T.1 97 (40 * r + i)) = false) z (fun i st hi hP => by
    obtain ⟨rfl, p1⟩ := hP
    rw [hB, rd_nI hr, hz]
    simp only [bs]
    by_cases e : i = z
    · subst e
      rw [if_pos (nI_le (by omega) (by omega))]
      exact Or.inr ⟨_, rfl, p1⟩
    · rw [if_neg (nI_ge (by omega) (by omega)), rowAt_ok hr (by omega)]
      simp only [bs]
      rw [hok]
      simp only [bs]
      cases hg : g (T.1 97 (40 * r + i))
      · rw [show (if false = true then (1:Int32) else 0) = 0 from rfl, if_pos rfl, meet_ok 3 (by omega)]
        exact Or.inr ⟨_, rfl, rfl, i, by omega, hg⟩
      · rw [show (if true = true then (1:Int32) else 0) = 1 from rfl, if_neg (show ¬ (1:Int32) = 0 by decide), nI_1]
        refine Or.inl ⟨by omega, _, rfl, rfl, fun j hj => ?_⟩
        by_cases ej : j = i
        · subst ej; exact hg
        · exact p1 j (by omega)) (0:Int32) ⟨nI_0.symm, fun j hj => by omega⟩
  match o, o1, o2 with
  | .inl v, o1, o2 => exact Or.inl ⟨v, o1, o2⟩
  | .inr q, o1, o2 => exact Or.inr ⟨by rw [o1, o2.1], o2.2⟩
def cG (n : Nat) (v : Int32) : Bool := decide (¬ v < 0) && decide (v.toNatClampNeg / 100 < n ∧ v.toNatClampNeg % 100 < n ∧ v.toNatClampNeg / 100 ≠ v.toNatClampNeg % 100)
theorem cG_nI {n u : Nat} (hu : u < 2 ^ 31) : cG n (nI u) = decide (u / 100 < n ∧ u % 100 < n ∧ u / 100 ≠ u % 100) := by
  unfold cG
  rw [nI_clamp hu]
  simp [nI_pos hu]
theorem perN {s : pv_F} {n x : Nat} (h : s 8 3 = nI n) (hn : n ≤ 7) (hx : x < 2 ^ 31) : f102_isPerson (nI x) s = some (if x < n then 1 else 0) := by
  by_cases e : x < n
  · rw [if_pos e]; exact perC_in h e hn
  · rw [if_neg e]; exact perC_out h (Or.inr (nI_le (by omega) hx))
theorem perNM {T : pv_T} {n x : Nat} (h : T.1 94 8 = nI n) (hn : n ≤ 7) (hx : x < 2 ^ 31) : f140_isOne (nI x) T = some (if x < n then 1 else 0) := by
  by_cases e : x < n
  · rw [if_pos e]; exact perM_in h e hn
  · rw [if_neg e]; exact perM_out h (Or.inr (nI_le (by omega) hx)) hn
theorem pairN {s : pv_F} {n x y : Nat} (h : s 8 3 = nI n) (hn : n ≤ 7) (hx : x < 2 ^ 31) (hy : y < 2 ^ 31) : f103_isPair (nI x) (nI y) s = some (if x < n ∧ y < n ∧ x ≠ y then 1 else 0) := by
  unfold f103_isPair
  rw [perN h hn hx, perN h hn hy]
  simp only [bs]
  by_cases e1 : x < n
  · by_cases e2 : y < n
    · by_cases e3 : x = y
      · simp [e3, pv_bl0]
      · have e' : ¬ nI x = nI y := fun q => e3 ((nI_eq (by omega) (by omega)).mp q)
        simp [e1, e2, e3, e', pv_bl1]
    · simp [e1, e2, pv_bl0]
  · simp [e1, pv_bl0]
theorem dv100 {u : Nat} (hu : u < 2 ^ 31) : pv_dv (nI u) (100:Int32) = some (nI (u / 100)) := dv_ok (d := 100) hu (by omega) (by omega)
theorem rmd100 {u : Nat} (hu : u < 2 ^ 31) : pv_rmd (nI u) (100:Int32) = some (nI (u % 100)) := rmd_ok (d := 100) hu (by omega) (by omega)
theorem isCall_ok {T : pv_T} {n : Nat} (h : T.1 94 8 = nI n) (hn : n ≤ 7) (v : Int32) : f182_isCall v T = some (if cG n v then 1 else 0) := by
  unfold f182_isCall
  by_cases h0 : v < 0
  · rw [if_pos h0]
    unfold cG
    simp [h0, pv_bl0]
  · rw [if_neg h0]
    obtain ⟨u, hu, rfl⟩ := nI_of h0
    rw [cG_nI hu, dv100 hu, rmd100 hu]
    simp only [bs]
    rw [perNM h hn (by omega), perNM h hn (by omega)]
    simp only [bs]
    by_cases e1 : u / 100 < n
    · by_cases e2 : u % 100 < n
      · by_cases e3 : u / 100 = u % 100
        · simp [e3, pv_bl0]
        · have e' : ¬ nI (u / 100) = nI (u % 100) := fun q => e3 ((nI_eq (by omega) (by omega)).mp q)
          simp [e1, e2, e3, e', pv_bl1]
      · simp [e1, e2, pv_bl0]
    · simp [e1, pv_bl0]
/-- a row of calls, by who calls and who is called -/
def Calls (s : pv_F) (T : pv_T) (n r z : Nat) (B X : Nat → Nat) : Prop := z ≤ 40 ∧ s (74 + 2 * r) 2 = nI z ∧ T.1 96 r = nI z ∧ ∀ i, i < z → B i < n ∧ X i < n ∧ B i ≠ X i ∧ s (75 + 2 * r) i = nI (100 * B i + X i) ∧ T.1 97 (40 * r + i) = nI (100 * B i + X i)
theorem Calls.frame {s s' : pv_F} {T T' : pv_T} {n r z : Nat} {B X : Nat → Nat} (h : Calls s T n r z B X) (h1 : s' (74 + 2 * r) = s (74 + 2 * r)) (h2 : s' (75 + 2 * r) = s (75 + 2 * r)) (h3 : T'.1 96 = T.1 96) (h4 : T'.1 97 = T.1 97) : Calls s' T' n r z B X := by
  unfold Calls
  rw [h1, h2, h3, h4]
  exact h
theorem callsAsk {s : pv_F} {T : pv_T} {n : Nat} (h : Inv s T) (hn : n ≤ 7) (h8 : s 8 3 = nI n) (h8' : T.1 94 8 = nI n) {r most : Nat} (hr : r < 6) (hm : most ≤ 40) : (∃ f, 1 ≤ f ∧ f < 6 ∧ f108_callsFinding (74 + 2 * r) (nI most) s = some (nI f) ∧ f183_askedCalls (nI r) (nI most) T = some (-3, fndM T f)) ∨ ∃ z B X, z ≤ most ∧ f108_callsFinding (74 + 2 * r) (nI most) s = some 0 ∧ f183_askedCalls (nI r) (nI most) T = some (0, T) ∧ Calls s T n r z B X ∧ s (74 + 2 * r) 1 = 1 := by
  unfold f108_callsFinding f183_askedCalls
  rcases h.2.1 r hr with ⟨q1, q2⟩ | ⟨q1, z, q2, q3, q4, q5⟩
  · refine Or.inl ⟨1, by omega, by omega, ?_, ?_⟩
    · unfold f107_numbersFinding
      rw [q1, if_pos rfl]; rfl
    · rw [asked_miss hr q2]; rfl
  rw [asked_there hr (by omega) q4]
  simp only [bs]
  rw [if_pos (show (0:Int32) ≤ 0 by decide), rd_nI hr, q4]
  simp only [bs]
  by_cases hz : most < z
  · refine Or.inl ⟨5, by omega, by omega, ?_, ?_⟩
    · unfold f107_numbersFinding
      rw [q1, if_neg (show ¬ (1:Int32) = 0 by decide), q3, if_neg (nI_ge hz (by omega))]; rfl
    · rw [if_neg (nI_ge hz (by omega)), meet_ok 5 (by omega)]; rfl
  rw [if_pos (nI_le (by omega) (by omega))]
  have q5 : ∀ i, i < z → s (75 + 2 * r) i = T.1 97 (40 * r + i) := q5
  have e75 : 74 + 2 * r + 1 = 75 + 2 * r := by omega
  have hM := askM (T := T) (B := f183_askedCalls_b1 (nI r) T) (g := cG n) hr q4 (by omega) (fun v => rfl) (isCall_ok h8' hn)
  have hgood : (∀ i, i < z → cG n (T.1 97 (40 * r + i)) = true) → ∃ B X, Calls s T n r z B X := fun q => by
    refine ⟨fun i => (T.1 97 (40 * r + i)).toNatClampNeg / 100, fun i => (T.1 97 (40 * r + i)).toNatClampNeg % 100, by omega, q3, q4, fun i hi => ?_⟩
    have hq := q i hi
    unfold cG at hq
    rw [Bool.and_eq_true, decide_eq_true_eq, decide_eq_true_eq] at hq
    obtain ⟨u, hu, e⟩ := nI_of hq.1
    have hq2 := hq.2
    rw [e, nI_clamp hu] at hq2
    simp only [q5 i hi, e, nI_clamp hu]
    exact ⟨hq2.1, hq2.2.1, hq2.2.2, congrArg nI (by omega), congrArg nI (by omega)⟩
  rcases numsC (s := s) (c := 74 + 2 * r) (most := most) (v2 := 700) (an_r hr) q1 q3 q2 (by omega) (by omega) (by omega) with ⟨a1, a2⟩ | ⟨a1, a2⟩
  · rw [a1]
    simp only [bs]
    rw [if_pos True.intro]
    obtain ⟨o, o1, o2⟩ := lp_inv (B := f108_callsFinding_b1 (74 + 2 * r) s) (P := fun i st => st = nI i ∧ ∀ j, j < i → cG n (T.1 97 (40 * r + j)) = true) (Q := fun o => match o with
      | .inl _ => ∀ i, i < z → cG n (T.1 97 (40 * r + i)) = true
      | .inr q => q = 3 ∧ ∃ i, i < z ∧ cG n (T.1 97 (40 * r + i)) = false) z (fun i st hi hP => by
      obtain ⟨rfl, p1⟩ := hP
      unfold f108_callsFinding_b1
      simp only
      rw [q3]
      by_cases e : i = z
      · subst e
        rw [if_pos (nI_le (by omega) (by omega))]
        exact Or.inr ⟨_, rfl, p1⟩
      · obtain ⟨b1, b2⟩ := a2 i (by omega)
        obtain ⟨u, hu, eu⟩ := nI_of b1
        have eT : T.1 97 (40 * r + i) = nI u := by rw [← q5 i (by omega), ← e75]; exact eu
        rw [if_neg (nI_ge (by omega) (by omega)), an_r hr, rd_nI (by omega), eu]
        simp only [bs]
        rw [dv100 hu, rmd100 hu]
        simp only [bs]
        rw [pairN h8 hn (by omega) (by omega)]
        simp only [bs]
        have hc := cG_nI (n := n) hu
        rw [← eT] at hc
        by_cases hg : u / 100 < n ∧ u % 100 < n ∧ u / 100 ≠ u % 100
        · rw [if_pos hg, if_neg (show ¬ (1:Int32) = 0 by decide), nI_1]
          rw [decide_eq_true hg] at hc
          refine Or.inl ⟨by omega, _, rfl, rfl, fun j hj => ?_⟩
          by_cases ej : j = i
          · subst ej; exact hc
          · exact p1 j (by omega)
        · rw [if_neg hg, if_pos rfl]
          rw [decide_eq_false hg] at hc
          exact Or.inr ⟨_, rfl, rfl, i, by omega, hc⟩) (0:Int32) ⟨nI_0.symm, fun j hj => by omega⟩
    rw [o1]
    simp only [bs]
    match o, o2 with
    | .inl _, o2 =>
      rcases hM with ⟨v, m1, m2⟩ | ⟨m1, i, m2, m3⟩
      · rw [m1]
        simp only [bs]
        obtain ⟨B, X, hc⟩ := hgood m2
        exact Or.inr ⟨z, B, X, by omega, True.intro, True.intro, hc, q1⟩
      · rw [o2 i m2] at m3
        cases m3
    | .inr q, o2 =>
      obtain ⟨rfl, i, o3, o4⟩ := o2
      rcases hM with ⟨v, m1, m2⟩ | ⟨m1, m2⟩
      · rw [m2 i o3] at o4
        cases o4
      · rw [m1]
        exact Or.inl ⟨3, by omega, by omega, rfl, rfl⟩
  · rw [a1]
    simp only [bs]
    rw [if_neg (show ¬ (3:Int32) = 0 by decide)]
    obtain ⟨i, i1, i2⟩ := a2
    rcases hM with ⟨v, m1, m2⟩ | ⟨m1, m2⟩
    · exfalso
      have hq := m2 i i1
      unfold cG at hq
      rw [Bool.and_eq_true, decide_eq_true_eq, decide_eq_true_eq] at hq
      obtain ⟨u, hu, e⟩ := nI_of hq.1
      have hq2 := hq.2
      rw [e, nI_clamp hu] at hq2
      rw [e75, q5 i i1, e] at i2
      rcases i2 with i2 | i2
      · exact nI_pos hu i2
      · exact i2 (nI_lt (b := 700) (by omega) (by omega))
    · rw [m1]
      exact Or.inl ⟨3, by omega, by omega, rfl, rfl⟩
