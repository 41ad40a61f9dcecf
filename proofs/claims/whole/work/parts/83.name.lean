/-! NAME, BEST: how long a name lasts -/
def wrI (w : Nat) (l : List Nat) : Nat → List Nat
  | 0 => l
  | k + 1 => wearA w (wrI w l k)
theorem wrI_ok (w : Nat) {l : List Nat} (h : okN l) : ∀ k, okN (wrI w l k)
  | 0 => h
  | k + 1 => okN_wear (wrI_ok w h k) w
theorem wrI_len (w : Nat) (l : List Nat) : ∀ k, (wrI w l k).length = l.length - k
  | 0 => rfl
  | k + 1 => by
    show (wearA w (wrI w l k)).length = _
    rw [wearA_len, wrI_len w l k]
    omega
def takn (K : Nat → Nat) (n : Nat) (nm : Nat → List Nat) (ob : Nat → Bool) (l : List Nat) : Nat := bits (fun y => (decide (K y ≠ 3) && decide (nm y = l)) && !(ob y)) n
def lastP (K : Nat → Nat) (n : Nat) (nm : Nat → List Nat) (ob : Nat → Bool) (w : Nat) (l : List Nat) (k : Nat) : Prop := wrI w l k = [] ∨ ¬ takn K n nm ob (wrI w l k) = 0
theorem callsTill_ok {s : pv_F} {o n : Nat} {K : Nat → Nat} {nm : Nat → List Nat} {du : Nat → Nat} (hF : okF n K nm du) (h : FC s o n K nm du) {l : List Nat} {w : Nat} {v : Int32} {ob : Nat → Bool} (hl : okN l) (hw : w ≤ 2) (hv : ∀ p : Nat → Bool, nI (bits p n) &&& (v ^^^ (-1:Int32)) = nI (bits (fun y => p y && !(ob y)) n)) : ∃ k, k ≤ 6 ∧ f19_callsTillTaken o (nI (pack l)) v (nI w) s = some (nI k) ∧ lastP K n nm ob w l k ∧ ∀ m, m < k → ¬ lastP K n nm ob w l m := by
  have h7 := hF.1
  have hl6 := hl.1
  unfold f19_callsTillTaken
  obtain ⟨e, h1, h2⟩ := lq_inv2 (B := f19_callsTillTaken_b1 o v (nI w) s) (P := fun i st => st = (nI (pack (wrI w l i)), nI i) ∧ i ≤ 6 ∧ ∀ m, m < i → ¬ lastP K n nm ob w l m) (Q := fun st => ∃ k, k ≤ 6 ∧ st.2 = nI k ∧ lastP K n nm ob w l k ∧ ∀ m, m < k → ¬ lastP K n nm ob w l m) 6 (fun i st hi hP => by
    obtain ⟨rfl, p1, p2⟩ := hP
    have hok := wrI_ok w hl i
    unfold f19_callsTillTaken_b1
    simp only
    by_cases h6 : i = 6
    · subst h6
      rw [if_pos (by decide)]
      refine Or.inr ⟨_, rfl, 6, by omega, rfl, Or.inl ?_, p2⟩
      exact List.length_eq_zero_iff.mp (by rw [wrI_len]; omega)
    rw [if_neg (show ¬ (6:Int32) ≤ nI i from nI_ge (b := 6) (by omega) (by omega))]
    by_cases he : wrI w l i = []
    · rw [if_pos ((pack_0 hok).mpr he)]
      exact Or.inr ⟨_, rfl, i, by omega, rfl, Or.inl he, p2⟩
    rw [if_neg (fun q => he ((pack_0 hok).mp q)), named_ok hF h hok]
    simp only [bs]
    rw [hv]
    simp only [bits_z h7]
    by_cases hz : takn K n nm ob (wrI w l i) = 0
    · rw [if_pos (show bits (fun y => (decide (K y ≠ 3) && decide (nm y = wrI w l i)) && !(ob y)) n = 0 from hz), worn_ok hok hw, nI_1]
      simp only [bs]
      refine Or.inl ⟨by omega, _, rfl, rfl, by omega, fun m hm => ?_⟩
      by_cases em : m = i
      · subst em
        exact fun q => q.elim he (fun q => q hz)
      · exact p2 m (by omega)
    · rw [if_neg (show ¬ bits (fun y => (decide (K y ≠ 3) && decide (nm y = wrI w l i)) && !(ob y)) n = 0 from hz)]
      exact Or.inr ⟨_, rfl, i, by omega, rfl, Or.inr hz, p2⟩) (nI (pack l), (0:Int32)) ⟨rfl, by omega, fun m hm => by omega⟩
  rw [h1]
  obtain ⟨a, b⟩ := e
  obtain ⟨k, q0, q1, q2, q3⟩ := h2
  simp only at q1
  subst q1
  exact ⟨k, q0, rfl, q2, q3⟩
theorem oneLasts_ok {T : pv_T} {n : Nat} {K : Nat → Nat} {A : TS} (hF : okT n K A) (hM : MR T n K A) {l : List Nat} {w : Nat} {b : Int32} {ob : Nat → Bool} (hl : okN l) (hO : OneM T l) (hw : w ≤ 2) (hT : T.1 94 9 = nI w) (hb : ∀ y, y < n → (nI y = b ↔ ob y = true)) : ∃ k T', k ≤ 6 ∧ f178_oneLasts b T = some (nI k, T') ∧ (lastP K n A.1 ob w l k ∧ ∀ m, m < k → ¬ lastP K n A.1 ob w l m) ∧ (∀ j, j ≠ 26 → T'.1 94 j = T.1 94 j) ∧ ∀ c, c ≠ 94 → c ≠ 111 → T'.1 c = T.1 c := by
  have h7 := hF.1
  have hl6 := hl.1
  unfold f178_oneLasts
  obtain ⟨e, h1, h2⟩ := lq_inv2 (B := f178_oneLasts_b1 b) (P := fun i st => st.1 = nI i ∧ i ≤ 6 ∧ OneM st.2 (wrI w l i) ∧ (∀ m, m < i → ¬ lastP K n A.1 ob w l m) ∧ (∀ j, j ≠ 26 → st.2.1 94 j = T.1 94 j) ∧ ∀ c, c ≠ 94 → c ≠ 111 → st.2.1 c = T.1 c) (Q := fun st => ∃ k, k ≤ 6 ∧ st.1 = nI k ∧ (lastP K n A.1 ob w l k ∧ ∀ m, m < k → ¬ lastP K n A.1 ob w l m) ∧ (∀ j, j ≠ 26 → st.2.1 94 j = T.1 94 j) ∧ ∀ c, c ≠ 94 → c ≠ 111 → st.2.1 c = T.1 c) 6 (fun i st hi hP => by
    obtain ⟨v, U⟩ := st
    obtain ⟨p1, p2, p3, p4, p5, p6⟩ := hP
    simp only at p1 p3 p5 p6
    subst p1
    have hok := wrI_ok w hl i
    have hok6 := hok.1
    have hMU : MR U n K A := hM.frame (p5 8 (by decide)) (p6 101 (by decide) (by decide)) (p6 105 (by decide) (by decide))
    unfold f178_oneLasts_b1
    simp only
    rw [p3.1]
    by_cases he : wrI w l i = []
    · rw [if_pos (by rw [he]; decide)]
      exact Or.inr ⟨_, rfl, i, by omega, rfl, ⟨Or.inl he, p4⟩, p5, p6⟩
    have hi6 : i < 6 := by
      rcases Nat.lt_or_ge i 6 with q | q
      · exact q
      · exact absurd (List.length_eq_zero_iff.mp (by rw [wrI_len]; omega)) he
    rw [if_neg (nI_nle (List.length_pos_iff.mpr he) (by omega)), haveOne_ok hF hMU hok p3 hb]
    simp only [bs, bits_z h7]
    by_cases hz : takn K n A.1 ob (wrI w l i) = 0
    · rw [if_pos (show bits (fun y => (decide (K y ≠ 3) && decide (A.1 y = wrI w l i)) && !(ob y)) n = 0 from hz)]
      obtain ⟨V, v1, v2, v3, v4⟩ := wearM_ok (T := U) (c := 111) (o := 0) (w := w) (N := 6) hok he hw (by rw [p5 9 (by decide)]; exact hT) rfl (by omega) (by omega) (fun j hj => by rw [Nat.zero_add]; exact p3.2 j hj)
      rw [nI_0] at v1
      rw [v1]
      simp only [bs, pv_pm]
      refine Or.inl ⟨hi6, _, rfl, nI_1 i, by omega, ⟨?_, fun j hj => ?_⟩, fun m hm => ?_, fun j hj => ?_, fun c c1 c2 => ?_⟩
      · simp only
        rw [up_at]
        show nI _ = nI (wearA w (wrI w l i)).length
        rw [wearA_len]
      · simp only
        have hj' : j < (wearA w (wrI w l i)).length := hj
        rw [wearA_len] at hj'
        rw [up_ne (by decide)]
        have := v2 j hj'
        rw [Nat.zero_add] at this
        exact this
      · by_cases em : m = i
        · subst em
          exact fun q => q.elim he (fun q => q hz)
        · exact p4 m (by omega)
      · simp only
        rw [up_nj hj, v3 94 (by decide)]; exact p5 j hj
      · simp only
        rw [up_ne c1, v3 c c2]; exact p6 c c1 c2
    · rw [if_neg (show ¬ bits (fun y => (decide (K y ≠ 3) && decide (A.1 y = wrI w l i)) && !(ob y)) n = 0 from hz)]
      exact Or.inr ⟨_, rfl, i, by omega, rfl, ⟨Or.inr hz, p4⟩, p5, p6⟩) ((0:Int32), T) ⟨rfl, by omega, hO, fun m hm => by omega, fun j hj => rfl, fun c c1 c2 => rfl⟩
  rw [h1]
  obtain ⟨a, U⟩ := e
  obtain ⟨k, q0, q1, q2, q3, q4⟩ := h2
  simp only at q1 q3 q4
  subst q1
  exact ⟨k, U, q0, rfl, q2, q3, q4⟩
theorem first_eq {p : Nat → Prop} {k k' : Nat} (h1 : p k) (h2 : ∀ m, m < k → ¬ p m) (h1' : p k') (h2' : ∀ m, m < k' → ¬ p m) : k = k' := by
  rcases Nat.lt_trichotomy k k' with c | c | c
  · exact absurd h1 (h2' k c)
  · exact c
  · exact absurd h1' (h2 k' c)
theorem v_none {n : Nat} (p : Nat → Bool) : nI (bits p n) &&& ((0:Int32) ^^^ (-1:Int32)) = nI (bits (fun y => p y && !((fun _ : Nat => false) y)) n) := by
  rw [show (0:Int32) ^^^ (-1:Int32) = -1 from by decide, Int32.and_neg_one]
  exact congrArg nI (bits_congr fun y hy => by simp)
theorem op26 : OP26 Inv := by
  intro a s T h
  obtain ⟨n, K, A, hn, hF, hC, hM, hR⟩ := h.2.2.2.view
  obtain ⟨w, hw, hwC, hwM⟩ := h.way_
  unfold f80_name f180_name
  rcases pk_ix a (n := 4) (by omega) with ha | ha | ⟨r, hr, rfl⟩
  · rw [(noText (Or.inl ha)).1, noTextM T (Or.inl ha)]
    exact ⟨-1, s, T, rfl, rfl, h⟩
  · rw [(noText (Or.inr ha)).1, noTextM T (Or.inr ha)]
    exact ⟨-1, s, T, rfl, rfl, h⟩
  rw [isTextC_in hr]
  simp only [bs]
  rw [if_neg (show ¬ (1:Int32) = 0 by decide), ra_t hr]
  simp only [bs]
  rcases nameAsk h hr with ⟨f, f1, f2, f3, f4⟩ | ⟨l, T1, l1, l0, l2, l3, l4, l5, l6, l7⟩
  · rw [f3, f4]
    simp only [bs]
    rw [if_neg (nI_ne0 f1 (by omega)), find_ok f f2, if_neg (show ¬ (0:Int32) ≤ -3 by decide)]
    exact ⟨_, _, _, rfl, rfl, h.fnd f1 f2⟩
  · have hM1 : MR T1 n K A := hM.frame (l6 8 (by decide)) (l7 101 (by decide) (by decide)) (l7 105 (by decide) (by decide))
    rw [l2, l3, l4]
    simp only [bs]
    rw [if_pos True.intro, if_pos (show (0:Int32) ≤ 0 by decide), hwC]
    obtain ⟨k, k0, k1, k2, k3⟩ := callsTill_ok hF hC l1 hw (v := 0) (ob := fun _ => false) v_none
    obtain ⟨m, T2, m0, m1, m2, m3, m4⟩ := oneLasts_ok hF hM1 l1 l5 hw (by rw [l6 9 (by decide)]; exact hwM) (ob_none hn)
    rw [k1, m1, first_eq k2 k3 m2.1 m2.2]
    refine ⟨_, s, T2, rfl, rfl, h.aside (fun _ _ => rfl) (fun c hc => ?_) (fun i hi => ?_) (fun j hj => ?_)⟩
    · rw [m4 c (by omega) (by omega), l7 c (by omega) (by omega)]
    · rw [m4 105 (by decide) (by decide), l7 105 (by decide) (by decide)]
    · rw [m3 j (by omega), l6 j (by omega)]
