/-! two loops side by side; BEST -/
theorem two_loops {S S' R R' : Type} {L : Nat → S → Option R} {L' : Nat → S' → Option R'} {B : S → Option (S ⊕ R)} {B' : S' → Option (S' ⊕ R')} (hL : ∀ f st o, (∀ st', B st = some (.inl st') → L (f + 1) st = L f st') ∧ (B st = some (.inr o) → L (f + 1) st = some o)) (hL' : ∀ f st o, (∀ st', B' st = some (.inl st') → L' (f + 1) st = L' f st') ∧ (B' st = some (.inr o) → L' (f + 1) st = some o)) (P : Nat → S → S' → Prop) (Q : R → R' → Prop) (n : Nat) (hs : ∀ i a b, i ≤ n → P i a b → (i < n ∧ ∃ a' b', B a = some (.inl a') ∧ B' b = some (.inl b') ∧ P (i + 1) a' b') ∨ ∃ o o', B a = some (.inr o) ∧ B' b = some (.inr o') ∧ Q o o') (a : S) (b : S') (h0 : P 0 a b) (hn : n < 20000) : ∃ o o', L 20000 a = some o ∧ L' 20000 b = some o' ∧ Q o o' := by
  have key : ∀ (m f i : Nat) (a : S) (b : S'), i + m = n → m < f → P i a b → ∃ o o', L f a = some o ∧ L' f b = some o' ∧ Q o o' := by
    intro m
    induction m with
    | zero =>
      intro f i a b h1 h2 h3
      obtain ⟨f, rfl⟩ : ∃ g, f = g + 1 := ⟨f - 1, by omega⟩
      rcases hs i a b (by omega) h3 with ⟨h4, -⟩ | ⟨o, o', h4, h5, h6⟩
      · omega
      · exact ⟨o, o', (hL f a o).2 h4, (hL' f b o').2 h5, h6⟩
    | succ m ih =>
      intro f i a b h1 h2 h3
      obtain ⟨f, rfl⟩ : ∃ g, f = g + 1 := ⟨f - 1, by omega⟩
      rcases hs i a b (by omega) h3 with ⟨-, a', b', h4, h5, h6⟩ | ⟨o, o', h4, h5, h6⟩
      · obtain ⟨o, o', q1, q2, q3⟩ := ih f (i + 1) a' b' (by omega) (by omega) h6
        exact ⟨o, o', by rw [(hL f a o).1 a' h4]; exact q1, by rw [(hL' f b o').1 b' h5]; exact q2, q3⟩
      · exact ⟨o, o', (hL f a o).2 h4, (hL' f b o').2 h5, h6⟩
  exact key n 20000 0 a b (by omega) hn h0
theorem lq_eqs {S : Type} (B : S → Option (S ⊕ S)) : ∀ f st o, (∀ st', B st = some (.inl st') → pv_lq B (f + 1) st = pv_lq B f st') ∧ (B st = some (.inr o) → pv_lq B (f + 1) st = some o) := fun f st o => ⟨fun st' h => by rw [pv_lq, h], fun h => by rw [pv_lq, h]⟩
theorem lp_eqs {S R : Type} (B : S → Option (S ⊕ (S ⊕ R))) : ∀ f st o, (∀ st', B st = some (.inl st') → pv_lp B (f + 1) st = pv_lp B f st') ∧ (B st = some (.inr o) → pv_lp B (f + 1) st = some o) := fun f st o => ⟨fun st' h => by rw [pv_lp, h], fun h => by rw [pv_lp, h]⟩
theorem nI_nm1 {a : Nat} (h : a < 2 ^ 31) : ¬ nI a ≤ (-1:Int32) := by
  rw [Int32.le_iff_toInt_le, nI_toInt h, show (-1:Int32).toInt = -1 from by decide]
  omega
theorem MR.up {T : pv_T} {n : Nat} {K : Nat → Nat} {A : TS} {a j : Nat} {x : Int32} {y : Int64} (h : MR T n K A) (h1 : a ≠ 105) (h2 : a ≠ 101) (h3 : ¬ (a = 94 ∧ j = 8)) : MR (pv_up T.1 a j x, y) n K A := by
  refine h.frame ?_ (up_ne (Ne.symm h2)) (up_ne (Ne.symm h1))
  show pv_up T.1 a j x 94 8 = _
  by_cases e : a = 94
  · subst e; exact up_nj (fun q => h3 ⟨rfl, q.symm⟩)
  · rw [up_ne (Ne.symm e)]
def bst (k : Nat → Nat) : Nat → Nat × Nat
  | 0 => (1, 0)
  | i + 1 => if i = 0 then (1, k 1) else if k (i + 1) ≤ (bst k i).2 then bst k i else (i + 1, k (i + 1))
theorem bst_le {k : Nat → Nat} (h : ∀ i, 1 ≤ i → i ≤ 26 → k i ≤ 6) : ∀ i, i ≤ 26 → (bst k i).2 ≤ 6 ∧ (bst k i).1 ≤ 26 := by
  intro i
  induction i with
  | zero => intro _; exact ⟨by show (0:Nat) ≤ 6; omega, by show (1:Nat) ≤ 26; omega⟩
  | succ i ih =>
    intro hi
    unfold bst
    by_cases h0 : i = 0
    · rw [if_pos h0]; exact ⟨h 1 (by omega) (by omega), by show (1:Nat) ≤ 26; omega⟩
    · rw [if_neg h0]
      by_cases h1 : k (i + 1) ≤ (bst k i).2
      · rw [if_pos h1]; exact ih (by omega)
      · rw [if_neg h1]; exact ⟨h (i + 1) (by omega) hi, hi⟩
def bsl (k : Nat → Nat) (i : Nat) : Int32 := if i = 0 then -1 else nI (bst k i).2
/-- a turn of both searches for the best letter -/
theorem bsl_step {k : Nat → Nat} (h : ∀ i, 1 ≤ i → i ≤ 26 → k i ≤ 6) {i : Nat} (hi : i < 26) : (nI (k (i + 1)) ≤ bsl k i ∧ i ≠ 0 ∧ bst k (i + 1) = bst k i ∧ bsl k (i + 1) = bsl k i) ∨ (¬ nI (k (i + 1)) ≤ bsl k i ∧ bst k (i + 1) = (i + 1, k (i + 1)) ∧ bsl k (i + 1) = nI (k (i + 1))) := by
  have hk := h (i + 1) (by omega) (by omega)
  have hb := (bst_le h i (by omega)).1
  unfold bsl
  rw [if_neg (show ¬ i + 1 = 0 by omega)]
  by_cases h0 : i = 0
  · subst h0
    rw [if_pos rfl]
    exact Or.inr ⟨nI_nm1 (by omega), by unfold bst; exact if_pos rfl, by unfold bst; rw [if_pos rfl]⟩
  · rw [if_neg h0]
    by_cases h1 : k (i + 1) ≤ (bst k i).2
    · have e : bst k (i + 1) = bst k i := by
        rw [bst, if_neg h0, if_pos h1]
      exact Or.inl ⟨nI_le h1 (by omega), h0, e, by rw [e]⟩
    · have e : bst k (i + 1) = (i + 1, k (i + 1)) := by
        rw [bst, if_neg h0, if_neg h1]
      exact Or.inr ⟨nI_ge (by omega) (by omega), e, by rw [e]⟩
theorem op27 : OP27 Inv := by
  intro a s T h
  obtain ⟨n, K, A, hn, hF, hC, hM, hR⟩ := h.2.2.2.view
  obtain ⟨w, hw, hwC, hwM⟩ := h.way_
  unfold f81_best f181_best
  rcases per_cases a hn with ha | ⟨x, hx, rfl⟩
  · rw [perC_out hC.1 ha, perM_out hM.1 ha hn]
    exact ⟨-1, s, T, rfl, rfl, h⟩
  obtain ⟨h5, hN, hd⟩ := hF.2 x hx
  have h6 := hN.1
  have hg : f11_canGrow 8 (nI x) (1:Int32) s = some (if K x ≠ 3 ∧ (A.1 x).length + 1 ≤ 6 then 1 else 0) := canGrow_ok (k := 1) hF hC hx (by omega)
  rw [perC_in hC.1 hx hn, perM_in hM.1 hx hn, hg, rd_nI (s := T.1) (by omega), hM.2.1 x hx, lenOf_ok hn hM hx]
  simp only [bs]
  rw [if_neg (show ¬ (1:Int32) = 0 by decide), if_neg (show ¬ (1:Int32) = 0 by decide)]
  by_cases h3 : K x = 3
  · rw [if_neg (show ¬ (K x ≠ 3 ∧ (A.1 x).length + 1 ≤ 6) from fun q => q.1 h3), if_pos rfl, if_pos (by rw [h3]; decide)]
    exact ⟨_, s, T, rfl, rfl, h⟩
  rw [if_neg (show ¬ nI (K x) = (3:Int32) from fun q => h3 ((nI_eq (by omega) (by omega)).mp (show nI (K x) = nI 3 from q)))]
  by_cases hl : (A.1 x).length = 6
  · rw [if_neg (show ¬ (K x ≠ 3 ∧ (A.1 x).length + 1 ≤ 6) from fun q => by omega), if_pos rfl, if_pos (by rw [hl]; decide)]
    exact ⟨_, s, T, rfl, rfl, h⟩
  rw [if_pos (show K x ≠ 3 ∧ (A.1 x).length + 1 ≤ 6 from ⟨h3, by omega⟩), if_neg (show ¬ (1:Int32) = 0 by decide), if_neg (show ¬ nI (A.1 x).length = (6:Int32) from fun q => hl ((nI_eq (by omega) (by omega)).mp (show nI (A.1 x).length = nI 6 from q)))]
  have hlo : ∀ i, 1 ≤ i → i ≤ 26 → okN (A.1 x ++ [i]) := fun i i1 i2 => okN_app hN i1 i2 (by omega)
  have hall : ∀ i, ∃ k, 1 ≤ i → i ≤ 26 → k ≤ 6 ∧ f19_callsTillTaken 8 (nI (pack (A.1 x ++ [i]))) ((1:Int32) <<< (nI x &&& 31)) (nI w) s = some (nI k) ∧ lastP K n A.1 (fun z => decide (z = x)) w (A.1 x ++ [i]) k ∧ ∀ m, m < k → ¬ lastP K n A.1 (fun z => decide (z = x)) w (A.1 x ++ [i]) m := fun i => by
    by_cases e : 1 ≤ i ∧ i ≤ 26
    · obtain ⟨k, hk⟩ := callsTill_ok hF hC (hlo i e.1 e.2) hw (v := (1:Int32) <<< (nI x &&& 31)) (ob := fun z => decide (z = x)) (fun p => clr_set hn hx)
      exact ⟨k, fun _ _ => hk⟩
    · exact ⟨0, fun q1 q2 => absurd ⟨q1, q2⟩ e⟩
  obtain ⟨k, hk⟩ := Classical.axiomOfChoice hall
  have hk6 : ∀ i, 1 ≤ i → i ≤ 26 → k i ≤ 6 := fun i i1 i2 => (hk i i1 i2).1
  obtain ⟨e, g1, g2⟩ := lq_inv (B := f81_best_b1 (nI x) s) (P := fun i st => st = (nI (bst k i).1, bsl k i, nI (i + 1))) (Q := fun st => st = (nI (bst k 26).1, bsl k 26, nI 27)) 26 (fun i st hi hP => by
    subst hP
    unfold f81_best_b1
    simp only
    rw [if_neg (show ¬ (26:Int32) < nI (i + 1) from nI_nlt (a := 26) (by omega) (by omega)), rd_nI (by omega), (hR.1 x hx).1]
    simp only [bs]
    rw [with_ok hN (by omega) (by omega)]
    simp only [bs]
    rw [hwC, (hk (i + 1) (by omega) (by omega)).2.1, nI_1]
    simp only [bs]
    rcases bsl_step hk6 hi with ⟨q1, -, q2, q3⟩ | ⟨q1, q2, q3⟩
    · rw [if_pos q1]
      refine ⟨_, rfl, ?_⟩
      rw [q2, q3]
    · rw [if_neg q1]
      refine ⟨_, rfl, ?_⟩
      rw [q2, q3]) (fun st hP => by
    subst hP
    unfold f81_best_b1
    simp only
    rw [if_pos (by decide)]
    exact ⟨_, rfl, rfl⟩) ((1:Int32), (-1:Int32), (1:Int32)) rfl
  rw [g1, g2]
  obtain ⟨e', r1, r2⟩ := lq_inv (B := f181_best_b1 (nI x)) (P := fun i st => st.1 = (if i = 0 then -9 else nI (96 + (bst k i).1)) ∧ st.2.1 = bsl k i ∧ st.2.2.1 = nI (97 + i) ∧ (∀ j, j ≠ 26 → st.2.2.2.1 94 j = T.1 94 j) ∧ ∀ c, c ≠ 94 → c ≠ 111 → st.2.2.2.1 c = T.1 c) (Q := fun st => st.1 = nI (96 + (bst k 26).1) ∧ st.2.1 = bsl k 26 ∧ (∀ j, j ≠ 26 → st.2.2.2.1 94 j = T.1 94 j) ∧ ∀ c, c ≠ 94 → c ≠ 111 → st.2.2.2.1 c = T.1 c) 26 (fun i st hi hP => by
    obtain ⟨v2, v3, v4, U⟩ := st
    obtain ⟨p1, p2, p3, p4, p5⟩ := hP
    simp only at p1 p2 p3 p4 p5
    subst p1 p2 p3
    have hMU : MR U n K A := hM.frame (p4 8 (by decide)) (p5 101 (by decide) (by decide)) (p5 105 (by decide) (by decide))
    unfold f181_best_b1
    simp only
    rw [if_neg (show ¬ (122:Int32) < nI (97 + i) from nI_nlt (a := 122) (by omega) (by omega))]
    obtain ⟨V, k1, k2, k3⟩ := loadOne hF hMU hx (B := f181_best_b2 (nI x) (if i = 0 then -9 else nI (96 + (bst k i).1)) (bsl k i) (nI (97 + i))) (fun v U => rfl)
    have hMV : MR V n K A := hMU.frame (by rw [k3 94 (by decide)]) (k3 101 (by decide)) (k3 105 (by decide))
    rw [k1]
    simp only [bs]
    rw [lenOf_ok hn hMV hx]
    simp only [bs]
    rw [wm_nI (by omega)]
    simp only [bs]
    have hMW : MR (pv_up V.1 111 (A.1 x).length (nI (97 + i)), V.2) n K A := hMV.up (by decide) (by decide) (by omega)
    rw [lenOf_ok hn hMW hx]
    simp only [bs, pv_pm]
    have hMX : MR (pv_up (pv_up V.1 111 (A.1 x).length (nI (97 + i))) 94 26 (nI (A.1 x).length + 1), V.2) n K A := hMW.up (by decide) (by decide) (by decide)
    have hO : OneM (pv_up (pv_up V.1 111 (A.1 x).length (nI (97 + i))) 94 26 (nI (A.1 x).length + 1), V.2) (A.1 x ++ [i + 1]) := by
      refine ⟨?_, fun j hj => ?_⟩
      · show pv_up (pv_up V.1 111 (A.1 x).length (nI (97 + i))) 94 26 (nI (A.1 x).length + 1) 94 26 = _
        rw [up_at, nI_1, List.length_append]; rfl
      · rw [List.length_append] at hj
        have hj' : j < (A.1 x).length + 1 := hj
        show pv_up (pv_up V.1 111 (A.1 x).length (nI (97 + i))) 94 26 (nI (A.1 x).length + 1) 111 j = _
        rw [up_ne (by decide), getD_app]
        by_cases e : j = (A.1 x).length
        · subst e
          rw [up_at, if_neg (by omega), if_pos rfl]
          exact congrArg nI (by omega)
        · rw [up_nj e, if_pos (by omega)]
          exact k2 j (by omega)
    obtain ⟨m, W, m0, m1, m2, m3, m4⟩ := oneLasts_ok hF hMX (hlo (i + 1) (by omega) (by omega)) hO hw (by
      show pv_up (pv_up V.1 111 (A.1 x).length (nI (97 + i))) 94 26 (nI (A.1 x).length + 1) 94 9 = _
      rw [up_nj (by decide), up_ne (by decide), k3 94 (by decide), p4 9 (by decide)]; exact hwM) (ob_one hn hx)
    have hm : m = k (i + 1) := first_eq m2.1 m2.2 (hk (i + 1) (by omega) (by omega)).2.2.1 (hk (i + 1) (by omega) (by omega)).2.2.2
    rw [m1, hm]
    simp only [bs]
    have f94 : ∀ j, j ≠ 26 → W.1 94 j = T.1 94 j := fun j hj => by
      rw [m3 j hj]
      show pv_up (pv_up V.1 111 _ _) 94 26 _ 94 j = _
      rw [up_nj hj, up_ne (by decide), k3 94 (by decide), p4 j hj]
    have fc : ∀ c, c ≠ 94 → c ≠ 111 → W.1 c = T.1 c := fun c c1 c2 => by
      rw [m4 c c1 c2]
      show pv_up (pv_up V.1 111 _ _) 94 26 _ c = _
      rw [up_ne c1, up_ne c2, k3 c c2, p5 c c1 c2]
    rcases bsl_step hk6 hi with ⟨q1, q0, q2, q3⟩ | ⟨q1, q2, q3⟩
    · rw [if_pos q1, if_pos q1]
      simp only [bs]
      refine ⟨_, rfl, ?_, ?_, ?_, f94, fc⟩
      · simp only
        rw [if_neg q0, if_neg (by omega), q2]
      · simp only
        rw [q3]
      · simp only
        exact nI_1 (97 + i)
    · rw [if_neg q1, if_neg q1]
      simp only [bs]
      refine ⟨_, rfl, ?_, ?_, ?_, f94, fc⟩
      · simp only
        rw [if_neg (show ¬ i + 1 = 0 by omega), q2]
        exact congrArg nI (by simp only; omega)
      · simp only
        rw [q3]
      · simp only
        exact nI_1 (97 + i)) (fun st hP => by
    obtain ⟨v2, v3, v4, U⟩ := st
    obtain ⟨p1, p2, p3, p4, p5⟩ := hP
    simp only at p1 p2 p3 p4 p5
    subst p1 p2 p3
    unfold f181_best_b1
    simp only
    rw [if_pos (show (122:Int32) < nI (97 + 26) by decide)]
    refine ⟨_, rfl, ?_, rfl, p4, p5⟩
    simp only
    rw [if_neg (show ¬ (26:Nat) = 0 by decide)]) ((-9:Int32), (-1:Int32), (97:Int32), T) ⟨rfl, rfl, rfl, fun _ _ => rfl, fun _ _ _ => rfl⟩
  rw [r1]
  obtain ⟨v2, v3, v4, U⟩ := e'
  obtain ⟨y1, y2, y3, y4⟩ := r2
  simp only at y1 y2 y3 y4
  subst y1 y2
  unfold f116_ask
  simp only [bs, pv_pm, pv_pf]
  refine ⟨_, _, _, rfl, by rw [show (96:Int32) = nI 96 from by decide, nI_add], ?_⟩
  refine Inv.aside (h.tell (bsl k 26)) (fun a ha => rfl) (fun c hc => ?_) (fun i hi => ?_) (fun j hj => ?_)
  · rw [upT (by omega), upT (by omega), y4 c (by omega) (by omega)]
  · rw [upT (by decide), upT (by decide), y4 105 (by decide) (by decide)]
  · by_cases e2 : j = 2
    · subst e2; rw [upTa, upTa]
    · rw [upTj e2, upTj e2, y3 j (by omega)]
