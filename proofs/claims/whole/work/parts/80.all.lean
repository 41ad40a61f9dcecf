/-! UNLIKE, FIRST: all come -/
theorem from_ok {s : pv_F} {n : Nat} {K : Nat → Nat} {nm : Nat → List Nat} {du : Nat → Nat} (hn : n ≤ 7) (h : FC s 8 n K nm du) (w : Int32) : ∃ s', f33_from 8 w s = some s' ∧ FC s' 45 n K nm du ∧ s' 40 4 = w ∧ s' 40 5 = 0 ∧ s' 40 6 = 1000 ∧ s' 40 7 = 0 ∧ s' 40 8 = -9 ∧ (∀ i, i < 4 → s' 44 i = 0) ∧ ∀ a, a ≠ 40 → (a < 44 ∨ 48 < a) → s' a = s a := by
  unfold f33_from
  simp only [pv_pf, bs]
  obtain ⟨S, hS⟩ : ∃ S : pv_F, S = pv_up (pv_up (pv_up (pv_up (pv_up s 40 4 w) 40 5 0) 40 6 1000) 40 7 0) 40 8 (-9) := ⟨_, rfl⟩
  rw [← hS]
  have S4 : S 40 4 = w := by rw [hS, up_nj (by decide), up_nj (by decide), up_nj (by decide), up_nj (by decide), up_at]
  have S5 : S 40 5 = 0 := by rw [hS, up_nj (by decide), up_nj (by decide), up_nj (by decide), up_at]
  have S6 : S 40 6 = 1000 := by rw [hS, up_nj (by decide), up_nj (by decide), up_at]
  have S7 : S 40 7 = 0 := by rw [hS, up_nj (by decide), up_at]
  have S8 : S 40 8 = -9 := by rw [hS, up_at]
  have So : ∀ a, a ≠ 40 → S a = s a := fun a ha => by rw [hS, up_ne ha, up_ne ha, up_ne ha, up_ne ha, up_ne ha]
  clear hS
  obtain ⟨e, h1, h2⟩ := lq_inv (B := f33_from_b1 8) (P := fun i st => st.1 = nI i ∧ (∀ j, j < i → st.2 44 j = 0) ∧ ∀ a, a ≠ 44 → st.2 a = S a) (Q := fun st => (∀ j, j < 4 → st.2 44 j = 0) ∧ ∀ a, a ≠ 44 → st.2 a = S a) 4 (fun i st hi hP => by
    obtain ⟨v, U⟩ := st
    obtain ⟨p1, p2, p3⟩ := hP
    simp only at p1 p2 p3
    subst p1
    unfold f33_from_b1
    simp only
    rw [if_neg (show ¬ (4:Int32) ≤ nI i from nI_ge (b := 4) hi (by omega)), wr_nI hi, nI_1]
    simp only [bs]
    refine ⟨_, rfl, rfl, fun j hj => ?_, fun a ha => ?_⟩
    · simp only
      by_cases e : j = i
      · subst e; rw [up_at]
      · rw [up_nj e]; exact p2 j (by omega)
    · simp only
      rw [up_ne ha]; exact p3 a ha) (fun st hP => by
    obtain ⟨v, U⟩ := st
    obtain ⟨p1, p2, p3⟩ := hP
    simp only at p1 p2 p3
    subst p1
    unfold f33_from_b1
    simp only
    rw [if_pos (by decide)]
    exact ⟨_, rfl, p2, p3⟩) ((0:Int32), S) ⟨nI_0.symm, fun j hj => by omega, fun a ha => rfl⟩
  rw [h1]
  obtain ⟨v, U⟩ := e
  obtain ⟨q1, q2⟩ := h2
  simp only at q1 q2
  simp only [bs]
  have hU : FC U 8 n K nm du := by
    refine ⟨by rw [q2 8 (by decide), So 8 (by decide)]; exact h.1, fun x hx => ?_⟩
    rw [q2 (8 + 1) (by decide), q2 (8 + 2) (by decide), q2 (8 + 3) (by decide), So (8 + 1) (by decide), So (8 + 2) (by decide), So (8 + 3) (by decide)]
    exact h.2 x hx
  obtain ⟨V, v1, v2, v3⟩ := take_ok (o := 45) hn hU (by omega)
  rw [v1]
  have V40 : V 40 = S 40 := by rw [v3 40 (by omega) (by omega) (by omega) (by omega), q2 40 (by decide)]
  refine ⟨V, rfl, v2, by rw [V40]; exact S4, by rw [V40]; exact S5, by rw [V40]; exact S6, by rw [V40]; exact S7, by rw [V40]; exact S8, fun i hi => by rw [v3 44 (by omega) (by omega) (by omega) (by omega)]; exact q1 i hi, fun a a1 a2 => ?_⟩
  rw [v3 a (by omega) (by omega) (by omega) (by omega), q2 a (by omega), So a a1]
theorem FC.congr {s : pv_F} {o n : Nat} {K : Nat → Nat} {nm nm' : Nat → List Nat} {du du' : Nat → Nat} (h : FC s o n K nm du) (e : ∀ x, x < n → nm x = nm' x ∧ du x = du' x) : FC s o n K nm' du' := by
  refine ⟨h.1, fun x hx => ?_⟩
  rw [← (e x hx).1, ← (e x hx).2]
  exact h.2 x hx
theorem FC.frame {s s' : pv_F} {o n : Nat} {K : Nat → Nat} {nm : Nat → List Nat} {du : Nat → Nat} (h : FC s o n K nm du) (e : ∀ a, o ≤ a ∧ a ≤ o + 3 → s' a = s a) : FC s' o n K nm du := by
  refine ⟨by rw [e o (by omega)]; exact h.1, fun x hx => ?_⟩
  rw [e (o + 1) (by omega), e (o + 2) (by omega), e (o + 3) (by omega)]
  exact h.2 x hx
theorem MR.congr {T : pv_T} {n : Nat} {K : Nat → Nat} {A A' : TS} (h : MR T n K A) (e : ∀ x, x < n → A.1 x = A'.1 x ∧ A.2.1 x = A'.2.1 x) (e2 : A.2.2 = A'.2.2) : MR T n K A' := by
  refine ⟨h.1, h.2.1, fun x hx => ?_, by rw [← e2]; exact h.2.2.2⟩
  rw [← (e x hx).1, ← (e x hx).2, ← e2]
  exact h.2.2.1 x hx
theorem MR.frame {T T' : pv_T} {n : Nat} {K : Nat → Nat} {A : TS} (h : MR T n K A) (h8 : T'.1 94 8 = T.1 94 8) (h1 : T'.1 101 = T.1 101) (h2 : T'.1 105 = T.1 105) : MR T' n K A := by
  refine ⟨by rw [h8]; exact h.1, fun x hx => by rw [h1]; exact h.2.1 x hx, by rw [h2]; exact h.2.2⟩
def alN (K : Nat → Nat) (w : Nat) (nm : Nat → List Nat) (du : Nat → Nat) (k : Nat) : Nat → List Nat := fun y => if K y = 3 then nm y else (cmN K w y (nm y) (du y) k).1
def alD (K : Nat → Nat) (w : Nat) (nm : Nat → List Nat) (du : Nat → Nat) (k : Nat) : Nat → Nat := fun y => if K y = 3 then du y else (cmN K w y (nm y) (du y) k).2
theorem okF_al {n : Nat} {K : Nat → Nat} {nm : Nat → List Nat} {du : Nat → Nat} (hF : okF n K nm du) (w k : Nat) : okF n K (alN K w nm du k) (alD K w nm du k) := by
  refine ⟨hF.1, fun x hx => ⟨(hF.2 x hx).1, ?_, ?_⟩⟩
  · unfold alN
    split
    · exact (hF.2 x hx).2.1
    · exact (cmN_ok K w x (hF.2 x hx).2.1 (hF.2 x hx).2.2 k).1
  · unfold alD
    split
    · exact (hF.2 x hx).2.2
    · exact (cmN_ok K w x (hF.2 x hx).2.1 (hF.2 x hx).2.2 k).2
theorem al_0 (K : Nat → Nat) (w : Nat) (nm : Nat → List Nat) (du : Nat → Nat) : alN K w nm du 0 = nm ∧ alD K w nm du 0 = du := by
  constructor
  · funext y
    unfold alN
    split <;> rfl
  · funext y
    unfold alD
    split <;> rfl
theorem wearAll_ok {s : pv_F} {o n : Nat} {K : Nat → Nat} {nm : Nat → List Nat} {du : Nat → Nat} (hF : okF n K nm du) (h : FC s o n K nm du) {w k : Nat} (hw : w ≤ 2) (hk : k ≤ 100) : ∃ s', f17_wearAll o (nI k) (nI w) s = some s' ∧ FC s' o n K (alN K w nm du k) (alD K w nm du k) ∧ ∀ c, c ≠ o + 2 → c ≠ o + 3 → s' c = s c := by
  have h7 := hF.1
  unfold f17_wearAll
  rw [bits_loop (n := n) (fun x => decide (K x ≠ 3)) h7 (fun j a hj => ?_) (fun a => ?_)]
  · simp only [bs]
    have h128 := bits_128 (fun x => decide (K x ≠ 3)) h7
    obtain ⟨e, h1, h2⟩ := lq_inv (B := f17_wearAll_b2 o (nI k) (nI w) (nI (bits (fun x => decide (K x ≠ 3)) n))) (P := fun i st => st.1 = nI i ∧ FC st.2 o n K (alN K w nm du i) (alD K w nm du i) ∧ ∀ c, c ≠ o + 2 → c ≠ o + 3 → st.2 c = s c) (Q := fun st => FC st.2 o n K (alN K w nm du k) (alD K w nm du k) ∧ ∀ c, c ≠ o + 2 → c ≠ o + 3 → st.2 c = s c) k (fun i st hi hP => by
      obtain ⟨v, U⟩ := st
      obtain ⟨p1, p2, p3⟩ := hP
      simp only at p1 p2 p3
      subst p1
      unfold f17_wearAll_b2
      simp only
      rw [if_neg (nI_ge hi (by omega)), nI_1]
      obtain ⟨V, v1, v2, v3⟩ := wearC_ok (okF_al hF w i) p2 hw (a := bits (fun x => decide (K x ≠ 3)) n) (by omega)
      rw [v1]
      refine ⟨_, rfl, rfl, v2.congr (fun x hx => ?_), fun c c1 c2 => by rw [← p3 c c1 c2]; exact v3 c c1 c2⟩
      unfold wrN wrD
      rw [bits_bit]
      unfold alN alD
      by_cases e3 : K x = 3
      · rw [if_neg (fun q => by by_cases hp : x < n ∧ decide (K x ≠ 3) = true; exact (of_decide_eq_true hp.2) e3; rw [if_neg hp] at q; omega), if_pos e3, if_pos e3]
        rw [if_neg (fun q => by by_cases hp : x < n ∧ decide (K x ≠ 3) = true; exact (of_decide_eq_true hp.2) e3; rw [if_neg hp] at q; omega), if_pos e3, if_pos e3]
        exact ⟨rfl, rfl⟩
      · rw [if_pos (if_pos ⟨hx, decide_eq_true e3⟩), if_neg e3, if_neg e3, if_neg e3, if_pos (if_pos ⟨hx, decide_eq_true e3⟩), if_neg e3]
        exact ⟨rfl, rfl⟩) (fun st hP => by
      obtain ⟨v, U⟩ := st
      obtain ⟨p1, p2, p3⟩ := hP
      simp only at p1 p2 p3
      subst p1
      unfold f17_wearAll_b2
      simp only
      rw [if_pos (nI_le (by omega) (by omega))]
      exact ⟨_, rfl, p2, p3⟩) ((0:Int32), s) ⟨nI_0.symm, by
        rw [(al_0 K w nm du).1, (al_0 K w nm du).2]; exact h, fun c c1 c2 => rfl⟩
    rw [h1]
    obtain ⟨v, U⟩ := e
    exact ⟨U, rfl, h2⟩
  · unfold f17_wearAll_b1
    simp only
    rw [h.1, if_neg (nI_ge hj (by omega)), lives_ok hF h hj]
    simp only [bs, nI_1]
    by_cases e3 : K j = 3
    · rw [if_pos e3, if_pos rfl]
      simp [e3]
    · rw [if_neg e3, if_neg (by decide)]
      simp [e3]
  · unfold f17_wearAll_b1
    simp only
    rw [h.1, if_pos (nI_le (by omega) (by omega))]
theorem bits_mod (p : Nat → Bool) {x : Nat} : ∀ n, x ≤ n → bits p n % 2 ^ x = bits p x := by
  intro n
  induction n with
  | zero =>
    intro h
    obtain rfl : x = 0 := by omega
    rfl
  | succ n ih =>
    intro h
    by_cases e : x = n + 1
    · subst e
      exact Nat.mod_eq_of_lt (bits_lt p _)
    · rw [← ih (by omega)]
      obtain ⟨m, rfl⟩ : ∃ m, n = x + m := ⟨n - x, by omega⟩
      show (bits p (x + m) + if p (x + m) = true then 2 ^ (x + m) else 0) % 2 ^ x = _
      have e : (if p (x + m) = true then 2 ^ (x + m) else 0) = 2 ^ x * (if p (x + m) = true then 2 ^ m else 0) := by
        split
        · rw [Nat.pow_add]
        · simp
      rw [e, Nat.add_mul_mod_self_left]
def likeB (K : Nat → Nat) (nm : Nat → List Nat) (x y : Nat) : Bool := decide (K y ≠ 3) && decide (nm y = nm x)
def freshB (K : Nat → Nat) (nm : Nat → List Nat) (x : Nat) : Bool := decide (K x ≠ 3) && decide (nm x ≠ []) && decide (bits (likeB K nm x) x = 0)
theorem unlikeC_ok {s : pv_F} {o n : Nat} {K : Nat → Nat} {nm : Nat → List Nat} {du : Nat → Nat} (hF : okF n K nm du) (h : FC s o n K nm du) : f22_unlikeNames o s = some (nI (sumN (fun x => if freshB K nm x = true then 1 else 0) n)) := by
  have h7 := hF.1
  unfold f22_unlikeNames
  rw [sum_loop (n := n) (fun x => if freshB K nm x = true then 1 else 0) (by omega) (fun k a hk => ?_) (fun a => ?_)]
  · simp only [bs]
  · have hN := (hF.2 k hk).2.1
    have hb : bits (fun y => decide (K y ≠ 3) && decide (nm y = nm k)) n = bits (likeB K nm k) n := rfl
    have h128 := bits_128 (likeB K nm k) h7
    have hl := bits_lt (likeB K nm k) k
    have hp : 2 ^ k ≤ 2 ^ 7 := Nat.pow_le_pow_right (by omega) (by omega)
    unfold f22_unlikeNames_b1
    simp only
    rw [h.1, if_neg (nI_ge hk (by omega)), rd_nI (by omega), (h.2 k hk).2.1]
    simp only [bs]
    rw [named_ok hF h hN, lives_ok hF h hk, hb]
    simp only [bs]
    rw [sub1_mask (by omega), pk_andN (by omega) k (pk_tn (by omega)), bits_mod _ n (by omega)]
    have e0 : (nI (bits (likeB K nm k) k) = 0) = (bits (likeB K nm k) k = 0) := propext ⟨fun q => (nI_eq (by omega) (by omega)).mp (q.trans nI_0.symm), fun q => by rw [q]; exact nI_0⟩
    have e1 : (nI (pack (nm k)) = 0) = (nm k = []) := propext (pack_0 hN)
    simp only [e0, e1, nI_1]
    unfold freshB
    by_cases c1 : K k = 3 <;> by_cases c2 : nm k = [] <;> by_cases c3 : bits (likeB K nm k) k = 0 <;> simp [c1, c2, c3, nI_1]
  · unfold f22_unlikeNames_b1
    simp only
    rw [h.1, if_pos (nI_le (by omega) (by omega))]
/-! the model -/
theorem livingM_ok {T : pv_T} {n : Nat} {K : Nat → Nat} {A : TS} (hF : okT n K A) (hM : MR T n K A) : f175_living T = some (nI (sumN (fun x => if K x = 3 then 0 else 1) n)) := by
  have h7 := hF.1
  unfold f175_living
  rw [sum_loop (n := n) (fun x => if K x = 3 then 0 else 1) (by omega) (fun k a hk => ?_) (fun a => ?_)]
  · simp only [bs]
  · have h5 := (hF.2 k hk).1
    unfold f175_living_b1
    simp only
    rw [hM.1, if_neg (nI_ge hk (by omega)), rd_nI (by omega), hM.2.1 k hk]
    simp only [bs]
    by_cases e : K k = 3
    · rw [if_pos (by rw [e]; decide), if_pos e]
      simp only [bs, nI_1, Nat.add_zero, Int32.add_zero]
    · rw [if_neg (show ¬ nI (K k) = (3:Int32) from fun q => e ((nI_eq (by omega) (by omega)).mp (show nI (K k) = nI 3 from q))), if_neg e]
      simp only [bs, nI_1]
  · unfold f175_living_b1
    simp only
    rw [hM.1, if_pos (nI_le (by omega) (by omega))]
theorem freshM_ok {T : pv_T} {n : Nat} {K : Nat → Nat} {A : TS} (hF : okT n K A) (hM : MR T n K A) {x : Nat} (hx : x < n) (c : Bool) (v1 : Int32) : pv_lq (f173_unlikeNow_b2 v1 (nI x) T) 20000 ((if c then (1:Int32) else 0), (0:Int32)) = some ((if c && decide (bits (likeB K A.1 x) x = 0) then (1:Int32) else 0), nI x) := by
  have h7 := hF.1
  obtain ⟨e, h1, h2⟩ := lq_inv (B := f173_unlikeNow_b2 v1 (nI x) T) (P := fun i st => st = ((if c && decide (bits (likeB K A.1 x) i = 0) then (1:Int32) else 0), nI i)) (Q := fun st => st = ((if c && decide (bits (likeB K A.1 x) x = 0) then (1:Int32) else 0), nI x)) x (fun i st hi hP => by
    subst hP
    have hin : i < n := by omega
    have h5 := (hF.2 i hin).1
    unfold f173_unlikeNow_b2
    simp only
    rw [if_neg (nI_ge hi (by omega)), nI_1]
    have hb : bits (likeB K A.1 x) (i + 1) = bits (likeB K A.1 x) i + if likeB K A.1 x i = true then 2 ^ i else 0 := rfl
    have hp := Nat.two_pow_pos i
    by_cases hc : (c && decide (bits (likeB K A.1 x) i = 0)) = true
    · rw [if_pos hc, if_neg (show ¬ (1:Int32) = 0 by decide), rd_nI (by omega), hM.2.1 i hin]
      simp only [bs]
      obtain ⟨c1, c2⟩ := Bool.and_eq_true_iff.mp hc
      have c2 := of_decide_eq_true c2
      by_cases e3 : K i = 3
      · rw [if_pos (by rw [e3]; decide)]
        simp only [bs]
        refine ⟨_, rfl, ?_⟩
        have : likeB K A.1 x i = false := by unfold likeB; simp [e3]
        rw [hb, c2, this, c1]
        rfl
      · rw [if_neg (show ¬ nI (K i) = (3:Int32) from fun q => e3 ((nI_eq (by omega) (by omega)).mp (show nI (K i) = nI 3 from q))), isLike_ok hF hM hx hin]
        simp only [bs]
        by_cases e4 : A.1 x = A.1 i
        · rw [if_pos e4, if_neg (show ¬ (1:Int32) = 0 by decide)]
          simp only [bs]
          refine ⟨_, rfl, ?_⟩
          have : likeB K A.1 x i = true := by unfold likeB; simp [e3, e4]
          rw [hb, c2, this, if_pos rfl, if_neg (fun q => by have := of_decide_eq_true (Bool.and_eq_true_iff.mp q).2; omega)]
        · rw [if_neg e4, if_pos rfl]
          simp only [bs]
          refine ⟨_, rfl, ?_⟩
          have : likeB K A.1 x i = false := by unfold likeB; simp [Ne.symm e4]
          rw [hb, c2, this, c1]
          rfl
    · rw [if_neg hc, if_pos rfl]
      simp only [bs]
      refine ⟨_, rfl, ?_⟩
      rw [if_neg (fun q => hc (by
        obtain ⟨q1, q2⟩ := Bool.and_eq_true_iff.mp q
        have q2 := of_decide_eq_true q2
        rw [hb] at q2
        exact Bool.and_eq_true_iff.mpr ⟨q1, decide_eq_true (by omega)⟩))]) (fun st hP => by
    subst hP
    unfold f173_unlikeNow_b2
    simp only
    rw [if_pos (nI_le (by omega) (by omega))]
    exact ⟨_, rfl, rfl⟩) ((if c then (1:Int32) else 0), (0:Int32)) (by
    show _ = ((if c && decide (bits (likeB K A.1 x) 0 = 0) then (1:Int32) else 0), nI 0)
    cases c <;> rfl)
  rw [h1, h2]
theorem unlikeNow_ok {T : pv_T} {n : Nat} {K : Nat → Nat} {A : TS} (hF : okT n K A) (hM : MR T n K A) : ∃ T', f173_unlikeNow T = some (nI (sumN (fun x => if freshB K A.1 x = true then 1 else 0) n), T') ∧ T'.1 94 24 = nI (sumN (fun x => if nlB K A.1 x = true then 1 else 0) n) ∧ (∀ j, j ≠ 24 → T'.1 94 j = T.1 94 j) ∧ ∀ c, c ≠ 94 → T'.1 c = T.1 c := by
  have h7 := hF.1
  unfold f173_unlikeNow
  simp only [pv_pm, bs]
  obtain ⟨e, h1, h2⟩ := lq_inv (B := f173_unlikeNow_b1) (P := fun i st => st.1 = nI (sumN (fun x => if freshB K A.1 x = true then 1 else 0) i) ∧ st.2.1 = nI i ∧ st.2.2.1 94 24 = nI (sumN (fun x => if nlB K A.1 x = true then 1 else 0) i) ∧ (∀ j, j ≠ 24 → st.2.2.1 94 j = T.1 94 j) ∧ ∀ c, c ≠ 94 → st.2.2.1 c = T.1 c) (Q := fun st => st.1 = nI (sumN (fun x => if freshB K A.1 x = true then 1 else 0) n) ∧ st.2.2.1 94 24 = nI (sumN (fun x => if nlB K A.1 x = true then 1 else 0) n) ∧ (∀ j, j ≠ 24 → st.2.2.1 94 j = T.1 94 j) ∧ ∀ c, c ≠ 94 → st.2.2.1 c = T.1 c) n (fun i st hi hP => by
    obtain ⟨v, u, U⟩ := st
    obtain ⟨p1, p2, p3, p4, p5⟩ := hP
    simp only at p1 p2 p3 p4 p5
    subst p1 p2
    have h5 := (hF.2 i hi).1
    have h6 := (hF.2 i hi).2.1.1
    have hMU : MR U n K A := hM.frame (p4 8 (by decide)) (p5 101 (by decide)) (p5 105 (by decide))
    unfold f173_unlikeNow_b1
    simp only
    rw [hMU.1, if_neg (nI_ge hi (by omega)), rd_nI (by omega), hMU.2.1 i hi, lenOf_ok h7 hMU hi, p3, nI_1]
    simp only [bs]
    have t6 : ((if nI (K i) = (3:Int32) then some (0:Int32) else some 1) : Option Int32) = some (if decide (K i ≠ 3) then 1 else 0) := by
      by_cases e : K i = 3
      · rw [if_pos (by rw [e]; decide)]; simp [e]
      · rw [if_neg (show ¬ nI (K i) = (3:Int32) from fun q => e ((nI_eq (by omega) (by omega)).mp (show nI (K i) = nI 3 from q)))]; simp [e]
    rw [t6]
    simp only [bs]
    have t7 : ((if (if decide (K i ≠ 3) then (1:Int32) else 0) = 0 then some (0:Int32) else if nI (A.1 i).length ≤ 0 then some 0 else some 1) : Option Int32) = some (if (decide (K i ≠ 3) && decide (A.1 i ≠ [])) then 1 else 0) := by
      by_cases e : K i = 3
      · simp [e]
      · by_cases e2 : A.1 i = []
        · simp [e, e2, show nI 0 ≤ (0:Int32) from by decide]
        · simp only [e, e2, ne_eq, not_false_eq_true, decide_true, Bool.and_true, if_true]
          rw [if_neg (show ¬ (1:Int32) = 0 by decide), if_neg (nI_nle (List.length_pos_iff.mpr e2) (by omega))]
    have t8 : ((if (if decide (K i ≠ 3) then (1:Int32) else 0) = 0 then some (0:Int32) else if nI (A.1 i).length = 0 then some 1 else some 0) : Option Int32) = some (nI (if nlB K A.1 i = true then 1 else 0)) := by
      unfold nlB
      by_cases e : K i = 3
      · simp [e]; rfl
      · by_cases e2 : A.1 i = []
        · simp only [e, e2, ne_eq, not_false_eq_true, decide_true, Bool.and_true, if_true]
          rw [if_neg (show ¬ (1:Int32) = 0 by decide), if_pos (show nI [].length = 0 from nI_0)]; rfl
        · simp only [e, e2, ne_eq, not_false_eq_true, decide_true, decide_false, Bool.and_false, if_true]
          rw [if_neg (show ¬ (1:Int32) = 0 by decide), if_neg (nI_ne0 (List.length_pos_iff.mpr e2) (by omega))]; rfl
    rw [t7, t8]
    simp only [bs, pv_pm]
    obtain ⟨V, hV⟩ : ∃ V : pv_T, V = (pv_up U.1 94 24 (nI (sumN (fun x => if nlB K A.1 x = true then 1 else 0) i) + nI (if nlB K A.1 i = true then 1 else 0)), U.2) := ⟨_, rfl⟩
    rw [← hV]
    have V1 : ∀ j, j ≠ 24 → V.1 94 j = T.1 94 j := fun j hj => by rw [hV, upTj hj]; exact p4 j hj
    have V2 : ∀ c, c ≠ 94 → V.1 c = T.1 c := fun c hc => by rw [hV, upT hc]; exact p5 c hc
    have V3 : V.1 94 24 = nI (sumN (fun x => if nlB K A.1 x = true then 1 else 0) (i + 1)) := by rw [hV, upTa, nI_add]; rfl
    clear hV
    have hMV : MR V n K A := hM.frame (V1 8 (by decide)) (V2 101 (by decide)) (V2 105 (by decide))
    rw [freshM_ok hF hMV hi]
    simp only [bs]
    have hfr : ((decide (K i ≠ 3) && decide (A.1 i ≠ [])) && decide (bits (likeB K A.1 i) i = 0)) = freshB K A.1 i := rfl
    rw [hfr]
    have t24 : ((if (if freshB K A.1 i = true then (1:Int32) else 0) = 0 then some (0:Int32) else some 1) : Option Int32) = some (nI (if freshB K A.1 i = true then 1 else 0)) := by
      by_cases e : freshB K A.1 i = true
      · rw [if_pos e, if_neg (show ¬ (1:Int32) = 0 by decide), if_pos e]; rfl
      · rw [if_neg e, if_pos rfl, if_neg e]; rfl
    rw [t24]
    simp only [bs]
    rw [nI_add]
    exact ⟨_, rfl, rfl, rfl, V3, V1, V2⟩) (fun st hP => by
    obtain ⟨v, u, U⟩ := st
    obtain ⟨p1, p2, p3, p4, p5⟩ := hP
    simp only at p1 p2 p3 p4 p5
    subst p1 p2
    unfold f173_unlikeNow_b1
    simp only
    rw [p4 8 (by decide), hM.1, if_pos (nI_le (by omega) (by omega))]
    exact ⟨_, rfl, rfl, p3, p4, p5⟩) ((0:Int32), (0:Int32), (pv_up T.1 94 24 0, T.2)) ⟨nI_0.symm, nI_0.symm, upTa.trans nI_0.symm, fun j hj => upTj hj, fun c hc => upT hc⟩
  rw [h1]
  obtain ⟨v, u, U⟩ := e
  obtain ⟨q1, q2⟩ := h2
  simp only at q1 q2
  subst q1
  exact ⟨U, rfl, q2⟩
def alA (K : Nat → Nat) (w : Nat) (A : TS) (k : Nat) : TS := (alN K w A.1 A.2.1 k, alD K w A.1 A.2.1 k, A.2.2)
theorem okT_al {n : Nat} {K : Nat → Nat} {A : TS} (hF : okT n K A) (w k : Nat) : okT n K (alA K w A k) := okF_al hF w k
theorem comeAll_ok {T : pv_T} {n : Nat} {K : Nat → Nat} {A : TS} (hF : okT n K A) (hM : MR T n K A) {w : Nat} (hw : w ≤ 2) (hT : T.1 94 9 = nI w) : ∃ T', f172_comeAll T = some T' ∧ MR T' n K (alA K w A 1) ∧ ∀ c, c ≠ 105 → T'.1 c = T.1 c := by
  have h7 := hF.1
  unfold f172_comeAll
  obtain ⟨e, h1, h2⟩ := lq_inv (B := f172_comeAll_b1) (P := fun i st => st.1 = nI i ∧ MR st.2 n K (fun y => if y < i then alN K w A.1 A.2.1 1 y else A.1 y, fun y => if y < i then alD K w A.1 A.2.1 1 y else A.2.1 y, A.2.2) ∧ ∀ c, c ≠ 105 → st.2.1 c = T.1 c) (Q := fun st => MR st.2 n K (alA K w A 1) ∧ ∀ c, c ≠ 105 → st.2.1 c = T.1 c) n (fun i st hi hP => by
    obtain ⟨v, U⟩ := st
    obtain ⟨p1, p2, p3⟩ := hP
    simp only at p1 p2 p3
    subst p1
    have h5 := (hF.2 i hi).1
    have hok := okF_al hF w 1
    have hFi : okT n K (fun y => if y < i then alN K w A.1 A.2.1 1 y else A.1 y, fun y => if y < i then alD K w A.1 A.2.1 1 y else A.2.1 y, A.2.2) := by
      refine ⟨h7, fun x hx => ⟨(hF.2 x hx).1, ?_, ?_⟩⟩
      · simp only
        split
        · exact (hok.2 x hx).2.1
        · exact (hF.2 x hx).2.1
      · simp only
        split
        · exact (hok.2 x hx).2.2
        · exact (hF.2 x hx).2.2
    unfold f172_comeAll_b1
    simp only
    rw [p2.1, if_neg (nI_ge hi (by omega)), rd_nI (by omega), p2.2.1 i hi, nI_1]
    simp only [bs]
    by_cases e3 : K i = 3
    · rw [if_pos (by rw [e3]; decide)]
      simp only [bs]
      refine ⟨_, rfl, rfl, p2.congr (fun y hy => ?_) rfl, p3⟩
      simp only
      by_cases e : y = i
      · subst e
        rw [if_neg (Nat.lt_irrefl y), if_pos (by omega), if_neg (Nat.lt_irrefl y), if_pos (by omega)]
        unfold alN alD
        rw [if_pos e3, if_pos e3]
        exact ⟨rfl, rfl⟩
      · by_cases e2 : y < i
        · rw [if_pos e2, if_pos (by omega), if_pos e2, if_pos (by omega)]; exact ⟨rfl, rfl⟩
        · rw [if_neg e2, if_neg (by omega), if_neg e2, if_neg (by omega)]; exact ⟨rfl, rfl⟩
    · rw [if_neg (show ¬ nI (K i) = (3:Int32) from fun q => e3 ((nI_eq (by omega) (by omega)).mp (show nI (K i) = nI 3 from q)))]
      obtain ⟨V, v1, v2, v3⟩ := comeMR hFi p2 hi hw (by rw [p3 94 (by decide)]; exact hT)
      rw [v1]
      simp only [bs]
      refine ⟨_, rfl, rfl, v2.congr (fun y hy => ?_) rfl, fun c hc => by rw [← p3 c hc]; exact v3 c hc⟩
      unfold setP
      simp only
      by_cases e : y = i
      · subst e
        rw [if_pos rfl, if_pos rfl, if_neg (Nat.lt_irrefl y), if_neg (Nat.lt_irrefl y), if_pos (by omega), if_pos (by omega)]
        unfold alN alD
        rw [if_neg e3, if_neg e3]
        exact ⟨rfl, rfl⟩
      · rw [if_neg e, if_neg e]
        by_cases e2 : y < i
        · rw [if_pos e2, if_pos (by omega), if_pos e2, if_pos (by omega)]; exact ⟨rfl, rfl⟩
        · rw [if_neg e2, if_neg (by omega), if_neg e2, if_neg (by omega)]; exact ⟨rfl, rfl⟩) (fun st hP => by
    obtain ⟨v, U⟩ := st
    obtain ⟨p1, p2, p3⟩ := hP
    simp only at p1 p2 p3
    subst p1
    unfold f172_comeAll_b1
    simp only
    rw [p2.1, if_pos (nI_le (by omega) (by omega))]
    refine ⟨_, rfl, p2.congr (fun y hy => ?_) rfl, p3⟩
    simp only
    rw [if_pos hy, if_pos hy]
    exact ⟨rfl, rfl⟩) ((0:Int32), T) ⟨nI_0.symm, hM.congr (fun y hy => by
    simp only
    rw [if_neg (by omega), if_neg (by omega)]
    exact ⟨rfl, rfl⟩) rfl, fun c hc => rfl⟩
  rw [h1]
  obtain ⟨v, U⟩ := e
  exact ⟨U, rfl, h2⟩
theorem al_succ (K : Nat → Nat) (w : Nat) (A : TS) (k y : Nat) : (alA K w (alA K w A k) 1).1 y = (alA K w A (k + 1)).1 y ∧ (alA K w (alA K w A k) 1).2.1 y = (alA K w A (k + 1)).2.1 y := by
  unfold alA alN alD
  simp only
  by_cases e : K y = 3
  · simp [e]
  · simp only [e, if_false]
    exact ⟨rfl, rfl⟩
theorem op24 : OP24 Inv := by
  intro a s T h
  obtain ⟨n, K, A, hn, hF, hC, hM, hR⟩ := h.2.2.2.view
  obtain ⟨w, hw, hwC, hwM⟩ := h.way_
  unfold f78_unlike f174_unlike
  rw [in_eq]
  rcases pk_ix a (n := 13) (by omega) with ha | ha | ⟨k, hk, rfl⟩
  · rw [if_pos ha, if_pos ha]
    exact ⟨-1, s, T, rfl, rfl, h⟩
  · obtain ⟨c1, -, c3, c4⟩ := cmp_big ha (by omega)
    rw [if_neg c1, if_neg c1, if_neg (show ¬ a ≤ (12:Int32) from (c3 12 (by omega)).1), if_pos (show (12:Int32) < a from (c3 12 (by omega)).2)]
    exact ⟨-1, s, T, rfl, rfl, h⟩
  rw [if_neg (nI_pos (by omega)), if_neg (nI_pos (by omega)), if_pos (show nI k ≤ (12:Int32) from nI_le (b := 12) (by omega) (by omega)), if_neg (show ¬ (12:Int32) < nI k from nI_nlt (a := 12) (by omega) (by omega)), hwC]
  simp only [bs]
  rw [if_neg (show ¬ (1:Int32) = 0 by decide)]
  obtain ⟨s1, e1, g1, -, -, -, -, -, -, f1⟩ := from_ok hn hC (nI w)
  rw [e1]
  simp only [bs]
  rw [f1 0 (by omega) (by omega), hwC]
  obtain ⟨s2, e2, g2, f2⟩ := wearAll_ok hF g1 (k := k) hw (by omega)
  have hFk := okF_al hF w k
  rw [e2]
  simp only [bs]
  rw [nameless_ok hFk g2]
  simp only [bs, pv_pf]
  rw [unlikeC_ok hFk (g2.frame (s' := pv_up s2 0 8 _) (fun a ha => up_ne (by omega)))]
  simp only [bs]
  obtain ⟨T1, k1, k2, k3⟩ := putAside_ok T
  rw [k1]
  simp only [bs]
  have hM1 : MR T1 n K A := hM.frame (by rw [k3 94 (by decide)]) (k3 101 (by decide)) (k3 105 (by decide))
  obtain ⟨e, h1, h2⟩ := lq_inv (B := f174_unlike_b1 (nI k)) (P := fun i st => st.1 = nI i ∧ MR st.2 n K (alA K w A i) ∧ ∀ c, c ≠ 105 → st.2.1 c = T1.1 c) (Q := fun st => MR st.2 n K (alA K w A k) ∧ ∀ c, c ≠ 105 → st.2.1 c = T1.1 c) k (fun i st hi hP => by
    obtain ⟨v, U⟩ := st
    obtain ⟨p1, p2, p3⟩ := hP
    simp only at p1 p2 p3
    subst p1
    unfold f174_unlike_b1
    simp only
    rw [if_neg (nI_ge hi (by omega)), nI_1]
    obtain ⟨V, v1, v2, v3⟩ := comeAll_ok (okT_al hF w i) p2 hw (by rw [p3 94 (by decide), k3 94 (by decide)]; exact hwM)
    rw [v1]
    exact ⟨_, rfl, rfl, v2.congr (fun y _ => al_succ K w A i y) rfl, fun c hc => by rw [← p3 c hc]; exact v3 c hc⟩) (fun st hP => by
    obtain ⟨v, U⟩ := st
    obtain ⟨p1, p2, p3⟩ := hP
    simp only at p1 p2 p3
    subst p1
    unfold f174_unlike_b1
    simp only
    rw [if_pos (nI_le (by omega) (by omega))]
    exact ⟨_, rfl, p2, p3⟩) ((0:Int32), T1) ⟨nI_0.symm, hM1.congr (fun y _ => by unfold alA; simp only; rw [(al_0 K w A.1 A.2.1).1, (al_0 K w A.1 A.2.1).2]; exact ⟨rfl, rfl⟩) rfl, fun c hc => rfl⟩
  rw [h1]
  obtain ⟨v, U⟩ := e
  obtain ⟨q1, q2⟩ := h2
  simp only at q1 q2
  simp only [bs]
  obtain ⟨V, v1, v2, v3, v4⟩ := unlikeNow_ok (okT_al hF w k) q1
  rw [v1]
  simp only [bs]
  obtain ⟨W, w1, w2, w3⟩ := comeBack_ok V
  rw [w1]
  simp only [bs]
  rw [w3 94 (by decide), v2]
  unfold f116_ask
  simp only [pv_pm, bs]
  refine ⟨_, _, _, rfl, rfl, ?_⟩
  refine Inv.aside (h.tell (nI (sumN (fun x => if nlB K (alN K w A.1 A.2.1 k) x = true then 1 else 0) n))) (fun a ha => ?_) (fun c hc => ?_) (fun i hi => ?_) (fun j hj => ?_)
  · by_cases e0 : a = 0
    · subst e0
      funext j
      by_cases e8 : j = 8
      · subst e8; rw [up_at, up_at]
      · rw [up_nj e8, up_nj e8, f2 0 (by omega) (by omega), f1 0 (by omega) (by omega)]
    · rw [up_ne e0, up_ne e0, f2 a (by omega) (by omega), f1 a (by omega) (by omega)]
  · rw [upT (by omega), upT (by omega), w3 c (by omega), v4 c (by omega), q2 c (by omega), k3 c (by omega)]
  · rw [upT (by decide), upT (by decide), w2 i hi, v4 110 (by decide), q2 110 (by decide), k2 i hi]
  · by_cases e2 : j = 2
    · subst e2; rw [upTa, upTa]; rfl
    · rw [upTj e2, upTj e2, w3 94 (by decide), v3 j (by omega), q2 94 (by decide), k3 94 (by decide)]
theorem op25 : OP25 Inv := by
  intro s T h
  obtain ⟨n, K, A, hn, hF, hC, hM, hR⟩ := h.2.2.2.view
  obtain ⟨w, hw, hwC, hwM⟩ := h.way_
  unfold f79_first f176_first
  rw [hwC]
  obtain ⟨s1, e1, g1, -, -, -, -, -, -, f1⟩ := from_ok hn hC (nI w)
  rw [e1]
  simp only [bs]
  have bl : ∀ (f : Nat → Bool) m, sumN (fun x => if f x = true then 1 else 0) m ≤ m := fun f m => cnt_le (fun x => by split <;> omega) m
  have bv := cnt_le (f := fun x => if K x = 3 then 0 else 1) (fun x => by split <;> omega) n
  obtain ⟨o, h2, h3⟩ := lp_inv (B := f79_first_b1) (P := fun i st => st.1 = nI i ∧ FC st.2 45 n K (alN K w A.1 A.2.1 i) (alD K w A.1 A.2.1 i) ∧ (∀ c, c ≠ 47 → c ≠ 48 → st.2 c = s1 c) ∧ ∀ m, m < i → ¬ (sumN (fun x => if freshB K (alN K w A.1 A.2.1 m) x = true then 1 else 0) n + sumN (fun x => if nlB K (alN K w A.1 A.2.1 m) x = true then 1 else 0) n < sumN (fun x => if K x = 3 then 0 else 1) n)) (Q := fun o => ∃ r s', (match o with
    | .inl (w14, s15) => some ((-9:Int32), s15)
    | .inr q => some q) = some (r, s') ∧ (∀ c, c ≠ 47 → c ≠ 48 → s' c = s1 c) ∧ Till (fun m => sumN (fun x => if freshB K (alN K w A.1 A.2.1 m) x = true then 1 else 0) n + sumN (fun x => if nlB K (alN K w A.1 A.2.1 m) x = true then 1 else 0) n < sumN (fun x => if K x = 3 then 0 else 1) n) r) 13 (fun i st hi hP => by
    obtain ⟨v, U⟩ := st
    obtain ⟨p1, p2, p3, p4⟩ := hP
    simp only at p1 p2 p3
    subst p1
    have hFi := okF_al hF w i
    have b1 := bl (freshB K (alN K w A.1 A.2.1 i)) n
    have b2 := bl (nlB K (alN K w A.1 A.2.1 i)) n
    unfold f79_first_b1
    simp only
    by_cases hi13 : i = 13
    · subst hi13
      rw [if_pos (by decide)]
      exact Or.inr ⟨_, rfl, _, _, rfl, p3, Or.inr ⟨fun m hm => p4 m (by omega), rfl⟩⟩
    · rw [if_neg (show ¬ (12:Int32) < nI i from nI_nlt (a := 12) (by omega) (by omega)), unlikeC_ok hFi p2, nameless_ok hFi p2, living_ok hFi p2]
      simp only [bs]
      rw [nI_add]
      by_cases hc : sumN (fun x => if freshB K (alN K w A.1 A.2.1 i) x = true then 1 else 0) n + sumN (fun x => if nlB K (alN K w A.1 A.2.1 i) x = true then 1 else 0) n < sumN (fun x => if K x = 3 then 0 else 1) n
      · rw [if_neg (nI_ge hc (by omega))]
        exact Or.inr ⟨_, rfl, _, _, rfl, p3, Or.inl ⟨i, by omega, hc, p4, rfl⟩⟩
      · rw [if_pos (nI_le (by omega) (by omega)), p3 0 (by decide) (by decide), f1 0 (by omega) (by omega), hwC]
        obtain ⟨V, v1, v2, v3⟩ := wearAll_ok hFi p2 (k := 1) hw (by omega)
        rw [show (1:Int32) = nI 1 from by decide, v1]
        simp only [bs]
        refine Or.inl ⟨by omega, _, rfl, nI_add i 1, v2.congr (fun y _ => al_succ K w A i y), fun c c1 c2 => by rw [← p3 c c1 c2]; exact v3 c (by omega) (by omega), fun m hm => ?_⟩
        by_cases em : m = i
        · subst em; exact hc
        · exact p4 m (by omega)) ((0:Int32), s1) ⟨nI_0.symm, by rw [(al_0 K w A.1 A.2.1).1, (al_0 K w A.1 A.2.1).2]; exact g1, fun c c1 c2 => rfl, fun m hm => by omega⟩
  rw [h2]
  simp only [bs]
  obtain ⟨r, s', m1, m2, m3⟩ := h3
  obtain ⟨T1, k1, k2, k3⟩ := putAside_ok T
  rw [k1]
  simp only [bs]
  have hM1 : MR T1 n K A := hM.frame (by rw [k3 94 (by decide)]) (k3 101 (by decide)) (k3 105 (by decide))
  obtain ⟨e, h1, h4⟩ := lq_inv2 (B := f176_first_b1) (P := fun i st => st.2.1 = nI i ∧ MR st.2.2 n K (alA K w A i) ∧ (∀ j, j ≠ 24 → st.2.2.1 94 j = T1.1 94 j) ∧ (∀ c, c ≠ 94 → c ≠ 105 → st.2.2.1 c = T1.1 c) ∧ ((st.1 = -9 ∧ ∀ m, m < i → ¬ (sumN (fun x => if freshB K (alN K w A.1 A.2.1 m) x = true then 1 else 0) n + sumN (fun x => if nlB K (alN K w A.1 A.2.1 m) x = true then 1 else 0) n < sumN (fun x => if K x = 3 then 0 else 1) n)) ∨ ∃ i', i' ≤ 12 ∧ i = i' + 1 ∧ st.1 = nI i' ∧ (sumN (fun x => if freshB K (alN K w A.1 A.2.1 i') x = true then 1 else 0) n + sumN (fun x => if nlB K (alN K w A.1 A.2.1 i') x = true then 1 else 0) n < sumN (fun x => if K x = 3 then 0 else 1) n) ∧ ∀ m, m < i' → ¬ (sumN (fun x => if freshB K (alN K w A.1 A.2.1 m) x = true then 1 else 0) n + sumN (fun x => if nlB K (alN K w A.1 A.2.1 m) x = true then 1 else 0) n < sumN (fun x => if K x = 3 then 0 else 1) n))) (Q := fun st => Till (fun m => sumN (fun x => if freshB K (alN K w A.1 A.2.1 m) x = true then 1 else 0) n + sumN (fun x => if nlB K (alN K w A.1 A.2.1 m) x = true then 1 else 0) n < sumN (fun x => if K x = 3 then 0 else 1) n) st.1 ∧ (∀ j, j ≠ 24 → st.2.2.1 94 j = T1.1 94 j) ∧ (∀ c, c ≠ 94 → c ≠ 105 → st.2.2.1 c = T1.1 c)) 13 (fun i st hi hP => by
    obtain ⟨v, u, U⟩ := st
    obtain ⟨p1, p2, p3, p4, p5⟩ := hP
    simp only at p1 p2 p3 p4 p5
    subst p1
    have hFi := okT_al hF w i
    have b1 := bl (freshB K (alN K w A.1 A.2.1 i)) n
    have b2 := bl (nlB K (alN K w A.1 A.2.1 i)) n
    unfold f176_first_b1
    simp only
    by_cases hi13 : i = 13
    · subst hi13
      rw [if_pos (by decide)]
      refine Or.inr ⟨_, rfl, ?_, p3, p4⟩
      rcases p5 with ⟨q1, q2⟩ | ⟨i', q0, q1, q2, q3, q4⟩
      · exact Or.inr ⟨fun m hm => q2 m (by omega), q1⟩
      · exact Or.inl ⟨i', q0, q3, q4, q2⟩
    · rw [if_neg (show ¬ (12:Int32) < nI i from nI_nlt (a := 12) (by omega) (by omega))]
      rcases p5 with ⟨q1, q2⟩ | ⟨i', q0, q1, q2, q3, q4⟩
      · subst q1
        rw [if_pos rfl]
        obtain ⟨V, v1, v2, v3, v4⟩ := unlikeNow_ok hFi p2
        have hMV : MR V n K (alA K w A i) := p2.frame (v3 8 (by decide)) (v4 101 (by decide)) (v4 105 (by decide))
        rw [v1]
        simp only [bs]
        rw [livingM_ok hFi hMV, v2]
        simp only [bs]
        obtain ⟨W, w1, w2, w3⟩ := comeAll_ok hFi hMV hw (by rw [v3 9 (by decide), p3 9 (by decide), k3 94 (by decide)]; exact hwM)
        have hfr : (alA K w A i).1 = alN K w A.1 A.2.1 i := rfl
        rw [hfr, nI_add]
        refine Or.inl ⟨by omega, ?_⟩
        have R3 : ∀ j, j ≠ 24 → W.1 94 j = T1.1 94 j := fun j hj => by rw [w3 94 (by decide), v3 j hj]; exact p3 j hj
        have R4 : ∀ c, c ≠ 94 → c ≠ 105 → W.1 c = T1.1 c := fun c c1 c2 => by rw [w3 c c2, v4 c c1]; exact p4 c c1 c2
        have R2 : MR W n K (alA K w A (i + 1)) := w2.congr (fun y _ => al_succ K w A i y) rfl
        by_cases hc : sumN (fun x => if freshB K (alN K w A.1 A.2.1 i) x = true then 1 else 0) n + sumN (fun x => if nlB K (alN K w A.1 A.2.1 i) x = true then 1 else 0) n < sumN (fun x => if K x = 3 then 0 else 1) n
        · rw [if_neg (nI_ge hc (by omega))]
          simp only [bs]
          rw [w1]
          exact ⟨_, rfl, nI_1 i, R2, R3, R4, Or.inr ⟨i, by omega, rfl, rfl, hc, q2⟩⟩
        · rw [if_pos (nI_le (by omega) (by omega))]
          simp only [bs]
          rw [w1]
          refine ⟨_, rfl, nI_1 i, R2, R3, R4, Or.inl ⟨rfl, fun m hm => ?_⟩⟩
          by_cases em : m = i
          · subst em; exact hc
          · exact q2 m (by omega)
      · subst q2
        rw [if_neg (nI_len_ne (by omega))]
        exact Or.inr ⟨_, rfl, Or.inl ⟨i', q0, q3, q4, rfl⟩, p3, p4⟩) ((-9:Int32), (0:Int32), T1) ⟨nI_0.symm, hM1.congr (fun y _ => by unfold alA; simp only; rw [(al_0 K w A.1 A.2.1).1, (al_0 K w A.1 A.2.1).2]; exact ⟨rfl, rfl⟩) rfl, fun j hj => rfl, fun c c1 c2 => rfl, Or.inl ⟨rfl, fun m hm => by omega⟩⟩
  rw [h1]
  obtain ⟨v, u, U⟩ := e
  obtain ⟨q1, q2, q3⟩ := h4
  simp only at q1 q2 q3
  simp only [bs]
  obtain ⟨W, w1, w2, w3⟩ := comeBack_ok U
  rw [w1]
  refine ⟨r, s', W, ?_, by rw [q1.eq m3]; rfl, h.aside (fun a ha => ?_) (fun c hc => ?_) (fun i hi => ?_) (fun j hj => ?_)⟩
  · rcases o with ⟨w14, s15⟩ | q <;> exact m1
  · rw [m2 a (by omega) (by omega), f1 a (by omega) (by omega)]
  · rw [w3 c (by omega), q3 c (by omega) (by omega), k3 c (by omega)]
  · rw [w2 i hi, q3 110 (by decide) (by decide), k2 i hi]
  · rw [w3 94 (by decide), q2 j (by omega), k3 94 (by decide)]
