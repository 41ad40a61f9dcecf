/-! COUNT, UPPER, LOWER -/
/-- a loop that ends some time -/
theorem lq_inv2 {S : Type} {B : S → Option (S ⊕ S)} (P : Nat → S → Prop) (Q : S → Prop) (n : Nat) (hs : ∀ i st, i ≤ n → P i st → (i < n ∧ ∃ st', B st = some (.inl st') ∧ P (i + 1) st') ∨ ∃ e, B st = some (.inr e) ∧ Q e) (st : S) (h0 : P 0 st) (hn : n < 20000 := by omega) : ∃ e, pv_lq B 20000 st = some e ∧ Q e := by
  have key : ∀ (m f i : Nat) (st : S), i + m = n → m < f → P i st → ∃ e, pv_lq B f st = some e ∧ Q e := by
    intro m
    induction m with
    | zero =>
      intro f i st h1 h2 h3
      obtain ⟨f, rfl⟩ : ∃ g, f = g + 1 := ⟨f - 1, by omega⟩
      rcases hs i st (by omega) h3 with ⟨h4, -⟩ | ⟨e, h4, h5⟩
      · omega
      · exact ⟨e, by unfold pv_lq; rw [h4], h5⟩
    | succ m ih =>
      intro f i st h1 h2 h3
      obtain ⟨f, rfl⟩ : ∃ g, f = g + 1 := ⟨f - 1, by omega⟩
      rcases hs i st (by omega) h3 with ⟨-, st', h4, h5⟩ | ⟨e, h4, h5⟩
      · obtain ⟨e, h6, h7⟩ := ih f (i + 1) st' (by omega) (by omega) h5
        exact ⟨e, by unfold pv_lq; rw [h4]; exact h6, h7⟩
      · exact ⟨e, by unfold pv_lq; rw [h4], h5⟩
  exact key n 20000 0 st (by omega) hn h0
def sumN (g : Nat → Nat) : Nat → Nat
  | 0 => 0
  | n + 1 => sumN g n + g n
theorem sumN_congr {f g : Nat → Nat} {n : Nat} (h : ∀ i, i < n → f i = g i) : sumN f n = sumN g n := by
  induction n with
  | zero => rfl
  | succ n ih =>
    unfold sumN
    rw [ih (fun i hi => h i (by omega)), h n (by omega)]
theorem sumN_le {f : Nat → Nat} {n b : Nat} (h : ∀ i, i < n → f i ≤ b) : sumN f n ≤ n * b := by
  induction n with
  | zero => exact Nat.zero_le _
  | succ n ih =>
    have h1 := ih (fun i hi => h i (by omega))
    have h2 := h n (by omega)
    unfold sumN
    rw [Nat.succ_mul]
    omega
theorem sumN_pad {g : Nat → Nat} {n : Nat} : ∀ m, n ≤ m → sumN (fun i => if i < n then g i else 0) m = sumN g n := by
  intro m
  induction m with
  | zero =>
    intro h
    obtain rfl : n = 0 := by omega
    rfl
  | succ m ih =>
    intro h
    by_cases e : n = m + 1
    · subst e
      exact sumN_congr fun i hi => if_pos hi
    · show sumN (fun i => if i < n then g i else 0) m + (if m < n then g m else 0) = _
      rw [ih (by omega), if_neg (by omega), Nat.add_zero]
theorem sum_loop {B : Int32 × Int32 → Option ((Int32 × Int32) ⊕ (Int32 × Int32))} {n : Nat} (g : Nat → Nat) (hn : n < 20000) (hs : ∀ k a, k < n → B (nI a, nI k) = some (.inl (nI (a + g k), nI (k + 1)))) (he : ∀ a, B (nI a, nI n) = some (.inr (nI a, nI n))) : pv_lq B 20000 ((0:Int32), (0:Int32)) = some (nI (sumN g n), nI n) := by
  obtain ⟨e, h1, h2⟩ := lq_inv (B := B) (P := fun i st => st = (nI (sumN g i), nI i)) (Q := fun e => e = (nI (sumN g n), nI n)) n (fun i st hi hP => by
    subst hP
    exact ⟨_, hs i _ hi, rfl⟩) (fun st hP => by
    subst hP
    exact ⟨_, he _, rfl⟩) ((0:Int32), (0:Int32)) rfl
  rw [h1, h2]
theorem popk_sum (a : Nat) : ∀ k, popk a k = sumN (fun x => a / 2 ^ x % 2) k
  | 0 => rfl
  | k + 1 => by
    unfold popk sumN
    rw [popk_sum a k]
theorem popc_bits {p : Nat → Bool} {n : Nat} (hn : n ≤ 7) : popc (bits p n) = sumN (fun x => if p x = true then 1 else 0) n := by
  rw [← popk_7, popk_sum, ← sumN_pad (n := n) 7 hn]
  refine sumN_congr fun i hi => ?_
  rw [bits_bit]
  by_cases h : i < n
  · rw [if_pos h]
    by_cases hp : p i = true
    · rw [if_pos ⟨h, hp⟩, if_pos hp]
    · rw [if_neg (fun q => hp q.2), if_neg hp]
  · rw [if_neg h, if_neg (fun q => h q.1)]
/-! the class counts -/
theorem letters_ok {s : pv_F} {o n : Nat} {K : Nat → Nat} {nm : Nat → List Nat} {du : Nat → Nat} (hF : okF n K nm du) (h : FC s o n K nm du) : f23_letters o s = some (nI (sumN (fun x => (nm x).length) n)) := by
  have h7 := hF.1
  unfold f23_letters
  rw [sum_loop (n := n) (fun x => (nm x).length) (by omega) (fun k a hk => ?_) (fun a => ?_)]
  · simp only [bs]
  · unfold f23_letters_b1
    simp only
    rw [h.1, if_neg (nI_ge hk (by omega)), rd_nI (by omega), (h.2 k hk).2.1]
    simp only [bs, size_ok (hF.2 k hk).2.1, nI_1, nI_add]
  · unfold f23_letters_b1
    simp only
    rw [h.1, if_pos (nI_le (by omega) (by omega))]
theorem mothers_ok {s : pv_F} {o n : Nat} {K : Nat → Nat} {nm : Nat → List Nat} {du : Nat → Nat} (hF : okF n K nm du) (h : FC s o n K nm du) : f24_mothers o s = some (nI (sumN (fun x => if mom (K x) = true then 1 else 0) n)) := by
  have h7 := hF.1
  unfold f24_mothers
  rw [sum_loop (n := n) (fun x => if mom (K x) = true then 1 else 0) (by omega) (fun k a hk => ?_) (fun a => ?_)]
  · simp only [bs]
  · unfold f24_mothers_b1
    simp only
    rw [h.1, if_neg (nI_ge hk (by omega)), momC_ok hF h hk]
    simp only [bs, nI_1]
    by_cases e : mom (K k) = true
    · rw [if_pos e, if_pos e, if_neg (by decide)]
      simp only [bs, nI_1]
    · rw [if_neg e, if_neg e, if_pos rfl]
      simp only [bs, Nat.add_zero, Int32.add_zero]
  · unfold f24_mothers_b1
    simp only
    rw [h.1, if_pos (nI_le (by omega) (by omega))]
theorem living_ok {s : pv_F} {o n : Nat} {K : Nat → Nat} {nm : Nat → List Nat} {du : Nat → Nat} (hF : okF n K nm du) (h : FC s o n K nm du) : f20_living o s = some (nI (sumN (fun x => if K x = 3 then 0 else 1) n)) := by
  have h7 := hF.1
  unfold f20_living
  rw [sum_loop (n := n) (fun x => if K x = 3 then 0 else 1) (by omega) (fun k a hk => ?_) (fun a => ?_)]
  · simp only [bs]
  · unfold f20_living_b1
    simp only
    rw [h.1, if_neg (nI_ge hk (by omega)), lives_ok hF h hk]
    simp only [bs, nI_1]
    by_cases e : K k = 3
    · rw [if_pos e, if_pos e, if_pos rfl]
      simp only [bs, Nat.add_zero, Int32.add_zero]
    · rw [if_neg e, if_neg e, if_neg (by decide)]
      simp only [bs, nI_1]
  · unfold f20_living_b1
    simp only
    rw [h.1, if_pos (nI_le (by omega) (by omega))]
def nlB (K : Nat → Nat) (nm : Nat → List Nat) (x : Nat) : Bool := decide (K x ≠ 3) && decide (nm x = [])
theorem nameless_ok {s : pv_F} {o n : Nat} {K : Nat → Nat} {nm : Nat → List Nat} {du : Nat → Nat} (hF : okF n K nm du) (h : FC s o n K nm du) : f21_nameless o s = some (nI (sumN (fun x => if nlB K nm x = true then 1 else 0) n)) := by
  have h7 := hF.1
  unfold f21_nameless
  have h1 := named_ok hF h okN_nil
  rw [pack_nil, nI_0] at h1
  rw [h1]
  simp only [bs]
  rw [(popc_ok (bits_128 _ h7)).1, popc_bits h7]
  rfl
theorem cnt4 (K : Nat → Nat) (nm : Nat → List Nat) : ∀ n, sumN (fun x => if K x = 3 ∨ nm x = [] then 1 else 0) n + sumN (fun x => if K x = 3 then 0 else 1) n = n + sumN (fun x => if nlB K nm x = true then 1 else 0) n
  | 0 => rfl
  | n + 1 => by
    have ih := cnt4 K nm n
    unfold sumN
    by_cases h3 : K n = 3
    · have e : nlB K nm n = false := by unfold nlB; simp [h3]
      rw [if_pos (Or.inl h3), if_pos h3, e, if_neg (by decide)]
      omega
    · by_cases hl : nm n = []
      · have e : nlB K nm n = true := by unfold nlB; simp [h3, hl]
        rw [if_pos (Or.inr hl), if_neg h3, e, if_pos rfl]
        omega
      · have e : nlB K nm n = false := by unfold nlB; simp [hl]
        rw [if_neg (fun q => q.elim h3 hl), if_neg h3, e, if_neg (by decide)]
        omega
theorem cnt_le {f : Nat → Nat} (h : ∀ x, f x ≤ 1) : ∀ n, sumN f n ≤ n
  | 0 => Nat.le_refl _
  | n + 1 => by
    have := cnt_le h n
    have := h n
    unfold sumN
    omega
theorem kept_ok {s : pv_F} {g : Nat → Nat} (h : ∀ k, k < 3 → (s (21 + 5 * k) 5 = 0 ∧ g k = 0) ∨ (s (21 + 5 * k) 5 = 1 ∧ g k = 1)) : f51_keptTowns s = some (nI (sumN g 3)) := by
  unfold f51_keptTowns
  rw [sum_loop (n := 3) g (by omega) (fun k a hk => ?_) (fun a => ?_)]
  · simp only [bs]
  · unfold f51_keptTowns_b1
    simp only
    rw [if_neg (show ¬ (3:Int32) ≤ nI k from nI_ge (b := 3) hk (by omega)), ra_k hk]
    simp only [bs, nI_1]
    rcases h k hk with ⟨h1, h2⟩ | ⟨h1, h2⟩
    · rw [h1, if_pos rfl, h2]
      simp only [bs, Nat.add_zero, Int32.add_zero]
    · rw [h1, if_neg (by decide), h2]
      simp only [bs, nI_1]
  · unfold f51_keptTowns_b1
    simp only
    rw [if_pos (by decide)]
theorem thereR_ok {s : pv_F} {g : Nat → Nat} (h : ∀ k, k < 6 → (s (74 + 2 * k) 1 = 0 ∧ g k = 0) ∨ (s (74 + 2 * k) 1 = 1 ∧ g k = 1)) : f111_thereAmong 1 s = some (nI (sumN g 6)) := by
  unfold f111_thereAmong
  have hr : pv_rln 1 = 6 := rfl
  rw [sum_loop (n := 6) g (by omega) (fun k a hk => ?_) (fun a => ?_)]
  · simp only [bs]
  · unfold f111_thereAmong_b1
    simp only
    rw [hr, if_neg (show ¬ Int32.ofNat 6 ≤ nI k from nI_ge (b := 6) hk (by omega)), ra_r hk]
    simp only [bs, nI_1]
    rcases h k hk with ⟨h1, h2⟩ | ⟨h1, h2⟩
    · rw [h1, if_pos rfl, h2]
      simp only [bs, Nat.add_zero]
    · rw [h1, if_neg (by decide), h2]
      simp only [bs]
  · unfold f111_thereAmong_b1
    simp only
    rw [hr, if_pos (by decide)]
theorem thereT_ok {s : pv_F} {g : Nat → Nat} (h : ∀ k, k < 4 → (s (86 + 2 * k) 1 = 0 ∧ g k = 0) ∨ (s (86 + 2 * k) 1 = 1 ∧ g k = 1)) : f111_thereAmong 2 s = some (nI (sumN g 4)) := by
  unfold f111_thereAmong
  have hr : pv_rln 2 = 4 := rfl
  rw [sum_loop (n := 4) g (by omega) (fun k a hk => ?_) (fun a => ?_)]
  · simp only [bs]
  · unfold f111_thereAmong_b1
    simp only
    rw [hr, if_neg (show ¬ Int32.ofNat 4 ≤ nI k from nI_ge (b := 4) hk (by omega)), ra_t hk]
    simp only [bs, nI_1]
    rcases h k hk with ⟨h1, h2⟩ | ⟨h1, h2⟩
    · rw [h1, if_pos rfl, h2]
      simp only [bs, Nat.add_zero]
    · rw [h1, if_neg (by decide), h2]
      simp only [bs]
  · unfold f111_thereAmong_b1
    simp only
    rw [hr, if_pos (by decide)]
/-! the model counts -/
theorem sumOf_ok {T : pv_T} {n o : Nat} {g : Nat → Nat} (hn : n ≤ 7) (ho : o ≤ 70) (h8 : T.1 94 8 = nI n) (h : ∀ x, x < n → T.1 105 (o + x) = nI (g x)) : f205_sumOf (nI o) T = some (nI (sumN g n)) := by
  unfold f205_sumOf
  rw [sum_loop (n := n) g (by omega) (fun k a hk => ?_) (fun a => ?_)]
  · simp only [bs]
  · unfold f205_sumOf_b1
    simp only
    rw [h8, if_neg (nI_ge hk (by omega)), nI_add, rd_nI (by omega), h k hk]
    simp only [bs, nI_1, nI_add]
  · unfold f205_sumOf_b1
    simp only
    rw [h8, if_pos (nI_le (by omega) (by omega))]
theorem j6z {v1 v2 v3 : Int32} {T : pv_T} (h4 : ¬ v1 = 4) (h5 : ¬ v1 = 5) (h6 : ¬ v1 = 6) (h7 : ¬ v1 = 7) : f209_tells_j6 v1 v2 v3 T = some 0 := by
  unfold f209_tells_j6 f209_tells_j5 f209_tells_j4 f209_tells_j3 f209_tells_j1
  rw [if_neg h4, if_neg h5, if_neg h6, if_neg h7]
theorem j5z {v1 v2 v3 : Int32} {T : pv_T} (h5 : ¬ v1 = 5) (h6 : ¬ v1 = 6) (h7 : ¬ v1 = 7) : f209_tells_j5 v1 v2 v3 T = some 0 := by
  unfold f209_tells_j5 f209_tells_j4 f209_tells_j3 f209_tells_j1
  rw [if_neg h5, if_neg h6, if_neg h7]
theorem j4z {v1 v2 v3 : Int32} {T : pv_T} (h6 : ¬ v1 = 6) (h7 : ¬ v1 = 7) : f209_tells_j4 v1 v2 v3 T = some 0 := by
  unfold f209_tells_j4 f209_tells_j3 f209_tells_j1
  rw [if_neg h6, if_neg h7]
theorem j3z {v1 v2 v3 : Int32} {T : pv_T} (h7 : ¬ v1 = 7) : f209_tells_j3 v1 v2 v3 T = some 0 := by
  unfold f209_tells_j3 f209_tells_j1
  rw [if_neg h7]
theorem tells_loop {T : pv_T} {v1 : Int32} (g : Nat → Nat) (hg : ∀ i v2, i < 7 → ((if v1 = (3:Int32) then (if (T.1 94 8) ≤ nI i then f209_tells_j6 v1 v2 (nI i) T else (f141_isA (nI i) (1:Int32) T).bind fun q37 => if q37 = 0 then f209_tells_j6 v1 v2 (nI i) T else f209_tells_j2 v1 v2 (nI i) T) else f209_tells_j6 v1 v2 (nI i) T) : Option Int32) = some (nI (g i))) : pv_lq (f209_tells_b1 v1 T) 20000 ((0:Int32), (0:Int32)) = some (nI (sumN g 7), nI 7) := by
  refine sum_loop g (by omega) (fun k a hk => ?_) (fun a => ?_)
  · unfold f209_tells_b1
    simp only
    rw [if_neg (show ¬ (7:Int32) ≤ nI k from nI_ge (b := 7) hk (by omega)), hg k (nI a) hk]
    simp only [bs, nI_1, nI_add]
  · unfold f209_tells_b1
    simp only
    rw [if_pos (by decide)]
/-- what both tell -/
theorem cnt_ok {s : pv_F} {T : pv_T} (h : Inv s T) {k : Nat} (hk : k ≤ 8) : ∃ v, f95_count (nI k) s = some v ∧ f209_tells (nI k) T = some v := by
  obtain ⟨n, K, nm, ds, kd, ht⟩ := h.2.2.2
  obtain ⟨hF, hC, hM, hR⟩ := ht.view
  have hn := hF.1
  have hD := ht.2.1.2.1
  have h18 := ht.2.1.2.2.2.1
  have hkept := ht.2.2
  generalize runA K n (A_0 nm) ds = A at *
  unfold f95_count f209_tells
  have hz : ∀ {k : Nat}, (¬ nI k = (3:Int32)) → (¬ nI k = (4:Int32)) → (¬ nI k = (5:Int32)) → (¬ nI k = (6:Int32)) → (¬ nI k = (7:Int32)) → pv_lq (f209_tells_b1 (nI k) T) 20000 ((0:Int32), (0:Int32)) = some (nI (sumN (fun _ => 0) 7), nI 7) := fun h3 h4 h5 h6 h7 => tells_loop (fun _ => 0) (fun i v2 hi => by rw [if_neg h3, j6z h4 h5 h6 h7]; rfl)
  match k, hk with
  | 0, _ =>
    rw [hz (by decide) (by decide) (by decide) (by decide) (by decide)]
    simp only [bs]
    rw [if_pos (show nI 0 = (0:Int32) by decide), if_pos (show nI 0 = (0:Int32) by decide), hC.1, hM.1]
    exact ⟨_, rfl, rfl⟩
  | 1, _ =>
    rw [hz (by decide) (by decide) (by decide) (by decide) (by decide)]
    simp only [bs]
    rw [if_neg (show ¬ nI 1 = (0:Int32) by decide), if_neg (show ¬ nI 1 = (0:Int32) by decide), if_pos (show nI 1 = (1:Int32) by decide), if_pos (show nI 1 = (1:Int32) by decide), hD.1, h18]
    exact ⟨_, rfl, rfl⟩
  | 2, _ =>
    rw [hz (by decide) (by decide) (by decide) (by decide) (by decide)]
    simp only [bs]
    rw [if_neg (show ¬ nI 2 = (0:Int32) by decide), if_neg (show ¬ nI 2 = (0:Int32) by decide), if_neg (show ¬ nI 2 = (1:Int32) by decide), if_neg (show ¬ nI 2 = (1:Int32) by decide), if_pos (show nI 2 = (2:Int32) by decide), if_pos (show nI 2 = (2:Int32) by decide), letters_ok hF hC, show (42:Int32) = nI 42 from by decide, sumOf_ok hn (by omega) hM.1 (fun x hx => hM.len hx)]
    exact ⟨_, rfl, rfl⟩
  | 3, _ =>
    rw [tells_loop (fun i => if i < n then (if mom (K i) = true then 1 else 0) else 0) (fun i v2 hi => by
      rw [if_pos (by decide), hM.1]
      by_cases hin : i < n
      · rw [if_neg (nI_ge hin (by omega)), momM_ok hF hM hin, if_pos hin]
        simp only [bs]
        by_cases hm : mom (K i) = true
        · rw [if_pos hm, if_neg (by decide), if_pos hm]; rfl
        · rw [if_neg hm, if_pos rfl, if_neg hm, j6z (by decide) (by decide) (by decide) (by decide)]; rfl
      · rw [if_pos (nI_le (by omega) (by omega)), if_neg hin, j6z (by decide) (by decide) (by decide) (by decide)]; rfl)]
    simp only [bs]
    rw [if_neg (show ¬ nI 3 = (0:Int32) by decide), if_neg (show ¬ nI 3 = (0:Int32) by decide), if_neg (show ¬ nI 3 = (1:Int32) by decide), if_neg (show ¬ nI 3 = (1:Int32) by decide), if_neg (show ¬ nI 3 = (2:Int32) by decide), if_neg (show ¬ nI 3 = (2:Int32) by decide), if_pos (show nI 3 = (3:Int32) by decide), if_pos (show nI 3 = (3:Int32) by decide), mothers_ok hF hC, sumN_pad 7 hn]
    exact ⟨_, rfl, rfl⟩
  | 4, _ =>
    rw [tells_loop (fun i => if i < n then (if K i = 3 ∨ A.1 i = [] then 1 else 0) else 0) (fun i v2 hi => by
      rw [if_neg (by decide)]
      unfold f209_tells_j6
      rw [if_pos (by decide), hM.1]
      by_cases hin : i < n
      · have h5 := (hF.2 i hin).1
        have h6 := (hF.2 i hin).2.1.1
        rw [if_neg (nI_ge hin (by omega)), rd_nI (by omega), hM.2.1 i hin, if_pos hin]
        simp only [bs]
        by_cases h3 : K i = 3
        · rw [if_pos (by rw [h3]; decide), if_pos (Or.inl h3)]; rfl
        · rw [if_neg (show ¬ nI (K i) = (3:Int32) from fun q => h3 ((nI_eq (by omega) (by omega)).mp (show nI (K i) = nI 3 from q))), lenOf_ok hn hM hin]
          simp only [bs]
          by_cases hl : A.1 i = []
          · rw [hl, if_pos (show nI [].length = 0 from nI_0), if_pos (Or.inr rfl)]; rfl
          · rw [if_neg (nI_ne0 (List.length_pos_iff.mpr hl) (by omega)), if_neg (fun q => q.elim h3 hl), j5z (by decide) (by decide) (by decide)]; rfl
      · rw [if_pos (nI_le (by omega) (by omega)), if_neg hin, j5z (by decide) (by decide) (by decide)]; rfl)]
    simp only [bs]
    rw [if_neg (show ¬ nI 4 = (0:Int32) by decide), if_neg (show ¬ nI 4 = (0:Int32) by decide), if_neg (show ¬ nI 4 = (1:Int32) by decide), if_neg (show ¬ nI 4 = (1:Int32) by decide), if_neg (show ¬ nI 4 = (2:Int32) by decide), if_neg (show ¬ nI 4 = (2:Int32) by decide), if_neg (show ¬ nI 4 = (3:Int32) by decide), if_neg (show ¬ nI 4 = (3:Int32) by decide), if_pos (show nI 4 = (4:Int32) by decide), if_pos (show nI 4 = (4:Int32) by decide), living_ok hF hC, nameless_ok hF hC, sumN_pad 7 hn, hC.1]
    simp only [bs]
    have hl1 := cnt_le (f := fun x => if K x = 3 then 0 else 1) (fun x => by split <;> omega) n
    have h4 := cnt4 K A.1 n
    rw [pk_sub hl1, nI_add]
    refine ⟨_, rfl, ?_⟩
    congr 2
    omega
  | 5, _ =>
    have hg : ∀ k, k < 3 → (s (21 + 5 * k) 5 = 0 ∧ (if T.1 107 k = -9 then 0 else 1) = 0) ∨ (s (21 + 5 * k) 5 = 1 ∧ (if T.1 107 k = -9 then 0 else 1) = 1) := fun k hk => by
      rcases hkept k hk with ⟨-, q1, q2⟩ | ⟨d, -, q0, q1, -, q2, -⟩
      · exact Or.inl ⟨q1, if_pos q2⟩
      · exact Or.inr ⟨q1, if_neg (by rw [q2]; exact nI_len_ne q0.1)⟩
    rw [tells_loop (fun i => if i < 3 then (if T.1 107 i = -9 then 0 else 1) else 0) (fun i v2 hi => by
      rw [if_neg (by decide)]
      unfold f209_tells_j6 f209_tells_j5
      rw [if_neg (by decide), if_pos (by decide)]
      by_cases hin : i < 3
      · rw [if_neg (show ¬ (3:Int32) ≤ nI i from nI_ge (b := 3) hin (by omega)), rd_nI hin, if_pos hin]
        simp only [bs]
        by_cases h9 : T.1 107 i = -9
        · rw [if_pos h9, if_pos h9, j4z (by decide) (by decide)]; rfl
        · rw [if_neg h9, if_neg h9]; rfl
      · rw [if_pos (show (3:Int32) ≤ nI i from nI_le (a := 3) (by omega) (by omega)), if_neg hin, j4z (by decide) (by decide)]; rfl)]
    simp only [bs]
    rw [if_neg (show ¬ nI 5 = (0:Int32) by decide), if_neg (show ¬ nI 5 = (0:Int32) by decide), if_neg (show ¬ nI 5 = (1:Int32) by decide), if_neg (show ¬ nI 5 = (1:Int32) by decide), if_neg (show ¬ nI 5 = (2:Int32) by decide), if_neg (show ¬ nI 5 = (2:Int32) by decide), if_neg (show ¬ nI 5 = (3:Int32) by decide), if_neg (show ¬ nI 5 = (3:Int32) by decide), if_neg (show ¬ nI 5 = (4:Int32) by decide), if_neg (show ¬ nI 5 = (4:Int32) by decide), if_pos (show nI 5 = (5:Int32) by decide), if_pos (show nI 5 = (5:Int32) by decide), kept_ok hg, sumN_pad 7 (by omega)]
    exact ⟨_, rfl, rfl⟩
  | 6, _ =>
    have hg : ∀ k, k < 6 → (s (74 + 2 * k) 1 = 0 ∧ (if 0 ≤ T.1 96 k then 1 else 0) = 0) ∨ (s (74 + 2 * k) 1 = 1 ∧ (if 0 ≤ T.1 96 k then 1 else 0) = 1) := fun k hk => by
      rcases h.2.1 k hk with ⟨q1, q2⟩ | ⟨q1, m, q2, -, q3, -⟩
      · exact Or.inl ⟨q1, if_neg (by rw [q2]; decide)⟩
      · exact Or.inr ⟨q1, if_pos (by rw [q3]; exact nI_pos' (by omega))⟩
    rw [tells_loop (fun i => if i < 6 then (if 0 ≤ T.1 96 i then 1 else 0) else 0) (fun i v2 hi => by
      rw [if_neg (by decide)]
      unfold f209_tells_j6 f209_tells_j5 f209_tells_j4
      rw [if_neg (by decide), if_neg (by decide), if_pos (by decide)]
      by_cases hin : i < 6
      · rw [if_neg (show ¬ (6:Int32) ≤ nI i from nI_ge (b := 6) hin (by omega)), rd_nI hin, if_pos hin]
        simp only [bs]
        by_cases h9 : 0 ≤ T.1 96 i
        · rw [if_pos h9, if_pos h9]; rfl
        · rw [if_neg h9, if_neg h9, j3z (by decide)]; rfl
      · rw [if_pos (show (6:Int32) ≤ nI i from nI_le (a := 6) (by omega) (by omega)), if_neg hin, j3z (by decide)]; rfl)]
    simp only [bs]
    rw [if_neg (show ¬ nI 6 = (0:Int32) by decide), if_neg (show ¬ nI 6 = (0:Int32) by decide), if_neg (show ¬ nI 6 = (1:Int32) by decide), if_neg (show ¬ nI 6 = (1:Int32) by decide), if_neg (show ¬ nI 6 = (2:Int32) by decide), if_neg (show ¬ nI 6 = (2:Int32) by decide), if_neg (show ¬ nI 6 = (3:Int32) by decide), if_neg (show ¬ nI 6 = (3:Int32) by decide), if_neg (show ¬ nI 6 = (4:Int32) by decide), if_neg (show ¬ nI 6 = (4:Int32) by decide), if_neg (show ¬ nI 6 = (5:Int32) by decide), if_neg (show ¬ nI 6 = (5:Int32) by decide), if_pos (show nI 6 = (6:Int32) by decide), if_pos (show nI 6 = (6:Int32) by decide), thereR_ok hg, sumN_pad 7 (by omega)]
    exact ⟨_, rfl, rfl⟩
  | 7, _ =>
    have hg : ∀ k, k < 4 → (s (86 + 2 * k) 1 = 0 ∧ (if T.1 99 k < 0 then 0 else 1) = 0) ∨ (s (86 + 2 * k) 1 = 1 ∧ (if T.1 99 k < 0 then 0 else 1) = 1) := fun k hk => by
      rcases h.2.2.1 k hk with ⟨q1, q2⟩ | ⟨q1, m, q2, -, q3, -⟩
      · exact Or.inl ⟨q1, if_pos (by rw [q2]; decide)⟩
      · exact Or.inr ⟨q1, if_neg (by rw [q3]; exact nI_pos (by omega))⟩
    rw [tells_loop (fun i => if i < 4 then (if T.1 99 i < 0 then 0 else 1) else 0) (fun i v2 hi => by
      rw [if_neg (by decide)]
      unfold f209_tells_j6 f209_tells_j5 f209_tells_j4 f209_tells_j3
      rw [if_neg (by decide), if_neg (by decide), if_neg (by decide), if_pos (by decide)]
      by_cases hin : i < 4
      · rw [if_neg (show ¬ (4:Int32) ≤ nI i from nI_ge (b := 4) hin (by omega)), rd_nI hin, if_pos hin]
        simp only [bs]
        by_cases h9 : T.1 99 i < 0
        · rw [if_pos h9, if_pos h9]; rfl
        · rw [if_neg h9, if_neg h9]; rfl
      · rw [if_pos (show (4:Int32) ≤ nI i from nI_le (a := 4) (by omega) (by omega)), if_neg hin]; rfl)]
    simp only [bs]
    rw [if_neg (show ¬ nI 7 = (0:Int32) by decide), if_neg (show ¬ nI 7 = (0:Int32) by decide), if_neg (show ¬ nI 7 = (1:Int32) by decide), if_neg (show ¬ nI 7 = (1:Int32) by decide), if_neg (show ¬ nI 7 = (2:Int32) by decide), if_neg (show ¬ nI 7 = (2:Int32) by decide), if_neg (show ¬ nI 7 = (3:Int32) by decide), if_neg (show ¬ nI 7 = (3:Int32) by decide), if_neg (show ¬ nI 7 = (4:Int32) by decide), if_neg (show ¬ nI 7 = (4:Int32) by decide), if_neg (show ¬ nI 7 = (5:Int32) by decide), if_neg (show ¬ nI 7 = (5:Int32) by decide), if_neg (show ¬ nI 7 = (6:Int32) by decide), if_neg (show ¬ nI 7 = (6:Int32) by decide), if_pos (show nI 7 = (7:Int32) by decide), if_pos (show nI 7 = (7:Int32) by decide), thereT_ok hg, sumN_pad 7 (by omega)]
    exact ⟨_, rfl, rfl⟩
  | 8, _ =>
    rw [hz (by decide) (by decide) (by decide) (by decide) (by decide)]
    simp only [bs]
    rw [if_neg (show ¬ nI 8 = (0:Int32) by decide), if_neg (show ¬ nI 8 = (0:Int32) by decide), if_neg (show ¬ nI 8 = (1:Int32) by decide), if_neg (show ¬ nI 8 = (1:Int32) by decide), if_neg (show ¬ nI 8 = (2:Int32) by decide), if_neg (show ¬ nI 8 = (2:Int32) by decide), if_neg (show ¬ nI 8 = (3:Int32) by decide), if_neg (show ¬ nI 8 = (3:Int32) by decide), if_neg (show ¬ nI 8 = (4:Int32) by decide), if_neg (show ¬ nI 8 = (4:Int32) by decide), if_neg (show ¬ nI 8 = (5:Int32) by decide), if_neg (show ¬ nI 8 = (5:Int32) by decide), if_neg (show ¬ nI 8 = (6:Int32) by decide), if_neg (show ¬ nI 8 = (6:Int32) by decide), if_neg (show ¬ nI 8 = (7:Int32) by decide), if_neg (show ¬ nI 8 = (7:Int32) by decide), if_pos (show nI 8 = (8:Int32) by decide), if_pos (show nI 8 = (8:Int32) by decide), show (77:Int32) = nI 77 from by decide, rd_nI (by omega), hR.2, show T.1 105 77 = _ from hM.2.2.2]
    exact ⟨_, rfl, rfl⟩
theorem op41 : OP41 Inv := by
  intro a s T h
  unfold f210_count
  rw [in_eq]
  have hbad : (∀ k : Nat, k ≤ 8 → ¬ a = nI k) → f95_count a s = some (-1) := fun q => by
    unfold f95_count
    rw [if_neg (show ¬ a = (0:Int32) from q 0 (by omega)), if_neg (show ¬ a = (1:Int32) from q 1 (by omega)), if_neg (show ¬ a = (2:Int32) from q 2 (by omega)), if_neg (show ¬ a = (3:Int32) from q 3 (by omega)), if_neg (show ¬ a = (4:Int32) from q 4 (by omega)), if_neg (show ¬ a = (5:Int32) from q 5 (by omega)), if_neg (show ¬ a = (6:Int32) from q 6 (by omega)), if_neg (show ¬ a = (7:Int32) from q 7 (by omega)), if_neg (show ¬ a = (8:Int32) from q 8 (by omega))]
  rcases pk_ix a (n := 9) (by omega) with ha | ha | ⟨k, hk, rfl⟩
  · rw [if_pos ha, hbad (fun k hk q => nI_pos (by omega) (q ▸ ha))]
    exact ⟨_, rfl, rfl⟩
  · obtain ⟨c1, -, c3, c4⟩ := cmp_big ha (by omega)
    rw [if_neg c1, if_pos (show (8:Int32) < a from (c3 8 (by omega)).2), hbad (fun k hk q => (c3 k (by omega)).1 (by rw [q]; exact nI_le (by omega) (by omega)))]
    exact ⟨_, rfl, rfl⟩
  · obtain ⟨v, h1, h2⟩ := cnt_ok h (k := k) (by omega)
    rw [if_neg (nI_pos (by omega)), if_neg (show ¬ (8:Int32) < nI k from nI_nlt (a := 8) (by omega) (by omega)), h1, h2]
    exact ⟨v, rfl, rfl⟩
/-! a part in lowest terms -/
theorem rmd_ok {a d : Nat} (ha : a < 2 ^ 31) (h0 : 0 < d) (hd : d < 2 ^ 31) : pv_rmd (nI a) (nI d) = some (nI (a % d)) := by
  unfold pv_rmd
  rw [if_neg (nI_ne0 h0 hd), pk_rem ha h0 hd]
theorem dv_ok {a d : Nat} (ha : a < 2 ^ 31) (h0 : 0 < d) (hd : d < 2 ^ 31) : pv_dv (nI a) (nI d) = some (nI (a / d)) := by
  unfold pv_dv
  rw [if_neg (nI_ne0 h0 hd), pk_div ha h0 hd]
theorem common_ok {a b : Nat} (ha : a < 10000) (hb : b < 10000) (h0 : 0 < b) : f112_commonPart (nI a) (nI b) = some (nI (Nat.gcd a b)) := by
  unfold f112_commonPart
  have hg0 : 0 < Nat.gcd a b := Nat.gcd_pos_of_pos_right a h0
  have hgb : Nat.gcd a b ≤ b := Nat.gcd_le_right a h0
  obtain ⟨o, h2, h3⟩ := lp_inv (B := f112_commonPart_b1 (nI a) (nI b)) (P := fun i st => i < b ∧ st = nI (b - i) ∧ Nat.gcd a b ≤ b - i) (Q := fun o => match o with
    | .inl _ => Nat.gcd a b = 1
    | .inr q => q = nI (Nat.gcd a b)) (b - 1) (fun i st hi hP => by
    obtain ⟨p0, rfl, p1⟩ := hP
    obtain ⟨k, hk⟩ : ∃ k, b - i = k + 1 := ⟨b - i - 1, by omega⟩
    unfold f112_commonPart_b1
    simp only
    rw [hk] at p1 ⊢
    by_cases h1 : k = 0
    · subst h1
      rw [if_pos (by decide)]
      exact Or.inr ⟨_, rfl, by show Nat.gcd a b = 1; omega⟩
    · rw [if_neg (show ¬ nI (k + 1) ≤ (1:Int32) from nI_ge (a := 1) (by omega) (by omega)), rmd_ok (by omega) (by omega) (by omega), rmd_ok (by omega) (by omega) (by omega)]
      simp only [bs, pk_m1]
      have hne : (a % (k + 1) = 0 ∧ b % (k + 1) = 0) ↔ Nat.gcd a b = k + 1 := by
        constructor
        · intro ⟨q1, q2⟩
          have := Nat.le_of_dvd hg0 (Nat.dvd_gcd (Nat.dvd_of_mod_eq_zero q1) (Nat.dvd_of_mod_eq_zero q2))
          omega
        · intro q
          rw [← q]
          exact ⟨Nat.mod_eq_zero_of_dvd (Nat.gcd_dvd_left a b), Nat.mod_eq_zero_of_dvd (Nat.gcd_dvd_right a b)⟩
      have hgo : ¬ Nat.gcd a b = k + 1 → (i < b - 1 ∧ ∃ st', (some (Sum.inl (nI k)) : Option (Int32 ⊕ (Int32 ⊕ Int32))) = some (.inl st') ∧ (i + 1 < b ∧ st' = nI (b - (i + 1)) ∧ Nat.gcd a b ≤ b - (i + 1))) := fun q => ⟨by omega, _, rfl, by omega, by rw [show b - (i + 1) = k by omega], by omega⟩
      by_cases e1 : a % (k + 1) = 0
      · rw [e1, if_pos nI_0]
        by_cases e2 : b % (k + 1) = 0
        · rw [e2, if_pos nI_0]
          exact Or.inr ⟨_, rfl, by show nI (k + 1) = _; rw [hne.mp ⟨e1, e2⟩]⟩
        · have := Nat.mod_lt b (show 0 < k + 1 by omega)
          rw [if_neg (nI_ne0 (by omega) (by omega))]
          exact Or.inl (hgo (fun q => e2 (hne.mpr q).2))
      · have := Nat.mod_lt a (show 0 < k + 1 by omega)
        rw [if_neg (nI_ne0 (by omega) (by omega))]
        exact Or.inl (hgo (fun q => e1 (hne.mpr q).1))) (nI b) ⟨h0, rfl, hgb⟩
  rw [h2]
  simp only [bs]
  match o, h3 with
  | .inl z, h3 =>
    simp only at h3 ⊢
    rw [h3]
    rfl
  | .inr q, h3 =>
    simp only at h3 ⊢
    rw [h3]
theorem divisor_ok {a b : Nat} (ha : a < 10000) (hb : b < 10000) : f206_divisor (nI a) (nI b) = some (nI (Nat.gcd a b)) := by
  unfold f206_divisor
  obtain ⟨e, h1, h2⟩ := lq_inv2 (B := f206_divisor_b1) (P := fun i st => ∃ x y, st = (nI x, nI y) ∧ x < 10000 ∧ y + i ≤ b ∧ Nat.gcd x y = Nat.gcd a b) (Q := fun st => st.1 = nI (Nat.gcd a b)) b (fun i st hi hP => by
    obtain ⟨x, y, rfl, p1, p2, p3⟩ := hP
    unfold f206_divisor_b1
    simp only
    by_cases e : y = 0
    · subst e
      rw [if_pos nI_0]
      refine Or.inr ⟨_, rfl, ?_⟩
      show nI x = _
      rw [← p3, Nat.gcd_zero_right]
    · have hlt := Nat.mod_lt x (show 0 < y by omega)
      rw [if_neg (nI_ne0 (by omega) (by omega)), rmd_ok (by omega) (by omega) (by omega)]
      simp only [bs]
      refine Or.inl ⟨by omega, _, rfl, y, x % y, rfl, by omega, by omega, ?_⟩
      rw [← p3, Nat.gcd_comm y, ← Nat.gcd_rec, Nat.gcd_comm]) (nI a, nI b) ⟨a, b, rfl, ha, by omega, rfl⟩
  rw [h1]
  obtain ⟨u, v⟩ := e
  simp only at h2
  simp only [bs]
  rw [h2]
theorem sumC7_ok {s : pv_F} {n c : Nat} {g : Nat → Nat} (hn : n ≤ 7) (hc : pv_an c = 7) (h8 : s 8 3 = nI n) (h : ∀ x, x < n → s c x = nI (g x)) : f50_sum c s = some (nI (sumN g n)) := by
  unfold f50_sum
  rw [sum_loop (n := n) g (by omega) (fun k a hk => ?_) (fun a => ?_)]
  · simp only [bs]
  · unfold f50_sum_b1
    simp only
    rw [h8, if_neg (nI_ge hk (by omega)), hc, rd_nI (by omega), h k hk]
    simp only [bs, nI_1, nI_add]
  · unfold f50_sum_b1
    simp only
    rw [h8, if_pos (nI_le (by omega) (by omega))]
/-- nobody came more often than there were deeds -/
theorem run_came (K : Nat → Nat) (n y : Nat) : ∀ (ds : List Deed) (A : TS), (runA K n A ds).2.2.1 y ≤ A.2.2.1 y + ds.length ∧ (runA K n A ds).2.2.2.1 y ≤ A.2.2.2.1 y + ds.length
  | [], A => ⟨Nat.le_refl _, Nat.le_refl _⟩
  | d :: ds, A => by
    obtain ⟨h1, h2⟩ := run_came K n y ds (stepA K n A d)
    have h3 : (stepA K n A d).2.2.1 y ≤ A.2.2.1 y + 1 ∧ (stepA K n A d).2.2.2.1 y ≤ A.2.2.2.1 y + 1 := by
      unfold stepA
      split
      · unfold callA
        simp only
        constructor
        · split <;> omega
        · split <;> omega
      · unfold mendA
        simp only
        omega
    have e : runA K n A (d :: ds) = runA K n (stepA K n A d) ds := rfl
    rw [e, List.length_cons]
    omega
theorem sums_ok {s : pv_F} {T : pv_T} (h : Inv s T) : ∃ c m, c < 10000 ∧ m < 10000 ∧ f50_sum 12 s = some (nI c) ∧ f50_sum 13 s = some (nI m) ∧ f205_sumOf (56:Int32) T = some (nI c) ∧ f205_sumOf (63:Int32) T = some (nI m) := by
  obtain ⟨n, K, nm, ds, kd, ht⟩ := h.2.2.2
  obtain ⟨hF, hC, hM, hR⟩ := ht.view
  have hn := hF.1
  have hlen := ht.2.1.1.1
  have hb : ∀ y, (runA K n (A_0 nm) ds).2.2.1 y ≤ 60 ∧ (runA K n (A_0 nm) ds).2.2.2.1 y ≤ 60 := fun y => by
    obtain ⟨q1, q2⟩ := run_came K n y ds (A_0 nm)
    have e1 : (A_0 nm).2.2.1 y = 0 := rfl
    have e2 : (A_0 nm).2.2.2.1 y = 0 := rfl
    omega
  generalize runA K n (A_0 nm) ds = A at *
  have b1 := sumN_le (n := n) (fun i _ => (hb i).1)
  have b2 := sumN_le (n := n) (fun i _ => (hb i).2)
  refine ⟨sumN A.2.2.1 n, sumN A.2.2.2.1 n, by omega, by omega, sumC7_ok hn rfl hC.1 (fun x hx => (hR.1 x hx).2.2.1), sumC7_ok hn rfl hC.1 (fun x hx => (hR.1 x hx).2.2.2.1), ?_, ?_⟩
  · rw [show (56:Int32) = nI 56 from by decide]
    refine sumOf_ok hn (by omega) hM.1 (fun x hx => ?_)
    have := (hM.2.2.1 x hx).2.2.2.1
    rwa [Nat.zero_add] at this
  · rw [show (63:Int32) = nI 63 from by decide]
    refine sumOf_ok hn (by omega) hM.1 (fun x hx => ?_)
    have := (hM.2.2.1 x hx).2.2.2.2.1
    rwa [Nat.zero_add] at this
theorem op39 : OP39 Inv := by
  intro s T h
  obtain ⟨c, m, hc, hm, h1, h2, h3, h4⟩ := sums_ok h
  unfold f93_upper f207_upper
  rw [h1, h2, h3, h4]
  simp only [bs]
  by_cases e : c = 0
  · subst e
    rw [if_pos nI_0, if_pos nI_0]
    exact ⟨_, rfl, rfl⟩
  · rw [if_neg (nI_ne0 (by omega) (by omega)), if_neg (nI_ne0 (by omega) (by omega)), common_ok hm hc (by omega), divisor_ok hm hc]
    simp only [bs]
    have hg := Nat.gcd_pos_of_pos_right m (show 0 < c by omega)
    have hl := Nat.gcd_le_right m (show 0 < c by omega)
    rw [dv_ok (by omega) hg (by omega)]
    exact ⟨_, rfl, rfl⟩
theorem op40 : OP40 Inv := by
  intro s T h
  obtain ⟨c, m, hc, hm, h1, h2, h3, h4⟩ := sums_ok h
  unfold f94_lower f208_lower
  rw [h1, h2, h3, h4]
  simp only [bs]
  by_cases e : c = 0
  · subst e
    rw [if_pos nI_0, if_pos nI_0]
    exact ⟨_, rfl, rfl⟩
  · rw [if_neg (nI_ne0 (by omega) (by omega)), if_neg (nI_ne0 (by omega) (by omega)), common_ok hm hc (by omega), divisor_ok hm hc]
    simp only [bs]
    have hg := Nat.gcd_pos_of_pos_right m (show 0 < c by omega)
    have hl := Nat.gcd_le_right m (show 0 < c by omega)
    rw [dv_ok (by omega) hg (by omega)]
    exact ⟨_, rfl, rfl⟩
