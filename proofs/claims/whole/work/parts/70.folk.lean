/-- as Option.bind_some, but not taken as a plain unfolding (the kernel then compares what it should not unfold) -/
theorem bs {α β : Type} (a : α) (f : α → Option β) : (some a).bind f = f a := Eq.trans (Option.bind_some a f) (Eq.refl _)
/-! SETS OF PEOPLE -/
def bits (p : Nat → Bool) : Nat → Nat
  | 0 => 0
  | n + 1 => bits p n + if p n then 2 ^ n else 0
theorem bits_lt (p : Nat → Bool) : ∀ n, bits p n < 2 ^ n
  | 0 => Nat.zero_lt_one
  | n + 1 => by
    have := bits_lt p n
    unfold bits
    rw [Nat.pow_succ]
    split <;> omega
theorem bits_128 (p : Nat → Bool) {n : Nat} (h : n ≤ 7) : bits p n < 128 := Nat.lt_of_lt_of_le (bits_lt p n) (Nat.pow_le_pow_right (n := 2) (by omega) h)
theorem bits_bit (p : Nat → Bool) : ∀ n x, bits p n / 2 ^ x % 2 = if x < n ∧ p x = true then 1 else 0
  | 0, x => by
    unfold bits
    rw [if_neg (fun h => by omega), Nat.zero_div]
  | n + 1, x => by
    have h0 := bits_lt p n
    unfold bits
    rcases Nat.lt_trichotomy x n with h | h | h
    · obtain ⟨m, hm⟩ : ∃ m, n = x + (m + 1) := ⟨n - x - 1, by omega⟩
      have ih := bits_bit p n x
      have e : (if p n = true then 2 ^ n else 0) = 2 ^ x * ((if p n = true then 2 ^ m else 0) * 2) := by
        split
        · rw [hm, Nat.pow_add, Nat.pow_succ]
        · simp
      rw [e, Nat.add_mul_div_left _ _ (Nat.two_pow_pos x), Nat.add_mul_mod_self_right, ih]
      by_cases hp : p x = true
      · rw [if_pos ⟨h, hp⟩, if_pos ⟨by omega, hp⟩]
      · rw [if_neg (fun q => hp q.2), if_neg (fun q => hp q.2)]
    · subst h
      by_cases hp : p x = true
      · rw [if_pos hp, if_pos ⟨by omega, hp⟩]
        have : (bits p x + 2 ^ x) / 2 ^ x = 1 := by
          rw [Nat.add_div_right _ (Nat.two_pow_pos x), Nat.div_eq_of_lt h0]
        rw [this]
      · rw [if_neg hp, if_neg (fun q => hp q.2), Nat.add_zero, Nat.div_eq_of_lt h0]
    · rw [if_neg (show ¬ (x < n + 1 ∧ p x = true) from fun q => by omega)]
      have h1 := bits_lt p (n + 1)
      unfold bits at h1
      rw [Nat.div_eq_of_lt (Nat.lt_of_lt_of_le h1 (Nat.pow_le_pow_right (by omega) h))]
theorem bits_ext {a b : Nat} (ha : a < 128) (hb : b < 128) (h : ∀ x, x < 7 → a / 2 ^ x % 2 = b / 2 ^ x % 2) : a = b := by
  have h0 := h 0 (by omega)
  have h1 := h 1 (by omega)
  have h2 := h 2 (by omega)
  have h3 := h 3 (by omega)
  have h4 := h 4 (by omega)
  have h5 := h 5 (by omega)
  have h6 := h 6 (by omega)
  simp only [Nat.reducePow] at h0 h1 h2 h3 h4 h5 h6
  omega
theorem bits_congr {p q : Nat → Bool} {n : Nat} (h : ∀ x, x < n → p x = q x) : bits p n = bits q n := by
  induction n with
  | zero => rfl
  | succ n ih =>
    unfold bits
    rw [ih (fun x hx => h x (by omega)), h n (by omega)]
theorem bits_0 {p : Nat → Bool} {n : Nat} (h : ∀ x, x < n → p x = false) : bits p n = 0 := by
  induction n with
  | zero => rfl
  | succ n ih =>
    unfold bits
    rw [ih (fun x hx => h x (by omega)), h n (by omega)]
    rfl
theorem bits_pos {p : Nat → Bool} {n x : Nat} (hx : x < n) (h : p x = true) : 0 < bits p n := by
  rcases Nat.eq_zero_or_pos (bits p n) with e | e
  · have := bits_bit p n x
    rw [e, if_pos ⟨hx, h⟩, Nat.zero_div] at this
    omega
  · exact e
theorem one_shl {k : Nat} (hk : k < 31) : (1:Int32) <<< (nI k &&& 31) = nI (2 ^ k) := by
  have h1 : 2 ^ k ≤ 2 ^ 30 := Nat.pow_le_pow_right (by omega) (by omega)
  have := shlk (n := 1) (k := k) (by omega) (by omega)
  rw [Nat.one_mul] at this
  exact this
theorem or_bit {a k : Nat} (h : a < 2 ^ k) (hk : k < 31) : nI a ||| ((1:Int32) <<< (nI k &&& 31)) = nI (a + 2 ^ k) := by
  have := or_add (q := 1) h
  rw [Nat.one_mul] at this
  rw [one_shl hk, nI_or, Nat.or_comm, ← nI_or, this, Nat.add_comm]
theorem bits_loop {B : Int32 × Int32 → Option ((Int32 × Int32) ⊕ (Int32 × Int32))} {n : Nat} (p : Nat → Bool) (hn : n ≤ 7) (hs : ∀ k a, k < n → B (nI a, nI k) = some (.inl ((if p k then nI a ||| ((1:Int32) <<< (nI k &&& 31)) else nI a), nI (k + 1)))) (he : ∀ a, B (nI a, nI n) = some (.inr (nI a, nI n))) : pv_lq B 20000 ((0:Int32), (0:Int32)) = some (nI (bits p n), nI n) := by
  obtain ⟨e, h1, h2⟩ := lq_inv (B := B) (P := fun i st => st = (nI (bits p i), nI i)) (Q := fun e => e = (nI (bits p n), nI n)) n (fun i st hi hP => by
    subst hP
    refine ⟨_, hs i _ hi, ?_⟩
    congr 1
    by_cases hp : p i = true
    · rw [if_pos hp, or_bit (bits_lt p i) (by omega)]
      show _ = nI (bits p i + if p i = true then 2 ^ i else 0)
      rw [if_pos hp]
    · rw [if_neg hp]
      show _ = nI (bits p i + if p i = true then 2 ^ i else 0)
      rw [if_neg hp, Nat.add_zero]) (fun st hP => by
    subst hP
    exact ⟨_, he _, rfl⟩) ((0:Int32), (0:Int32)) rfl
  rw [h1, h2]
theorem ush_bit {a x : Nat} (ha : a < 2 ^ 31) (hx : x < 32) : (pv_ush (nI a) (nI x)) &&& (1:Int32) = nI (a / 2 ^ x % 2) := by
  rw [ushk (by omega) hx, and1 (Nat.lt_of_le_of_lt (Nat.div_le_self _ _) (by omega))]
theorem sh_bit {a x : Nat} (ha : a < 2 ^ 31) (hx : x < 32) : ((nI a) >>> (nI x &&& 31)) &&& (1:Int32) = nI (a / 2 ^ x % 2) := by
  have : ∀ k, k < 32 → ((nI k &&& 31).toBitVec.smod 32).toNat = k := by decide +kernel
  rw [pk_shrN ha _ x (this x hx), and1 (Nat.lt_of_le_of_lt (Nat.div_le_self _ _) (by omega))]
theorem has_ok {a x : Nat} (ha : a < 2 ^ 31) (hx : x < 32) : f117_has (nI a) (nI x) = some (if a / 2 ^ x % 2 = 1 then 1 else 0) := by
  unfold f117_has
  rw [sh_bit ha hx]
  by_cases h : a / 2 ^ x % 2 = 1
  · rw [h, if_pos (by decide), if_pos rfl]
    simp [pv_bl1]
  · rw [show a / 2 ^ x % 2 = 0 by omega, if_neg (by decide), if_neg (by decide)]
    simp [pv_bl0]
theorem clr_ok {a b : Nat} (ha : a < 128) (hb : b < 7) : nI a &&& (((1:Int32) <<< (nI b &&& 31)) ^^^ (-1:Int32)) = nI (a - a / 2 ^ b % 2 * 2 ^ b) := by
  have : ∀ a, a < 128 → ∀ b, b < 7 → nI a &&& (((1:Int32) <<< (nI b &&& 31)) ^^^ (-1:Int32)) = nI (a - a / 2 ^ b % 2 * 2 ^ b) := by decide +kernel
  exact this a ha b hb
theorem clr_bit {a b x : Nat} (ha : a < 128) (hb : b < 7) (hx : x < 7) : (a - a / 2 ^ b % 2 * 2 ^ b) / 2 ^ x % 2 = if x = b then 0 else a / 2 ^ x % 2 := by
  have : ∀ a, a < 128 → ∀ b, b < 7 → ∀ x, x < 7 → (a - a / 2 ^ b % 2 * 2 ^ b) / 2 ^ x % 2 = if x = b then 0 else a / 2 ^ x % 2 := by decide +kernel
  exact this a ha b hb x hx
theorem clr_bits {p : Nat → Bool} {n b : Nat} (hn : n ≤ 7) (hb : b < 7) : nI (bits p n) &&& (((1:Int32) <<< (nI b &&& 31)) ^^^ (-1:Int32)) = nI (bits (fun x => p x && decide (x ≠ b)) n) := by
  have h1 := bits_128 p hn
  rw [clr_ok h1 hb]
  congr 1
  refine bits_ext (by omega) (bits_128 _ hn) fun x hx => ?_
  rw [clr_bit h1 hb hx, bits_bit, bits_bit]
  by_cases hxb : x = b
  · subst hxb
    rw [if_pos rfl, if_neg (fun q => by simp at q)]
  · rw [if_neg hxb]
    by_cases hp : x < n ∧ p x = true
    · rw [if_pos hp, if_pos ⟨hp.1, by simp [hp.2, hxb]⟩]
    · rw [if_neg hp, if_neg (fun q => hp ⟨q.1, by have := q.2; simp at this; exact this.1⟩)]
def popc (a : Nat) : Nat := a % 2 + a / 2 % 2 + a / 4 % 2 + a / 8 % 2 + a / 16 % 2 + a / 32 % 2 + a / 64 % 2
def popk (a : Nat) : Nat → Nat
  | 0 => 0
  | k + 1 => popk a k + a / 2 ^ k % 2
theorem popk_7 (a : Nat) : popk a 7 = popc a := by
  simp only [popk, popc, Nat.reducePow, Nat.div_one, Nat.zero_add]
theorem sizeOf_ok {a : Nat} (h : a < 2 ^ 31) : f118_sizeOf (nI a) = some (nI (popc a)) := by
  unfold f118_sizeOf
  obtain ⟨e, h1, h2⟩ := lq_inv (B := f118_sizeOf_b1 (nI a)) (P := fun i st => st = (nI (popk a i), nI i)) (Q := fun e => e = (nI (popk a 7), nI 7)) 7 (fun i st hi hP => by
    subst hP
    unfold f118_sizeOf_b1
    simp only
    rw [if_neg (show ¬ (7:Int32) ≤ nI i from nI_ge (b := 7) hi (by omega)), sh_bit h (by omega), nI_add, nI_1]
    exact ⟨_, rfl, rfl⟩) (fun st hP => by
    subst hP
    exact ⟨_, rfl, rfl⟩) ((0:Int32), (0:Int32)) rfl
  rw [h1, h2, popk_7]
  rfl
theorem popc_ok {a : Nat} (h : a < 128) : f224_bitCount (nI a) = some (nI (popc a)) ∧ f118_sizeOf (nI a) = some (nI (popc a)) := by
  have : ∀ a, a < 128 → f224_bitCount (nI a) = some (nI (popc a)) := by decide +kernel
  exact ⟨this a h, sizeOf_ok (by omega)⟩
theorem popc_le (a : Nat) : popc a ≤ 7 := by unfold popc; omega
theorem popc_pos {a : Nat} (h0 : 0 < a) (h : a < 128) : 1 ≤ popc a := by
  have : ∀ a, a < 128 → 0 < a → 1 ≤ popc a := by decide +kernel
  exact this a h h0
/-! PEOPLE, as the class has them at a cell -/
def okF (n : Nat) (K : Nat → Nat) (nm : Nat → List Nat) (du : Nat → Nat) : Prop := n ≤ 7 ∧ ∀ x, x < n → K x ≤ 5 ∧ okN (nm x) ∧ du x ≤ 1
def FC (s : pv_F) (o n : Nat) (K : Nat → Nat) (nm : Nat → List Nat) (du : Nat → Nat) : Prop := s o 3 = nI n ∧ ∀ x, x < n → s (o + 1) x = nI (K x) ∧ s (o + 2) x = nI (pack (nm x)) ∧ s (o + 3) x = nI (du x)
theorem is_ok {s : pv_F} {o n : Nat} {K : Nat → Nat} {nm : Nat → List Nat} {du : Nat → Nat} (hF : okF n K nm du) (h : FC s o n K nm du) {x k : Nat} (hx : x < n) (hk : k < 2 ^ 31) : f8_is o (nI x) (nI k) s = some (if K x = k ∨ (k = 1 ∧ K x = 5) then 1 else 0) := by
  have h7 := hF.1
  have h5 := (hF.2 x hx).1
  unfold f8_is
  rw [rd_nI (by omega), (h.2 x hx).1]
  simp only [bs]
  by_cases e : K x = k
  · rw [if_pos (by rw [e]), if_pos (Or.inl e)]
    simp [pv_bl1]
  · rw [if_neg (fun q => e ((nI_eq (by omega) hk).mp q))]
    by_cases e1 : k = 1
    · subst e1
      rw [if_pos (show nI 1 = (1:Int32) by decide)]
      by_cases e5 : K x = 5
      · rw [e5, if_pos (show nI 5 = (5:Int32) by decide), if_pos (Or.inr ⟨rfl, rfl⟩)]
        simp [pv_bl1]
      · rw [if_neg (show ¬ nI (K x) = (5:Int32) from fun q => e5 ((nI_eq (by omega) (by omega)).mp (show nI (K x) = nI 5 from q))), if_neg (fun q => by omega)]
        simp [pv_bl0]
    · rw [if_neg (show ¬ nI k = (1:Int32) from fun q => e1 ((nI_eq hk (by omega)).mp (show nI k = nI 1 from q))), if_neg (fun q => by omega)]
      simp [pv_bl0]
theorem mom_iff (k : Nat) : mom k = true ↔ k = 1 ∨ k = 5 := by
  unfold mom
  simp
theorem momC_ok {s : pv_F} {o n : Nat} {K : Nat → Nat} {nm : Nat → List Nat} {du : Nat → Nat} (hF : okF n K nm du) (h : FC s o n K nm du) {x : Nat} (hx : x < n) : f8_is o (nI x) (1:Int32) s = some (if mom (K x) then 1 else 0) := by
  refine (is_ok hF h hx (k := 1) (by omega)).trans ?_
  by_cases hm : mom (K x) = true
  · have := (mom_iff _).mp hm
    rw [if_pos hm, if_pos (by omega)]
  · have : ¬ (K x = 1 ∨ K x = 5) := fun q => hm ((mom_iff _).mpr q)
    rw [if_neg hm, if_neg (by omega)]
theorem lives_ok {s : pv_F} {o n : Nat} {K : Nat → Nat} {nm : Nat → List Nat} {du : Nat → Nat} (hF : okF n K nm du) (h : FC s o n K nm du) {x : Nat} (hx : x < n) : f9_lives o (nI x) s = some (if K x = 3 then 0 else 1) := by
  have h7 := hF.1
  have h5 := (hF.2 x hx).1
  unfold f9_lives
  rw [rd_nI (by omega), (h.2 x hx).1]
  simp only [bs]
  by_cases e : K x = 3
  · rw [e, if_pos (show nI 3 = (3:Int32) by decide), if_pos rfl]
    simp [pv_bl0]
  · rw [if_neg (show ¬ nI (K x) = (3:Int32) from fun q => e ((nI_eq (by omega) (by omega)).mp (show nI (K x) = nI 3 from q))), if_neg e]
    simp [pv_bl1]
theorem nI_eq7 {a b : Nat} (ha : a < 2 ^ 31) (hb : b < 2 ^ 31) : (nI a = nI b) = (a = b) := propext (nI_eq ha hb)
theorem canCall_ok {s : pv_F} {o n : Nat} {K : Nat → Nat} {nm : Nat → List Nat} {du : Nat → Nat} (hF : okF n K nm du) (h : FC s o n K nm du) {b x : Nat} (hb : b < n) (hx : x < n) : f10_canCall o (nI b) (nI x) s = some (if canA K nm b x then 1 else 0) := by
  have h7 := hF.1
  unfold f10_canCall canA
  by_cases e : b = x
  · subst e
    simp [pv_bl0]
  · rw [if_neg (fun q => e ((nI_eq (by omega) (by omega)).mp q)), lives_ok hF h hb, lives_ok hF h hx, rd_nI (by omega), (h.2 x hx).2.1]
    simp only [bs, pack_0 (hF.2 x hx).2.1]
    by_cases e1 : K b = 3
    · simp [e1, pv_bl0]
    · by_cases e2 : K x = 3
      · simp [e1, e2, pv_bl0]
      · by_cases e3 : nm x = []
        · simp [e1, e2, e3, pv_bl0]
        · simp [e, e1, e2, e3, pv_bl1]
theorem canGrow_ok {s : pv_F} {o n : Nat} {K : Nat → Nat} {nm : Nat → List Nat} {du : Nat → Nat} (hF : okF n K nm du) (h : FC s o n K nm du) {x k : Nat} (hx : x < n) (hk : k ≤ 1000) : f11_canGrow o (nI x) (nI k) s = some (if K x ≠ 3 ∧ (nm x).length + k ≤ 6 then 1 else 0) := by
  have h7 := hF.1
  have hN := (hF.2 x hx).2.1
  have h6 := hN.1
  unfold f11_canGrow
  rw [lives_ok hF h hx, rd_nI (by omega), (h.2 x hx).2.1]
  simp only [bs]
  by_cases e : K x = 3
  · simp [e, pv_bl0]
  · rw [if_neg e, if_neg (by decide), size_ok hN]
    simp only [bs]
    rw [nI_add]
    by_cases e2 : (nm x).length + k ≤ 6
    · rw [if_neg (show ¬ (6:Int32) < nI _ from nI_nlt (b := _) (a := 6) e2 (by omega)), if_pos ⟨e, e2⟩]
      simp [pv_bl1]
    · rw [if_pos (show (6:Int32) < nI _ from nI_lt (a := 6) (by omega) (by omega)), if_neg (fun q => e2 q.2)]
      simp [pv_bl0]
theorem named_ok {s : pv_F} {o n : Nat} {K : Nat → Nat} {nm : Nat → List Nat} {du : Nat → Nat} (hF : okF n K nm du) (h : FC s o n K nm du) {l : List Nat} (hl : okN l) : f13_named o (nI (pack l)) s = some (nI (bits (fun x => decide (K x ≠ 3) && decide (nm x = l)) n)) := by
  have h7 := hF.1
  unfold f13_named
  rw [bits_loop (n := n) (fun x => decide (K x ≠ 3) && decide (nm x = l)) h7 (fun k a hk => ?_) (fun a => ?_)]
  · simp only [bs]
  · unfold f13_named_b1
    simp only
    rw [h.1, if_neg (nI_ge hk (by omega)), lives_ok hF h hk, rd_nI (by omega), (h.2 k hk).2.1]
    simp only [bs, pack_inj (hF.2 k hk).2.1 hl, nI_1]
    by_cases e1 : K k = 3
    · simp [e1]
    · by_cases e2 : nm k = l
      · simp [e1, e2]
      · simp [e1, e2]
  · unfold f13_named_b1
    simp only
    rw [h.1, if_pos (nI_le (by omega) (by omega))]
theorem beginning_ok {s : pv_F} {o n : Nat} {K : Nat → Nat} {nm : Nat → List Nat} {du : Nat → Nat} (hF : okF n K nm du) (h : FC s o n K nm du) {l : List Nat} (hl : okN l) : f14_beginning o (nI (pack l)) s = some (nI (bits (fun x => decide (K x ≠ 3) && decide ((nm x).take l.length = l)) n)) := by
  have h7 := hF.1
  unfold f14_beginning
  rw [size_ok hl]
  simp only [bs]
  rw [bits_loop (n := n) (fun x => decide (K x ≠ 3) && decide ((nm x).take l.length = l)) h7 (fun k a hk => ?_) (fun a => ?_)]
  · simp only [bs]
  · unfold f14_beginning_b1
    simp only
    rw [h.1, if_neg (nI_ge hk (by omega)), lives_ok hF h hk, rd_nI (by omega), (h.2 k hk).2.1]
    simp only [bs, start_ok (hF.2 k hk).2.1 hl.1, pack_inj (okN_take (hF.2 k hk).2.1 _) hl, nI_1]
    by_cases e1 : K k = 3
    · simp [e1]
    · by_cases e2 : (nm k).take l.length = l
      · simp [e1, e2]
      · simp [e1, e2]
  · unfold f14_beginning_b1
    simp only
    rw [h.1, if_pos (nI_le (by omega) (by omega))]
theorem take1_iff {l m : List Nat} (hm : m ≠ []) : l.take (m.take 1).length = m.take 1 ↔ l ≠ [] ∧ l.head? = m.head? := by
  cases m with
  | nil => exact absurd rfl hm
  | cons a m =>
    cases l with
    | nil => simp
    | cons b l => simp
theorem comers_ok {s : pv_F} {o n : Nat} {K : Nat → Nat} {nm : Nat → List Nat} {du : Nat → Nat} (hF : okF n K nm du) (h : FC s o n K nm du) {b x : Nat} (hb : b < n) (hx : x < n) : f12_comers o (nI b) (nI x) s = some (nI (if canA K nm b x then bits (comeB K n nm b x) n else 0)) := by
  have h7 := hF.1
  have hN := (hF.2 x hx).2.1
  have h5 := (hF.2 b hb).1
  unfold f12_comers
  rw [canCall_ok hF h hb hx]
  simp only [bs]
  by_cases hc : canA K nm b x = true
  · rw [if_pos hc, if_pos hc, if_neg (by decide), rd_nI (by omega), (h.2 b hb).1, rd_nI (by omega), (h.2 x hx).2.1]
    simp only [bs]
    have hne : nm x ≠ [] := by
      unfold canA at hc
      simp at hc
      exact hc.2
    by_cases e : K b = 5
    · rw [e, if_pos (show nI 5 = (5:Int32) by decide), show (1:Int32) = nI 1 from by decide, start_ok hN (by omega)]
      simp only [bs]
      rw [beginning_ok hF h (okN_take hN 1)]
      simp only [bs]
      rw [show nI 1 = (1:Int32) from by decide, clr_bits h7 (by omega)]
      refine congrArg (fun z => some (nI z)) (bits_congr fun y hy => ?_)
      unfold comeB
      simp only [take1_iff hne, e, hy]
      by_cases hyb : y = b <;> by_cases h3 : K y = 3 <;> by_cases hny : nm y = [] <;> by_cases hh : (nm y).head? = (nm x).head? <;> simp [hyb, h3, hny, hh]
    · rw [if_neg (show ¬ nI (K b) = (5:Int32) from fun q => e ((nI_eq (by omega) (by omega)).mp (show nI (K b) = nI 5 from q))), named_ok hF h hN]
      simp only [bs]
      rw [clr_bits h7 (by omega)]
      refine congrArg (fun z => some (nI z)) (bits_congr fun y hy => ?_)
      unfold comeB
      rw [if_neg e]
      by_cases hyb : y = b <;> by_cases h3 : K y = 3 <;> by_cases hny : nm y = nm x <;> simp [hyb, h3, hny, hy]
  · rw [if_neg hc, if_neg hc, if_pos rfl]
    rfl
/-! they wear -/
def wrN (K : Nat → Nat) (w a : Nat) (nm : Nat → List Nat) (du : Nat → Nat) : Nat → List Nat := fun y => if a / 2 ^ y % 2 = 1 then (comeOne K w y (nm y) (du y)).1 else nm y
def wrD (K : Nat → Nat) (w a : Nat) (nm : Nat → List Nat) (du : Nat → Nat) : Nat → Nat := fun y => if a / 2 ^ y % 2 = 1 then (comeOne K w y (nm y) (du y)).2 else du y
theorem comeOne_ok (K : Nat → Nat) (w y : Nat) {l : List Nat} {d : Nat} (h : okN l) : okN (comeOne K w y l d).1 ∧ (comeOne K w y l d).2 ≤ 1 := by
  unfold comeOne
  split
  · exact ⟨h, Nat.le_refl _⟩
  · exact ⟨okN_wear h w, Nat.zero_le _⟩
theorem okF_wr {n : Nat} {K : Nat → Nat} {nm : Nat → List Nat} {du : Nat → Nat} (hF : okF n K nm du) (w a : Nat) : okF n K (wrN K w a nm du) (wrD K w a nm du) := by
  refine ⟨hF.1, fun x hx => ⟨(hF.2 x hx).1, ?_, ?_⟩⟩
  · unfold wrN
    split
    · exact (comeOne_ok K w x (hF.2 x hx).2.1).1
    · exact (hF.2 x hx).2.1
  · unfold wrD
    split
    · exact (comeOne_ok K w x (hF.2 x hx).2.1).2
    · exact (hF.2 x hx).2.2
theorem wearC_ok {s : pv_F} {o n : Nat} {K : Nat → Nat} {nm : Nat → List Nat} {du : Nat → Nat} (hF : okF n K nm du) (h : FC s o n K nm du) {w a : Nat} (hw : w ≤ 2) (ha : a < 2 ^ 31) : ∃ s', f16_wear o (nI a) (nI w) s = some s' ∧ FC s' o n K (wrN K w a nm du) (wrD K w a nm du) ∧ ∀ c, c ≠ o + 2 → c ≠ o + 3 → s' c = s c := by
  have h7 := hF.1
  unfold f16_wear
  obtain ⟨e, h2, h3⟩ := lq_inv (B := f16_wear_b1 o (nI a) (nI w)) (P := fun i st => st.1 = nI i ∧ (∀ x, x < i → st.2 (o + 2) x = nI (pack (wrN K w a nm du x)) ∧ st.2 (o + 3) x = nI (wrD K w a nm du x)) ∧ (∀ x, i ≤ x → x < n → st.2 (o + 2) x = nI (pack (nm x)) ∧ st.2 (o + 3) x = nI (du x)) ∧ (∀ c, c ≠ o + 2 → c ≠ o + 3 → st.2 c = s c)) (Q := fun st => FC st.2 o n K (wrN K w a nm du) (wrD K w a nm du) ∧ ∀ c, c ≠ o + 2 → c ≠ o + 3 → st.2 c = s c) n (fun i st hi hP => by
    obtain ⟨v, U⟩ := st
    obtain ⟨h1, p1, p2, p3⟩ := hP
    simp only at h1 p1 p2 p3
    subst h1
    have hK := h.2 i hi
    have hO := hF.2 i hi
    unfold f16_wear_b1
    simp only
    rw [p3 o (by omega) (by omega), h.1, if_neg (nI_ge hi (by omega)), ush_bit ha (by omega), nI_1]
    by_cases hb : a / 2 ^ i % 2 = 1
    · rw [hb, if_neg (by decide), rd_nI (by omega), p3 (o + 1) (by omega) (by omega), hK.1, rd_nI (by omega), (p2 i (by omega) hi).2]
      simp only [bs]
      by_cases hs : K i = 4 ∧ du i = 0
      · rw [hs.1, hs.2, if_pos (show nI 4 = (4:Int32) by decide), if_pos (show nI 0 = (0:Int32) by decide)]
        simp only [bs]
        rw [if_neg (by decide)]
        simp only [bs]
        rw [wr_nI (by omega)]
        simp only [bs]
        rw [if_neg (by decide), rd_nI (by omega)]
        simp only [bs]
        rw [wr_nI (by omega)]
        simp only [bs]
        refine ⟨_, rfl, rfl, fun x hx => ?_, fun x hx1 hx2 => ?_, fun c h1 h2 => ?_⟩
        · by_cases hxi : x = i
          · subst hxi
            simp only
            rw [up_at, up_ne (by omega), (p2 x (by omega) hi).1, up_ne (by omega), up_at]
            unfold wrN wrD comeOne
            rw [if_pos hb, if_pos hs, if_pos hb]
            exact ⟨rfl, rfl⟩
          · simp only
            rw [up_nj hxi, up_ne (by omega), up_ne (by omega), up_nj hxi]
            exact p1 x (by omega)
        · simp only
          rw [up_nj (by omega), up_ne (by omega), up_ne (by omega), up_nj (by omega)]
          exact p2 x (by omega) hx2
        · simp only
          rw [up_ne (by omega), up_ne (by omega)]
          exact p3 c h1 h2
      · have ht : ((if nI (K i) = 4 then if nI (du i) = 0 then some (1:Int32) else some 0 else some 0) : Option Int32) = some 0 := by
          by_cases h4 : K i = 4
          · rw [if_pos (by rw [h4]; decide), if_neg (nI_ne0 (by omega) (by omega))]
          · rw [if_neg (show ¬ nI (K i) = (4:Int32) from fun q => h4 ((nI_eq (by omega) (by omega)).mp (show nI (K i) = nI 4 from q)))]
        rw [ht]
        simp only [bs]
        rw [if_pos (by decide)]
        simp only [bs]
        rw [wr_nI (by omega)]
        simp only [bs]
        rw [if_pos (by decide), rd_nI (by omega), up_ne (by omega), (p2 i (by omega) hi).1]
        simp only [bs]
        rw [worn_ok hO.2.1 hw]
        simp only [bs]
        rw [wr_nI (by omega)]
        simp only [bs]
        refine ⟨_, rfl, rfl, fun x hx => ?_, fun x hx1 hx2 => ?_, fun c h1 h2 => ?_⟩
        · by_cases hxi : x = i
          · subst hxi
            simp only
            rw [up_at, up_ne (by omega), up_at]
            unfold wrN wrD comeOne
            rw [if_pos hb, if_neg hs, if_pos hb]
            exact ⟨rfl, rfl⟩
          · simp only
            rw [up_nj hxi, up_ne (by omega), up_ne (by omega), up_nj hxi]
            exact p1 x (by omega)
        · simp only
          rw [up_nj (by omega), up_ne (by omega), up_ne (by omega), up_nj (by omega)]
          exact p2 x (by omega) hx2
        · simp only
          rw [up_ne (by omega), up_ne (by omega)]
          exact p3 c h1 h2
    · rw [show a / 2 ^ i % 2 = 0 by omega, if_pos (by decide)]
      simp only [bs]
      refine ⟨_, rfl, rfl, fun x hx => ?_, fun x hx1 hx2 => p2 x (by omega) hx2, p3⟩
      by_cases hxi : x = i
      · subst hxi
        unfold wrN wrD
        rw [if_neg hb, if_neg hb]
        exact p2 x (by omega) hi
      · exact p1 x (by omega)) (fun st hP => by
    obtain ⟨v, U⟩ := st
    obtain ⟨h1, p1, p2, p3⟩ := hP
    simp only at h1 p1 p2 p3
    subst h1
    unfold f16_wear_b1
    simp only
    rw [p3 o (by omega) (by omega), h.1, if_pos (nI_le (by omega) (by omega))]
    refine ⟨_, rfl, ⟨?_, fun x hx => ?_⟩, p3⟩
    · simp only
      rw [p3 o (by omega) (by omega)]
      exact h.1
    · simp only
      rw [p3 (o + 1) (by omega) (by omega)]
      exact ⟨(h.2 x hx).1, p1 x hx⟩) ((0:Int32), s) ⟨nI_0.symm, fun x hx => by omega, fun x hx1 hx2 => (h.2 x hx2).2, fun c h1 h2 => rfl⟩
  rw [h2]
  obtain ⟨v, U⟩ := e
  exact ⟨U, rfl, h3⟩
theorem wearBy_ok {s : pv_F} {o n : Nat} {K : Nat → Nat} {nm : Nat → List Nat} {du : Nat → Nat} (hF : okF n K nm du) (h : FC s o n K nm du) {b w a : Nat} (hb : b < n) (hw : w ≤ 2) (ha : a < 2 ^ 31) : ∃ s', f15_wearBy o (nI b) (nI a) (nI w) s = some s' ∧ FC s' o n K (if mom (K b) then nm else wrN K w a nm du) (if mom (K b) then du else wrD K w a nm du) ∧ ∀ c, c ≠ o + 2 → c ≠ o + 3 → s' c = s c := by
  unfold f15_wearBy
  rw [momC_ok hF h hb]
  simp only [bs]
  by_cases hm : mom (K b) = true
  · rw [if_pos hm, if_neg (by decide), if_pos hm, if_pos hm]
    exact ⟨s, rfl, h, fun _ _ _ => rfl⟩
  · rw [if_neg hm, if_pos rfl, if_neg hm, if_neg hm]
    obtain ⟨s', h1, h2, h3⟩ := wearC_ok hF h hw ha
    rw [h1]
    exact ⟨s', rfl, h2, h3⟩
