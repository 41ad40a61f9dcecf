/-! PACKED NAMES -/
theorem gD_in {l : List Nat} {i : Nat} (h : i < l.length) : l.getD i 0 = l[i] := by simp [List.getD_eq_getElem?_getD, h]
theorem gD_out {l : List Nat} {i : Nat} (h : l.length ≤ i) : l.getD i 0 = 0 := by simp [List.getD_eq_getElem?_getD, h]
theorem okN_d {l : List Nat} (h : okN l) (i : Nat) : l.getD i 0 ≤ 26 ∧ (i < l.length → 1 ≤ l.getD i 0) ∧ (l.length ≤ i → l.getD i 0 = 0) := by
  by_cases hi : i < l.length
  · have := h.2 (l[i]) (List.getElem_mem hi)
    rw [gD_in hi]
    omega
  · rw [gD_out (by omega)]
    omega
theorem pack_dig {l : List Nat} (h : okN l) : ∀ k, k < 6 → pack l / 2 ^ (30 - 5 * (k + 1)) % 32 = l.getD k 0 := by
  have d0 := (okN_d h 0).1
  have d1 := (okN_d h 1).1
  have d2 := (okN_d h 2).1
  have d3 := (okN_d h 3).1
  have d4 := (okN_d h 4).1
  have d5 := (okN_d h 5).1
  intro k hk
  unfold pack
  match k, hk with
  | 0, _ => simp only [Nat.reduceAdd, Nat.reduceMul, Nat.reduceSub, Nat.reducePow]; omega
  | 1, _ => simp only [Nat.reduceAdd, Nat.reduceMul, Nat.reduceSub, Nat.reducePow]; omega
  | 2, _ => simp only [Nat.reduceAdd, Nat.reduceMul, Nat.reduceSub, Nat.reducePow]; omega
  | 3, _ => simp only [Nat.reduceAdd, Nat.reduceMul, Nat.reduceSub, Nat.reducePow]; omega
  | 4, _ => simp only [Nat.reduceAdd, Nat.reduceMul, Nat.reduceSub, Nat.reducePow]; omega
  | 5, _ => simp only [Nat.reduceAdd, Nat.reduceMul, Nat.reduceSub, Nat.reducePow]; omega
theorem pack_lt {l : List Nat} (h : okN l) : pack l < 2 ^ 30 := by
  have d0 := (okN_d h 0).1
  have d1 := (okN_d h 1).1
  have d2 := (okN_d h 2).1
  have d3 := (okN_d h 3).1
  have d4 := (okN_d h 4).1
  have d5 := (okN_d h 5).1
  unfold pack
  omega
theorem getD_ext {l m : List Nat} (h : okN l) (h' : okN m) (e : ∀ k, k < 6 → l.getD k 0 = m.getD k 0) : l = m := by
  have hl : l.length = m.length := by
    rcases Nat.lt_trichotomy l.length m.length with q | q | q
    · have := (okN_d h l.length).2.2 (Nat.le_refl _)
      have := (okN_d h' l.length).2.1 q
      have := e l.length (by have := h'.1; omega)
      omega
    · exact q
    · have := (okN_d h' m.length).2.2 (Nat.le_refl _)
      have := (okN_d h m.length).2.1 q
      have := e m.length (by have := h.1; omega)
      omega
  refine List.ext_getElem hl fun i h1 h2 => ?_
  have := e i (by have := h.1; omega)
  rwa [gD_in h1, gD_in h2] at this
theorem pack_inj {l m : List Nat} (h : okN l) (h' : okN m) : nI (pack l) = nI (pack m) ↔ l = m := by
  have h1 := pack_lt h
  have h2 := pack_lt h'
  rw [nI_eq (by omega) (by omega)]
  refine ⟨fun e => getD_ext h h' fun k hk => ?_, fun e => by rw [e]⟩
  rw [← pack_dig h k hk, ← pack_dig h' k hk, e]
theorem okN_nil : okN [] := ⟨Nat.zero_le _, fun a h => by simp at h⟩
theorem pack_nil : pack [] = 0 := rfl
theorem pack_0 {l : List Nat} (h : okN l) : nI (pack l) = 0 ↔ l = [] := by
  rw [← nI_0, ← pack_nil]
  exact pack_inj h okN_nil
theorem okN_take {l : List Nat} (h : okN l) (k : Nat) : okN (l.take k) := ⟨by have := h.1; rw [List.length_take]; omega, fun a ha => h.2 a (List.mem_of_mem_take ha)⟩
theorem okN_app {l : List Nat} (h : okN l) {a : Nat} (h1 : 1 ≤ a) (h2 : a ≤ 26) (h3 : l.length < 6) : okN (l ++ [a]) := ⟨by rw [List.length_append]; exact h3, fun b hb => by
  rcases List.mem_append.mp hb with q | q
  · exact h.2 b q
  · rw [List.mem_singleton.mp q]; exact ⟨h1, h2⟩⟩
theorem okN_erase {l : List Nat} (h : okN l) (k : Nat) : okN (l.eraseIdx k) := ⟨Nat.le_trans (List.length_eraseIdx_le ..) h.1, fun a ha => h.2 a (List.mem_of_mem_eraseIdx ha)⟩
theorem ix5 {k : Nat} (h : k ≤ 6) : (30:Int32) - (5:Int32) * nI k = nI (30 - 5 * k) := by
  rw [show (30:Int32) = nI 30 from by decide, show (5:Int32) = nI 5 from by decide, pk_mul, pk_sub (by omega)]
theorem ushk {n k : Nat} (hn : n < 2 ^ 32) (hk : k < 32) : pv_ush (nI n) (nI k) = nI (n / 2 ^ k) := by
  unfold pv_ush
  have : ∀ k, k < 32 → (((nI k).toUInt32 &&& Int32.toUInt32 31).toBitVec % 32).toNat = k := by decide +kernel
  exact pk_ushrN hn _ k (this k hk)
theorem shlk {n k : Nat} (hk : k < 32) (h : n * 2 ^ k < 2 ^ 32) : nI n <<< (nI k &&& 31) = nI (n * 2 ^ k) := by
  have : ∀ k, k < 32 → ((nI k &&& 31).toBitVec.smod 32).toNat = k := by decide +kernel
  exact pk_shlN _ k (this k hk) h
theorem and31 {n : Nat} (h : n < 2 ^ 32) : nI n &&& (31:Int32) = nI (n % 32) := pk_andN h 5 (by decide)
theorem and1 {n : Nat} (h : n < 2 ^ 32) : nI n &&& (1:Int32) = nI (n % 2) := pk_andN h 1 (by decide)
theorem nI_or (a b : Nat) : nI a ||| nI b = nI (a ||| b) := by
  apply Int32.toBitVec_inj.mp
  show BitVec.ofNat 32 a ||| BitVec.ofNat 32 b = BitVec.ofNat 32 (a ||| b)
  exact BitVec.ofNat_or.symm
theorem or_add {q b k : Nat} (h : b < 2 ^ k) : nI (q * 2 ^ k) ||| nI b = nI (q * 2 ^ k + b) := by
  rw [nI_or, Nat.mul_comm q, Nat.two_pow_add_eq_or_of_lt h]
theorem letterAt_ok {l : List Nat} (h : okN l) {k : Nat} (hk : k < 6) : f219_letterAt (nI (pack l)) (nI k) = some (nI (l.getD k 0)) := by
  have h1 := pack_lt h
  unfold f219_letterAt
  rw [nI_1, ix5 (by omega), ushk (by omega) (by omega), and31 (Nat.lt_of_le_of_lt (Nat.div_le_self _ _) (by omega)), pack_dig h k hk]
theorem size_ok {l : List Nat} (h : okN l) : f218_size (nI (pack l)) = some (nI l.length) := by
  have h1 := pack_lt h
  have h6 := h.1
  unfold f218_size
  obtain ⟨e, h2, h3⟩ := lq_inv (B := f218_size_b1 (nI (pack l))) (P := fun i st => st = nI (6 - i)) (Q := fun e => e = nI l.length) (6 - l.length) (fun i st hi hP => by
    subst hP
    obtain ⟨k, hk⟩ : ∃ k, 6 - i = k + 1 := ⟨5 - i, by omega⟩
    refine ⟨nI k, ?_, by rw [show 6 - (i + 1) = k by omega]⟩
    unfold f218_size_b1
    rw [hk]
    simp only
    rw [if_neg (nI_nle (by omega) (by omega)), ix5 (by omega), ushk (by omega) (by omega), and31 (Nat.lt_of_le_of_lt (Nat.div_le_self _ _) (by omega)), pack_dig h k (by omega), (okN_d h k).2.2 (by omega), if_pos nI_0, pk_m1]) (fun st hP => by
    subst hP
    rw [show 6 - (6 - l.length) = l.length by omega]
    refine ⟨_, ?_, rfl⟩
    unfold f218_size_b1
    simp only
    by_cases hz : l.length = 0
    · rw [hz, if_pos (by decide)]
    · obtain ⟨k, hk⟩ : ∃ k, l.length = k + 1 := ⟨l.length - 1, by omega⟩
      have d := okN_d h k
      rw [hk, if_neg (nI_nle (by omega) (by omega)), ix5 (by omega), ushk (by omega) (by omega), and31 (Nat.lt_of_le_of_lt (Nat.div_le_self _ _) (by omega)), pack_dig h k (by omega), if_neg (nI_ne0 (by have := d.2.1 (by omega); omega) (by omega))]) (6:Int32) rfl
  rw [h2, h3]
  rfl
theorem getD_take (l : List Nat) (k i : Nat) : (l.take k).getD i 0 = if i < k then l.getD i 0 else 0 := by
  simp only [List.getD_eq_getElem?_getD, List.getElem?_take]
  split <;> simp
theorem start_ok {l : List Nat} (h : okN l) {k : Nat} (hk : k ≤ 6) : f220_start (nI (pack l)) (nI k) = some (nI (pack (l.take k))) := by
  have h1 := pack_lt h
  have h2 : pack l / 2 ^ (30 - 5 * k) * 2 ^ (30 - 5 * k) ≤ pack l := Nat.div_mul_le_self _ _
  unfold f220_start
  rw [ix5 hk, ushk (by omega) (by omega), shlk (by omega) (by omega)]
  refine congrArg (fun z => some (nI z)) ?_
  have d0 := (okN_d h 0).1
  have d1 := (okN_d h 1).1
  have d2 := (okN_d h 2).1
  have d3 := (okN_d h 3).1
  have d4 := (okN_d h 4).1
  have d5 := (okN_d h 5).1
  clear h1 h2
  unfold pack
  simp only [getD_take]
  generalize l.getD 0 0 = a0 at *
  generalize l.getD 1 0 = a1 at *
  generalize l.getD 2 0 = a2 at *
  generalize l.getD 3 0 = a3 at *
  generalize l.getD 4 0 = a4 at *
  generalize l.getD 5 0 = a5 at *
  match k, hk with
  | 0, _ => simp only [Nat.reduceMul, Nat.reduceSub, Nat.reducePow, Nat.reduceLT, ↓reduceIte]; omega
  | 1, _ => simp only [Nat.reduceMul, Nat.reduceSub, Nat.reducePow, Nat.reduceLT, ↓reduceIte]; omega
  | 2, _ => simp only [Nat.reduceMul, Nat.reduceSub, Nat.reducePow, Nat.reduceLT, ↓reduceIte]; omega
  | 3, _ => simp only [Nat.reduceMul, Nat.reduceSub, Nat.reducePow, Nat.reduceLT, ↓reduceIte]; omega
  | 4, _ => simp only [Nat.reduceMul, Nat.reduceSub, Nat.reducePow, Nat.reduceLT, ↓reduceIte]; omega
  | 5, _ => simp only [Nat.reduceMul, Nat.reduceSub, Nat.reducePow, Nat.reduceLT, ↓reduceIte]; omega
  | 6, _ => simp only [Nat.reduceMul, Nat.reduceSub, Nat.reducePow, Nat.reduceLT, ↓reduceIte]; omega
theorem getD_app (l : List Nat) (a i : Nat) : (l ++ [a]).getD i 0 = if i < l.length then l.getD i 0 else if i = l.length then a else 0 := by
  simp only [List.getD_eq_getElem?_getD, List.getElem?_append]
  split
  · rfl
  · split
    · subst_vars; simp
    · rw [List.getElem?_eq_none (show [a].length ≤ i - l.length by show 1 ≤ _; omega)]; rfl
theorem with_aux {N a k q : Nat} (h : N = q * 2 ^ (k + 5)) (ha : a ≤ 26) (hk : k ≤ 25) : nI N ||| (nI a <<< (nI k &&& 31)) = nI (N + a * 2 ^ k) := by
  have h1 : 2 ^ k ≤ 2 ^ 25 := Nat.pow_le_pow_right (by omega) hk
  have h2 : a * 2 ^ k ≤ 26 * 2 ^ k := Nat.mul_le_mul_right _ ha
  have h3 := Nat.two_pow_pos k
  rw [shlk (by omega) (by omega), h, or_add (by rw [Nat.pow_add]; omega)]
theorem with_ok {l : List Nat} (h : okN l) {a : Nat} (ha : a ≤ 26) (hl : l.length < 6) : f221_with (nI (pack l)) (nI a) = some (nI (pack (l ++ [a]))) := by
  unfold f221_with
  rw [size_ok h]
  simp only [Option.bind_some]
  rw [nI_1, ix5 (by omega)]
  match l, hl with
  | [], _ =>
    rw [with_aux (q := 0) (by simp only [pack, List.getD_cons_zero, List.getD_cons_succ, List.getD_nil, List.length_cons, List.length_nil, List.cons_append, List.nil_append, Nat.reduceAdd, Nat.reduceMul, Nat.reduceSub, Nat.reducePow, Nat.zero_mul, Nat.mul_zero, Nat.zero_add, Nat.add_zero]) ha (by simp only [pack, List.getD_cons_zero, List.getD_cons_succ, List.getD_nil, List.length_cons, List.length_nil, List.cons_append, List.nil_append, Nat.reduceAdd, Nat.reduceMul, Nat.reduceSub, Nat.reducePow]; omega)]
    refine congrArg (fun z => some (nI z)) ?_
    simp only [Nat.zero_mul, Nat.mul_zero, Nat.zero_add, Nat.add_zero, pack, List.getD_cons_zero, List.getD_cons_succ, List.getD_nil, List.length_cons, List.length_nil, List.cons_append, List.nil_append, Nat.reduceAdd, Nat.reduceMul, Nat.reduceSub, Nat.reducePow]
  | [b0], _ =>
    rw [with_aux (q := b0) (by simp only [pack, List.getD_cons_zero, List.getD_cons_succ, List.getD_nil, List.length_cons, List.length_nil, List.cons_append, List.nil_append, Nat.reduceAdd, Nat.reduceMul, Nat.reduceSub, Nat.reducePow]; omega) ha (by simp only [pack, List.getD_cons_zero, List.getD_cons_succ, List.getD_nil, List.length_cons, List.length_nil, List.cons_append, List.nil_append, Nat.reduceAdd, Nat.reduceMul, Nat.reduceSub, Nat.reducePow]; omega)]
    refine congrArg (fun z => some (nI z)) ?_
    simp only [pack, List.getD_cons_zero, List.getD_cons_succ, List.getD_nil, List.length_cons, List.length_nil, List.cons_append, List.nil_append, Nat.reduceAdd, Nat.reduceMul, Nat.reduceSub, Nat.reducePow]
    omega
  | [b0, b1], _ =>
    rw [with_aux (q := b0 * 32 + b1) (by simp only [pack, List.getD_cons_zero, List.getD_cons_succ, List.getD_nil, List.length_cons, List.length_nil, List.cons_append, List.nil_append, Nat.reduceAdd, Nat.reduceMul, Nat.reduceSub, Nat.reducePow]; omega) ha (by simp only [pack, List.getD_cons_zero, List.getD_cons_succ, List.getD_nil, List.length_cons, List.length_nil, List.cons_append, List.nil_append, Nat.reduceAdd, Nat.reduceMul, Nat.reduceSub, Nat.reducePow]; omega)]
    refine congrArg (fun z => some (nI z)) ?_
    simp only [pack, List.getD_cons_zero, List.getD_cons_succ, List.getD_nil, List.length_cons, List.length_nil, List.cons_append, List.nil_append, Nat.reduceAdd, Nat.reduceMul, Nat.reduceSub, Nat.reducePow]
    omega
  | [b0, b1, b2], _ =>
    rw [with_aux (q := b0 * 1024 + b1 * 32 + b2) (by simp only [pack, List.getD_cons_zero, List.getD_cons_succ, List.getD_nil, List.length_cons, List.length_nil, List.cons_append, List.nil_append, Nat.reduceAdd, Nat.reduceMul, Nat.reduceSub, Nat.reducePow]; omega) ha (by simp only [pack, List.getD_cons_zero, List.getD_cons_succ, List.getD_nil, List.length_cons, List.length_nil, List.cons_append, List.nil_append, Nat.reduceAdd, Nat.reduceMul, Nat.reduceSub, Nat.reducePow]; omega)]
    refine congrArg (fun z => some (nI z)) ?_
    simp only [pack, List.getD_cons_zero, List.getD_cons_succ, List.getD_nil, List.length_cons, List.length_nil, List.cons_append, List.nil_append, Nat.reduceAdd, Nat.reduceMul, Nat.reduceSub, Nat.reducePow]
    omega
  | [b0, b1, b2, b3], _ =>
    rw [with_aux (q := b0 * 32768 + b1 * 1024 + b2 * 32 + b3) (by simp only [pack, List.getD_cons_zero, List.getD_cons_succ, List.getD_nil, List.length_cons, List.length_nil, List.cons_append, List.nil_append, Nat.reduceAdd, Nat.reduceMul, Nat.reduceSub, Nat.reducePow]; omega) ha (by simp only [pack, List.getD_cons_zero, List.getD_cons_succ, List.getD_nil, List.length_cons, List.length_nil, List.cons_append, List.nil_append, Nat.reduceAdd, Nat.reduceMul, Nat.reduceSub, Nat.reducePow]; omega)]
    refine congrArg (fun z => some (nI z)) ?_
    simp only [pack, List.getD_cons_zero, List.getD_cons_succ, List.getD_nil, List.length_cons, List.length_nil, List.cons_append, List.nil_append, Nat.reduceAdd, Nat.reduceMul, Nat.reduceSub, Nat.reducePow]
    omega
  | [b0, b1, b2, b3, b4], _ =>
    rw [with_aux (q := b0 * 1048576 + b1 * 32768 + b2 * 1024 + b3 * 32 + b4) (by simp only [pack, List.getD_cons_zero, List.getD_cons_succ, List.getD_nil, List.length_cons, List.length_nil, List.cons_append, List.nil_append, Nat.reduceAdd, Nat.reduceMul, Nat.reduceSub, Nat.reducePow]; omega) ha (by simp only [pack, List.getD_cons_zero, List.getD_cons_succ, List.getD_nil, List.length_cons, List.length_nil, List.cons_append, List.nil_append, Nat.reduceAdd, Nat.reduceMul, Nat.reduceSub, Nat.reducePow]; omega)]
    refine congrArg (fun z => some (nI z)) ?_
    simp only [pack, List.getD_cons_zero, List.getD_cons_succ, List.getD_nil, List.length_cons, List.length_nil, List.cons_append, List.nil_append, Nat.reduceAdd, Nat.reduceMul, Nat.reduceSub, Nat.reducePow]
    omega
  | _ :: _ :: _ :: _ :: _ :: _ :: _, hl => simp at hl; omega
theorem getD_erase (l : List Nat) (k i : Nat) : (l.eraseIdx k).getD i 0 = if i < k then l.getD i 0 else l.getD (i + 1) 0 := by
  simp only [List.getD_eq_getElem?_getD, List.getElem?_eraseIdx]
  split <;> rfl
theorem sub1_mask {k : Nat} (hk : k ≤ 25) : ((1:Int32) <<< (nI k &&& 31)) - 1 = nI (2 ^ k - 1) := by
  have : ∀ k, k ≤ 25 → ((1:Int32) <<< (nI k &&& 31)) - 1 = nI (2 ^ k - 1) := by decide +kernel
  exact this k hk
theorem without_ok {l : List Nat} (h : okN l) {k : Nat} (hk : k < 6) : f222_without (nI (pack l)) (nI k) = some (nI (pack (l.eraseIdx k))) := by
  have h1 := pack_lt h
  unfold f222_without
  rw [nI_1, ix5 (by omega), sub1_mask (by omega), show (5:Int32) = nI 5 from by decide, nI_add, show 30 - 5 * (k + 1) + 5 = 30 - 5 * k by omega, ushk (by omega) (by omega), shlk (by omega) (by have := Nat.div_mul_le_self (pack l) (2 ^ (30 - 5 * k)); omega), pk_andN (by omega) (30 - 5 * (k + 1)) (pk_tn (by
    have : 2 ^ (30 - 5 * (k + 1)) ≤ 2 ^ 25 := Nat.pow_le_pow_right (by omega) (by omega)
    omega))]
  have hm : pack l % 2 ^ (30 - 5 * (k + 1)) * 32 < 2 ^ (30 - 5 * k) := by
    have := Nat.mod_lt (pack l) (Nat.two_pow_pos (30 - 5 * (k + 1)))
    rw [show 30 - 5 * k = 30 - 5 * (k + 1) + 5 by omega, Nat.pow_add]
    omega
  have hp : 2 ^ (30 - 5 * k) ≤ 2 ^ 30 := Nat.pow_le_pow_right (by omega) (by omega)
  rw [shlk (by omega) (by simp only [Nat.reducePow]; omega)]
  rw [or_add (by simp only [Nat.reducePow] at hm ⊢; exact hm)]
  congr 2
  have d0 := (okN_d h 0).1
  have d1 := (okN_d h 1).1
  have d2 := (okN_d h 2).1
  have d3 := (okN_d h 3).1
  have d4 := (okN_d h 4).1
  have d5 := (okN_d h 5).1
  have d6 := (okN_d h 6).2.2 h.1
  clear h1 hm hp
  unfold pack
  simp only [getD_erase, d6]
  generalize l.getD 0 0 = a0 at *
  generalize l.getD 1 0 = a1 at *
  generalize l.getD 2 0 = a2 at *
  generalize l.getD 3 0 = a3 at *
  generalize l.getD 4 0 = a4 at *
  generalize l.getD 5 0 = a5 at *
  match k, hk with
  | 0, _ => simp; omega
  | 1, _ => simp; omega
  | 2, _ => simp; omega
  | 3, _ => simp; omega
  | 4, _ => simp; omega
  | 5, _ => simp; omega
theorem vowelC_ok {a : Nat} (h : a ≤ 26) : f217_isVowel (nI a) = some (if vow a then 1 else 0) := by
  have : ∀ a, a ≤ 26 → f217_isVowel (nI a) = some (if vow a then 1 else 0) := by decide +kernel
  exact this a h
theorem vowelM_ok {a : Nat} (h : a ≤ 26) : f135_isVowel (nI (96 + a)) = some (if vow a then 1 else 0) := by
  have : ∀ a, a ≤ 26 → f135_isVowel (nI (96 + a)) = some (if vow a then 1 else 0) := by decide +kernel
  exact this a h
/-! where a name wears -/
def wearIx (w : Nat) (l : List Nat) : Nat := if w = 1 then 0 else if w = 2 then (match l.findIdx? vow with
  | some i => i
  | none => l.length - 1) else l.length - 1
theorem wearIx_lt (w : Nat) {l : List Nat} (h : l ≠ []) : wearIx w l < l.length := by
  have h0 : 0 < l.length := List.length_pos_iff.mpr h
  unfold wearIx
  split
  · exact h0
  · split
    · split
      · rename_i i hi
        obtain ⟨q, -⟩ := List.findIdx?_eq_some_iff_getElem.mp hi
        exact q
      · omega
    · omega
theorem wearA_nil (w : Nat) : wearA w [] = [] := by
  unfold wearA
  split
  · rfl
  · split <;> rfl
theorem wearA_ix (w : Nat) {l : List Nat} (h : l ≠ []) : wearA w l = l.eraseIdx (wearIx w l) := by
  have h0 : 0 < l.length := List.length_pos_iff.mpr h
  unfold wearA wearIx
  split
  · exact List.eraseIdx_zero.symm
  · split
    · cases l.findIdx? vow with
      | some i => rfl
      | none => exact (List.eraseIdx_eq_dropLast (show l.length - 1 + 1 = l.length by omega)).symm
    · exact (List.eraseIdx_eq_dropLast (show l.length - 1 + 1 = l.length by omega)).symm
theorem okN_wear {l : List Nat} (h : okN l) (w : Nat) : okN (wearA w l) := by
  by_cases hl : l = []
  · subst hl; rw [wearA_nil]; exact h
  · rw [wearA_ix w hl]; exact okN_erase h _
theorem wearA_len (w : Nat) (l : List Nat) : (wearA w l).length = l.length - 1 := by
  by_cases hl : l = []
  · subst hl; rw [wearA_nil]; rfl
  · rw [wearA_ix w hl, List.length_eraseIdx_of_lt (wearIx_lt w hl)]
/-- the first vowel: where a search for it ends -/
theorem fst_vow {l : List Nat} {i : Nat} (h : ∀ j, j < i → vow (l.getD j 0) = false) (hi : i < l.length) (hv : vow (l.getD i 0) = true) : l.findIdx? vow = some i := by
  refine List.findIdx?_eq_some_iff_getElem.mpr ⟨hi, ?_, fun j hj => ?_⟩
  · rw [← gD_in hi]; exact hv
  · rw [← gD_in (by omega), h j hj]; decide
theorem no_vow {l : List Nat} (h : ∀ j, j < l.length → vow (l.getD j 0) = false) : l.findIdx? vow = none := by
  refine List.findIdx?_eq_none_iff.mpr fun x hx => ?_
  obtain ⟨j, hj, rfl⟩ := List.getElem_of_mem hx
  rw [← gD_in hj]; exact h j hj
theorem nI2 : (2:Int32) = nI 2 := by decide
theorem worn_ok {l : List Nat} (h : okN l) {w : Nat} (hw : w ≤ 2) : f223_worn (nI (pack l)) (nI w) = some (nI (pack (wearA w l))) := by
  have h6 := h.1
  unfold f223_worn
  rw [size_ok h]
  simp only [Option.bind_some]
  by_cases hl : l = []
  · subst hl
    rw [if_pos (show nI [].length = 0 from nI_0), wearA_nil]
  have h0 : 0 < l.length := List.length_pos_iff.mpr hl
  rw [if_neg (nI_ne0 h0 (by omega))]
  by_cases hw1 : w = 1
  · subst hw1
    rw [if_pos (show nI 1 = (1:Int32) by decide), ← nI_0, without_ok h (by omega)]
    simp only [Option.bind_some]
    rw [wearA_ix 1 hl]
    rfl
  rw [if_neg (show ¬ nI w = (1:Int32) from fun q => hw1 ((nI_eq (by omega) (by omega)).mp (show nI w = nI 1 from q)))]
  by_cases hw2 : w = 2
  · subst hw2
    obtain ⟨o, h2, h3⟩ := lp_inv (B := f223_worn_b1 (nI (pack l)) (nI 2) (nI l.length)) (P := fun i st => st = nI i ∧ ∀ j, j < i → vow (l.getD j 0) = false) (Q := fun o => match o with
      | .inl _ => l.findIdx? vow = none
      | .inr q => ∃ i, l.findIdx? vow = some i ∧ q = nI (pack (l.eraseIdx i))) l.length (fun i st hi hP => by
      obtain ⟨rfl, hP⟩ := hP
      unfold f223_worn_b1
      simp only
      rw [if_pos (show nI 2 = (2:Int32) by decide)]
      by_cases hil : i = l.length
      · refine Or.inr ⟨.inl (nI i), ?_, no_vow (fun j hj => hP j (by omega))⟩
        rw [if_pos (nI_le (by omega) (by omega))]
      · rw [if_neg (nI_ge (by omega) (by omega)), letterAt_ok h (by omega)]
        simp only [Option.bind_some]
        rw [vowelC_ok (okN_d h i).1]
        simp only [Option.bind_some]
        by_cases hv : vow (l.getD i 0) = true
        · rw [hv, if_pos rfl, if_neg (by decide), without_ok h (by omega)]
          exact Or.inr ⟨_, rfl, i, fst_vow hP (by omega) hv, rfl⟩
        · have hv' : vow (l.getD i 0) = false := by simpa using hv
          rw [hv', if_pos (by decide), nI_1]
          refine Or.inl ⟨by omega, _, rfl, rfl, fun j hj => ?_⟩
          by_cases hji : j = i
          · subst hji; exact hv'
          · exact hP j (by omega)) (0:Int32) ⟨nI_0.symm, fun j hj => by omega⟩
    rw [h2]
    simp only [Option.bind_some]
    match o, h3 with
    | .inl z, h3 =>
      simp only
      rw [show (1:Int32) = nI 1 from by decide, pk_sub (by omega), without_ok h (by omega)]
      simp only [Option.bind_some]
      rw [wearA_ix 2 hl]
      unfold wearIx
      simp only at h3
      rw [if_neg (by decide), if_pos rfl, h3]
    | .inr q, ⟨i, h3, h4⟩ =>
      simp only
      rw [h4]
      unfold wearA
      rw [if_neg (by decide), if_pos rfl, h3]
  · obtain rfl : w = 0 := by omega
    have hp : pv_lp (f223_worn_b1 (nI (pack l)) (nI 0) (nI l.length)) 20000 (0:Int32) = some (.inl 0) := by
      show pv_lp (f223_worn_b1 (nI (pack l)) (nI 0) (nI l.length)) (19999 + 1) (0:Int32) = some (.inl 0)
      unfold pv_lp
      unfold f223_worn_b1
      simp only
      rw [if_neg (show ¬ nI 0 = (2:Int32) by decide)]
    rw [hp]
    simp only [Option.bind_some]
    rw [show (1:Int32) = nI 1 from by decide, pk_sub (by omega), without_ok h (by omega)]
    simp only [Option.bind_some]
    rw [wearA_ix 0 hl]
    rfl
/-- the model wears a name that lies in an array -/
theorem wornAt_ok {T : pv_T} {c o w N : Nat} {l : List Nat} (h : okN l) (hl : l ≠ []) (hw : w ≤ 2) (hT : T.1 94 9 = nI w) (hN : pv_an c = N) (ho : o + l.length ≤ N) (hN2 : N < 2 ^ 31) (hv : ∀ i, i < l.length → T.1 c (o + i) = nI (96 + l.getD i 0)) : f154_wornAt c (nI o) (nI l.length) T = some (nI (wearIx w l)) := by
  have h6 := h.1
  have h0 : 0 < l.length := List.length_pos_iff.mpr hl
  unfold f154_wornAt
  rw [hT]
  by_cases hw1 : w = 1
  · subst hw1
    rw [if_pos (show nI 1 = (1:Int32) by decide)]
    rfl
  rw [if_neg (show ¬ nI w = (1:Int32) from fun q => hw1 ((nI_eq (by omega) (by omega)).mp (show nI w = nI 1 from q)))]
  by_cases hw2 : w = 2
  · subst hw2
    obtain ⟨r, h2, h3⟩ := lp_inv (B := f154_wornAt_b1 c (nI o) (nI l.length) T) (P := fun i st => st = nI i ∧ ∀ j, j < i → vow (l.getD j 0) = false) (Q := fun o => match o with
      | .inl _ => l.findIdx? vow = none
      | .inr q => ∃ i, l.findIdx? vow = some i ∧ q = nI i) l.length (fun i st hi hP => by
      obtain ⟨rfl, hP⟩ := hP
      unfold f154_wornAt_b1
      simp only
      by_cases hil : i = l.length
      · refine Or.inr ⟨.inl (nI i), ?_, no_vow (fun j hj => hP j (by omega))⟩
        rw [if_pos (nI_le (by omega) (by omega))]
      · rw [if_neg (nI_ge (by omega) (by omega)), hT, if_pos (show nI 2 = (2:Int32) by decide), nI_add, hN, rd_nI (by omega) hN2, hv i (by omega)]
        simp only [Option.bind_some]
        rw [vowelM_ok (okN_d h i).1]
        simp only [Option.bind_some]
        by_cases hv : vow (l.getD i 0) = true
        · rw [hv, if_pos rfl, if_neg (by decide)]
          exact Or.inr ⟨_, rfl, i, fst_vow hP (by omega) hv, rfl⟩
        · have hv' : vow (l.getD i 0) = false := by simpa using hv
          rw [hv', if_pos (by decide), nI_1]
          refine Or.inl ⟨by omega, _, rfl, rfl, fun j hj => ?_⟩
          by_cases hji : j = i
          · subst hji; exact hv'
          · exact hP j (by omega)) (0:Int32) ⟨nI_0.symm, fun j hj => by omega⟩
    rw [h2]
    simp only [Option.bind_some]
    match r, h3 with
    | .inl z, h3 =>
      simp only
      rw [show (1:Int32) = nI 1 from by decide, pk_sub (by omega)]
      unfold wearIx
      simp only at h3
      rw [if_neg (by decide), if_pos rfl, h3]
    | .inr q, ⟨i, h3, h4⟩ =>
      simp only
      rw [h4]
      unfold wearIx
      rw [if_neg (by decide), if_pos rfl, h3]
  · obtain rfl : w = 0 := by omega
    have hp : pv_lp (f154_wornAt_b1 c (nI o) (nI l.length) T) 20000 (0:Int32) = some (.inl 0) := by
      show pv_lp (f154_wornAt_b1 c (nI o) (nI l.length) T) (19999 + 1) (0:Int32) = some (.inl 0)
      unfold pv_lp
      unfold f154_wornAt_b1
      simp only
      rw [if_neg (show ¬ nI l.length ≤ (0:Int32) from nI_nle h0 (by omega)), hT, if_neg (show ¬ nI 0 = (2:Int32) by decide)]
    rw [hp]
    simp only [Option.bind_some]
    rw [show (1:Int32) = nI 1 from by decide, pk_sub (by omega)]
    rfl
theorem wearM_ok {T : pv_T} {c o w N : Nat} {l : List Nat} (h : okN l) (hl : l ≠ []) (hw : w ≤ 2) (hT : T.1 94 9 = nI w) (hN : pv_an c = N) (ho : o + l.length ≤ N) (hN2 : N < 2 ^ 31) (hv : ∀ i, i < l.length → T.1 c (o + i) = nI (96 + l.getD i 0)) : ∃ T', f155_wear c (nI o) (nI l.length) T = some (nI (l.length - 1), T') ∧ (∀ i, i < l.length - 1 → T'.1 c (o + i) = nI (96 + (wearA w l).getD i 0)) ∧ (∀ a, a ≠ c → T'.1 a = T.1 a) ∧ (∀ j, j < o ∨ o + l.length ≤ j → T'.1 c j = T.1 c j) := by
  have h6 := h.1
  have h0 : 0 < l.length := List.length_pos_iff.mpr hl
  have hx := wearIx_lt w hl
  unfold f155_wear
  rw [wornAt_ok h hl hw hT hN ho hN2 hv]
  simp only [Option.bind_some]
  rw [wearA_ix w hl]
  generalize wearIx w l = k at *
  obtain ⟨e, h2, h3⟩ := lq_inv (B := f155_wear_b1 c (nI o) (nI l.length)) (P := fun i st => st.1 = nI (k + i) ∧ (∀ j, j < k + i → st.2.1 c (o + j) = nI (96 + (l.eraseIdx k).getD j 0)) ∧ (∀ j, k + i ≤ j → j < l.length → st.2.1 c (o + j) = nI (96 + l.getD j 0)) ∧ (∀ a, a ≠ c → st.2.1 a = T.1 a) ∧ (∀ j, j < o ∨ o + l.length ≤ j → st.2.1 c j = T.1 c j)) (Q := fun st => (∀ j, j < l.length - 1 → st.2.1 c (o + j) = nI (96 + (l.eraseIdx k).getD j 0)) ∧ (∀ a, a ≠ c → st.2.1 a = T.1 a) ∧ (∀ j, j < o ∨ o + l.length ≤ j → st.2.1 c j = T.1 c j)) (l.length - 1 - k) (fun i st hi hP => by
    obtain ⟨v, U⟩ := st
    obtain ⟨h1, p1, p2, p3, p4⟩ := hP
    simp only at h1 p1 p2 p3 p4
    subst h1
    unfold f155_wear_b1
    simp only
    rw [show (1:Int32) = nI 1 from by decide, pk_sub (by omega), if_neg (nI_ge (by omega) (by omega)), nI_add, nI_add, hN, rd_nI (by omega) hN2]
    simp only [Option.bind_some]
    rw [wm_nI (by omega) hN2]
    simp only [Option.bind_some]
    rw [nI_add]
    refine ⟨_, rfl, by rw [Nat.add_assoc], fun j hj => ?_, fun j hj hj2 => ?_, fun a ha => ?_, fun j hj => ?_⟩
    · show pv_up U.1 c (o + (k + i)) _ c (o + j) = _
      by_cases hji : j = k + i
      · subst hji
        rw [up_at, Nat.add_assoc, p2 _ (by omega) (by omega), getD_erase, if_neg (by omega)]
      · rw [up_nj (by omega)]
        exact p1 j (by omega)
    · show pv_up U.1 c (o + (k + i)) _ c (o + j) = _
      rw [up_nj (by omega)]
      exact p2 j (by omega) hj2
    · show pv_up U.1 c (o + (k + i)) _ a = _
      rw [up_ne ha]
      exact p3 a ha
    · show pv_up U.1 c (o + (k + i)) _ c j = _
      rw [up_nj (by omega)]
      exact p4 j hj) (fun st hP => by
    obtain ⟨v, U⟩ := st
    obtain ⟨h1, p1, p2, p3, p4⟩ := hP
    simp only at h1 p1 p2 p3 p4
    subst h1
    unfold f155_wear_b1
    simp only
    rw [show (1:Int32) = nI 1 from by decide, pk_sub (by omega), if_pos (nI_le (by omega) (by omega))]
    exact ⟨_, rfl, fun j hj => p1 j (by omega), p3, p4⟩) (nI k, T) ⟨rfl, fun j hj => by
      simp only
      rw [hv j (by omega), getD_erase, if_pos (by omega)], fun j hj hj2 => hv j hj2, fun a ha => rfl, fun j hj => rfl⟩
  rw [h2]
  obtain ⟨v, U⟩ := e
  simp only [Option.bind_some]
  rw [show (1:Int32) = nI 1 from by decide, pk_sub (by omega)]
  exact ⟨U, rfl, h3⟩
