/-! THE TOWN as both have it -/
theorem okT_step {n : Nat} {K : Nat → Nat} {A : TS} {d : Deed} (h : okT n K A) (hd : okD K n A d) : okT n K (stepA K n A d) := by
  refine ⟨h.1, fun x hx => ⟨(h.2 x hx).1, ?_⟩⟩
  obtain ⟨h1, h2, h3⟩ := h.2 x hx
  unfold stepA
  by_cases e : d.2.2.1 = 0
  · rw [if_pos e]
    unfold callA
    simp only
    split
    · exact comeOne_ok K _ x h2
    · exact ⟨h2, h3⟩
  · rw [if_neg e]
    unfold mendA
    simp only
    refine ⟨?_, h3⟩
    obtain ⟨-, -, g⟩ := hd
    rw [if_neg e] at g
    split
    · rename_i e2
      subst e2
      exact okN_app h2 (by omega) g.2.2.1 g.2.1
    · exact h2
theorem runA_take {n : Nat} {K : Nat → Nat} {A : TS} {ds : List Deed} {j : Nat} {d : Deed} (h : ds[j]? = some d) : runA K n A (ds.take (j + 1)) = stepA K n (runA K n A (ds.take j)) d := by
  unfold runA
  rw [List.take_add_one, h, List.foldl_append]
  rfl
theorem okT_take {n : Nat} {K : Nat → Nat} {A : TS} {ds : List Deed} (h : okT n K A) (hd : okDs K n A ds) : ∀ j, okT n K (runA K n A (ds.take j))
  | 0 => h
  | j + 1 => by
    cases e : ds[j]? with
    | none =>
      rw [List.take_add_one, e]
      simp only [Option.toList, List.append_nil]
      exact okT_take h hd j
    | some d =>
      rw [runA_take e]
      exact okT_step (okT_take h hd j) (hd.2 j d e)
theorem okT_run {n : Nat} {K : Nat → Nat} {A : TS} {ds : List Deed} (h : okT n K A) (hd : okDs K n A ds) : okT n K (runA K n A ds) := by
  have := okT_take h hd ds.length
  rwa [List.take_length] at this
theorem Town.ok0 {s : pv_F} {T : pv_T} {n : Nat} {K : Nat → Nat} {nm : Nat → List Nat} {ds : List Deed} {kd : Nat → Option (List Deed)} (h : Town s T n K nm ds kd) : okT n K (A_0 nm) := ⟨h.1.1, fun x hx => ⟨(h.1.2.1 x hx).1, (h.1.2.1 x hx).2.1, Nat.zero_le _⟩⟩
theorem FC_of {s : pv_F} {n : Nat} {K : Nat → Nat} {A : TS} (hK : ∀ x, x < n → s 9 x = nI (K x)) (h8 : s 8 3 = nI n) (h : CRep s n A) : FC s 8 n K A.1 A.2.1 := ⟨h8, fun x hx => ⟨hK x hx, (h.1 x hx).1, (h.1 x hx).2.1⟩⟩
theorem Town.view {s : pv_F} {T : pv_T} {n : Nat} {K : Nat → Nat} {nm : Nat → List Nat} {ds : List Deed} {kd : Nat → Option (List Deed)} (h : Town s T n K nm ds kd) : okT n K (runA K n (A_0 nm) ds) ∧ FC s 8 n K (runA K n (A_0 nm) ds).1 (runA K n (A_0 nm) ds).2.1 ∧ MR T n K (runA K n (A_0 nm) ds) ∧ CRep s n (runA K n (A_0 nm) ds) :=
  ⟨okT_run h.ok0 h.2.1.1, FC_of (fun x hx => (h.1.2.1 x hx).2.2.2.1) h.1.2.2.2.1 h.2.1.2.2.1, ⟨h.1.2.2.2.2, fun x hx => (h.1.2.1 x hx).2.2.2.2.1, h.2.1.2.2.2.2.1⟩, h.2.1.2.2.1⟩
theorem ITown.view {s : pv_F} {T : pv_T} (h : ITown s T) : ∃ n K A, n ≤ 7 ∧ okT n K A ∧ FC s 8 n K A.1 A.2.1 ∧ MR T n K A ∧ CRep s n A := by
  obtain ⟨n, K, nm, ds, kd, h⟩ := h
  exact ⟨n, K, _, h.1.1, h.view⟩
/-! who is a person -/
theorem perC_in {s : pv_F} {n x : Nat} (h : s 8 3 = nI n) (hx : x < n) (hn : n ≤ 7) : f102_isPerson (nI x) s = some 1 := by
  unfold f102_isPerson
  rw [if_neg (nI_pos (by omega)), h, if_neg (nI_ge hx (by omega))]
  simp [pv_bl1]
theorem perC_out {s : pv_F} {n : Nat} {a : Int32} (h : s 8 3 = nI n) (ha : a < 0 ∨ nI n ≤ a) : f102_isPerson a s = some 0 := by
  unfold f102_isPerson
  rw [h]
  by_cases h1 : a < 0
  · rw [if_pos h1]
    simp [pv_bl0]
  · rw [if_neg h1, if_pos (by rcases ha with q | q; exact absurd q h1; exact q)]
    simp [pv_bl0]
theorem perM_in {T : pv_T} {n x : Nat} (h : T.1 94 8 = nI n) (hx : x < n) (hn : n ≤ 7) : f140_isOne (nI x) T = some 1 := by
  unfold f140_isOne
  rw [h, in_len hx (by omega)]
  simp [pv_bl1]
theorem perM_out {T : pv_T} {n : Nat} {a : Int32} (h : T.1 94 8 = nI n) (ha : a < 0 ∨ nI n ≤ a) (hn : n ≤ 7) : f140_isOne a T = some 0 := by
  unfold f140_isOne
  rw [h, out_len (by omega) ha]
  simp [pv_bl0]
theorem per_cases (a : Int32) {n : Nat} (hn : n ≤ 7) : (a < 0 ∨ nI n ≤ a) ∨ ∃ x, x < n ∧ a = nI x := by
  rcases pk_ix a (n := n) (by omega) with h | h | h
  · exact Or.inl (Or.inl h)
  · exact Or.inl (Or.inr h)
  · exact Or.inr h
theorem pair_ok {s : pv_F} {T : pv_T} {n : Nat} {a b : Int32} (hn : n ≤ 7) (h : s 8 3 = nI n) (h' : T.1 94 8 = nI n) : (f103_isPair a b s = some 0 ∧ f159_areTwo a b T = some 0) ∨ ∃ x y, x < n ∧ y < n ∧ x ≠ y ∧ a = nI x ∧ b = nI y ∧ f103_isPair a b s = some 1 ∧ f159_areTwo a b T = some 1 := by
  unfold f103_isPair f159_areTwo
  rcases per_cases a hn with ha | ⟨x, hx, rfl⟩
  · rw [perC_out h ha, perM_out h' ha hn]
    exact Or.inl ⟨by simp [pv_bl0], by simp [pv_bl0]⟩
  rw [perC_in h hx hn, perM_in h' hx hn]
  rcases per_cases b hn with hb | ⟨y, hy, rfl⟩
  · rw [perC_out h hb, perM_out h' hb hn]
    exact Or.inl ⟨by simp [pv_bl0], by simp [pv_bl0]⟩
  rw [perC_in h hy hn, perM_in h' hy hn]
  by_cases e : x = y
  · subst e
    exact Or.inl ⟨by simp [pv_bl0], by simp [pv_bl0]⟩
  · have e' : ¬ nI x = nI y := fun q => e ((nI_eq (by omega) (by omega)).mp q)
    exact Or.inr ⟨x, y, hx, hy, e, rfl, rfl, by simp [pv_bl1, e'], by simp [pv_bl1, e']⟩
theorem op10 : OP10 Inv := by
  intro a b s T h
  obtain ⟨n, K, A, hn, hF, hC, hM, hR⟩ := h.2.2.2.view
  unfold f64_person f147_person
  rcases per_cases a hn with ha | ⟨x, hx, rfl⟩
  · rw [perC_out hC.1 ha, perM_out hM.1 ha hn]
    exact ⟨-1, s, T, rfl, rfl, h⟩
  rw [perC_in hC.1 hx hn, perM_in hM.1 hx hn]
  simp only [bs]
  rw [if_neg (show ¬ (1:Int32) = 0 by decide), if_neg (show ¬ (1:Int32) = 0 by decide), in_eq]
  rcases pk_ix b (n := 5) (by omega) with hb | hb | ⟨k, hk, rfl⟩
  · rw [if_pos hb, if_pos hb]
    exact ⟨-1, s, T, rfl, rfl, h⟩
  · obtain ⟨c1, -, c3, c4⟩ := cmp_big hb (by omega)
    rw [if_neg c1, if_neg c1, if_pos (show (4:Int32) < b from (c3 4 (by omega)).2), if_neg (show ¬ b < (5:Int32) from (c4 5 (by omega)).2)]
    exact ⟨-1, s, T, rfl, rfl, h⟩
  · rw [if_neg (nI_pos (by omega)), if_neg (nI_pos (by omega)), if_neg (show ¬ (4:Int32) < nI k from nI_nlt (a := 4) (by omega) (by omega)), if_pos (show nI k < (5:Int32) from nI_lt (b := 5) hk (by omega))]
    simp only [bs]
    rw [if_neg (show ¬ (1:Int32) = 0 by decide)]
    have hc := hC.2 x hx
    have hm := hM.2.2.1 x hx
    have hr := hR.1 x hx
    have key : ∃ v, f49_fact (nI x) (nI k) s = some v ∧ f146_personOf (nI x) (nI k) T = some v := by
      unfold f49_fact f146_personOf
      match k, hk with
      | 0, _ =>
        rw [if_pos (show nI 0 = (0:Int32) by decide), if_pos (show nI 0 = (0:Int32) by decide), rd_nI (by omega), rd_nI (by omega), (hC.2 x hx).1, hM.2.1 x hx]
        exact ⟨_, rfl, rfl⟩
      | 1, _ =>
        rw [if_neg (show ¬ nI 1 = (0:Int32) by decide), if_neg (show ¬ nI 1 = (0:Int32) by decide), if_pos (show nI 1 = (1:Int32) by decide), if_pos (show nI 1 = (1:Int32) by decide), rd_nI (by omega), hr.1, lenOf_ok hn hM hx]
        simp only [bs]
        rw [size_ok (hF.2 x hx).2.1]
        exact ⟨_, rfl, rfl⟩
      | 2, _ =>
        rw [if_neg (show ¬ nI 2 = (0:Int32) by decide), if_neg (show ¬ nI 2 = (0:Int32) by decide), if_neg (show ¬ nI 2 = (1:Int32) by decide), if_neg (show ¬ nI 2 = (1:Int32) by decide), if_pos (show nI 2 = (2:Int32) by decide), if_pos (show nI 2 = (2:Int32) by decide), rd_nI (by omega), hr.2.2.1, nI56, rd_nI (by omega), ← Nat.zero_add (56 + x), hm.2.2.2.1]
        exact ⟨_, rfl, rfl⟩
      | 3, _ =>
        rw [if_neg (show ¬ nI 3 = (0:Int32) by decide), if_neg (show ¬ nI 3 = (0:Int32) by decide), if_neg (show ¬ nI 3 = (1:Int32) by decide), if_neg (show ¬ nI 3 = (1:Int32) by decide), if_neg (show ¬ nI 3 = (2:Int32) by decide), if_neg (show ¬ nI 3 = (2:Int32) by decide), if_pos (show nI 3 = (3:Int32) by decide), if_pos (show nI 3 = (3:Int32) by decide), rd_nI (by omega), hr.2.2.2.1, nI63, rd_nI (by omega), ← Nat.zero_add (63 + x), hm.2.2.2.2.1]
        exact ⟨_, rfl, rfl⟩
      | 4, _ =>
        rw [if_neg (show ¬ nI 4 = (0:Int32) by decide), if_neg (show ¬ nI 4 = (0:Int32) by decide), if_neg (show ¬ nI 4 = (1:Int32) by decide), if_neg (show ¬ nI 4 = (1:Int32) by decide), if_neg (show ¬ nI 4 = (2:Int32) by decide), if_neg (show ¬ nI 4 = (2:Int32) by decide), if_neg (show ¬ nI 4 = (3:Int32) by decide), if_neg (show ¬ nI 4 = (3:Int32) by decide), rd_nI (by omega), hr.2.2.2.2, nI70, rd_nI (by omega), ← Nat.zero_add (70 + x), hm.2.2.2.2.2]
        exact ⟨_, rfl, rfl⟩
    obtain ⟨v, k1, k2⟩ := key
    rw [k1, k2]
    exact ⟨1, _, _, rfl, rfl, h.put0 (Or.inr (Or.inr ⟨rfl, rfl⟩))⟩
theorem op11 : OP11 Inv := by
  intro a b s T h
  obtain ⟨n, K, A, hn, hF, hC, hM, hR⟩ := h.2.2.2.view
  unfold f65_letter f148_letter
  rcases per_cases a hn with ha | ⟨x, hx, rfl⟩
  · rw [perC_out hC.1 ha, perM_out hM.1 ha hn]
    exact ⟨-1, s, T, rfl, rfl, h⟩
  have hN := (hF.2 x hx).2.1
  have h6 := hN.1
  rw [perC_in hC.1 hx hn, perM_in hM.1 hx hn]
  simp only [bs]
  rw [if_neg (show ¬ (1:Int32) = 0 by decide), if_neg (show ¬ (1:Int32) = 0 by decide)]
  by_cases hb : b < 0
  · rw [if_neg (neg_not_le hb), if_neg (neg_not_le hb)]
    exact ⟨-1, s, T, rfl, rfl, h⟩
  obtain ⟨k, hk, rfl⟩ := nI_of hb
  rw [if_pos (nI_pos' hk), if_pos (nI_pos' hk), rd_nI (by omega), (hR.1 x hx).1, lenOf_ok hn hM hx]
  simp only [bs]
  rw [size_ok hN]
  simp only [bs]
  by_cases e : k < (A.1 x).length
  · rw [if_pos (nI_lt e (by omega)), if_neg (nI_ge e (by omega)), letterAt_ok hN (by omega), letterOf_ok hF hM hx e]
    simp only [bs]
    rw [show (96:Int32) = nI 96 from by decide, nI_add]
    exact ⟨_, s, T, rfl, rfl, h⟩
  · rw [if_neg (nI_nlt (by omega) hk), if_pos (nI_le (by omega) hk), find_ok 2 (by omega), meet_ok 2 (by omega)]
    exact ⟨_, _, _, rfl, rfl, h.fnd (by omega) (by omega)⟩
theorem op18 : OP18 Inv := by
  intro a b s T h
  obtain ⟨n, K, A, hn, hF, hC, hM, hR⟩ := h.2.2.2.view
  unfold f72_comes f164_comes
  rcases pair_ok (a := a) (b := b) hn hC.1 hM.1 with ⟨h1, h2⟩ | ⟨x, y, hx, hy, hxy, rfl, rfl, h1, h2⟩
  · rw [h1, h2]
    exact ⟨-1, rfl, rfl⟩
  rw [h1, h2, comers_ok hF hC hx hy, mayCall_ok hF hM hx hy]
  simp only [bs]
  rw [if_neg (show ¬ (1:Int32) = 0 by decide), if_neg (show ¬ (1:Int32) = 0 by decide)]
  by_cases hc : canA K A.1 x y = true
  · rw [if_pos hc, if_pos hc, if_neg (show ¬ (1:Int32) = 0 by decide), comersM_ok hF hM hx hy hc]
    have hp : 0 < bits (comeB K n A.1 x y) n := by
      refine bits_pos hy ?_
      unfold comeB
      unfold canA at hc
      simp at hc
      simp only [hy, Ne.symm hxy, hc.1.2, ne_eq, not_false_eq_true, decide_true, Bool.and_true, Bool.true_and]
      split <;> simp [hc.2]
    have := bits_128 (comeB K n A.1 x y) hn
    rw [if_neg (nI_ne0 hp (by omega))]
    exact ⟨_, rfl, rfl⟩
  · rw [if_neg hc, if_neg hc, if_pos (by decide), if_pos (by decide)]
    exact ⟨_, rfl, rfl⟩
theorem set_ok {a b : Nat} (ha : a < 128) (hb : b < 7) : nI a ||| ((1:Int32) <<< (nI b &&& 31)) = nI (a - a / 2 ^ b % 2 * 2 ^ b + 2 ^ b) := by
  have : ∀ a, a < 128 → ∀ b, b < 7 → nI a ||| ((1:Int32) <<< (nI b &&& 31)) = nI (a - a / 2 ^ b % 2 * 2 ^ b + 2 ^ b) := by decide +kernel
  exact this a ha b hb
theorem clr_nat {p : Nat → Bool} {n b : Nat} (hn : n ≤ 7) (hb : b < 7) : bits p n - bits p n / 2 ^ b % 2 * 2 ^ b = bits (fun x => p x && decide (x ≠ b)) n := by
  have h1 := bits_128 p hn
  have h2 := bits_128 (fun x => p x && decide (x ≠ b)) hn
  have := clr_bits (p := p) hn hb
  rw [clr_ok h1 hb, nI_eq (by omega) (by omega)] at this
  exact this
theorem op19 : OP19 Inv := by
  intro a s T h
  obtain ⟨n, K, A, hn, hF, hC, hM, hR⟩ := h.2.2.2.view
  unfold f73_alike f165_alike
  rcases per_cases a hn with ha | ⟨x, hx, rfl⟩
  · rw [perC_out hC.1 ha, perM_out hM.1 ha hn]
    exact ⟨-1, rfl, rfl⟩
  have hN := (hF.2 x hx).2.1
  rw [perC_in hC.1 hx hn, perM_in hM.1 hx hn]
  simp only [bs]
  rw [if_neg (show ¬ (1:Int32) = 0 by decide), if_neg (show ¬ (1:Int32) = 0 by decide), rd_nI (by omega), (hR.1 x hx).1]
  simp only [bs]
  rw [named_ok hF hC hN, likes_ok hF hM hx]
  simp only [bs]
  rw [set_ok (bits_128 _ hn) (by omega), set_ok (bits_128 _ hn) (by omega), clr_nat hn (by omega), clr_nat hn (by omega)]
  refine ⟨_, rfl, ?_⟩
  congr 3
  refine bits_congr fun y hy => ?_
  by_cases e1 : y = x <;> by_cases e2 : K y = 3 <;> by_cases e3 : A.1 y = A.1 x <;> simp [e1, e2, e3, Ne.symm]
theorem op12 : OP12 Inv := by
  intro a b s T h
  obtain ⟨n, K, A, hn, hF, hC, hM, hR⟩ := h.2.2.2.view
  unfold f66_mark f149_mark
  rcases per_cases a hn with ha | ⟨x, hx, rfl⟩
  · rw [perC_out hC.1 ha, perM_out hM.1 ha hn]
    exact ⟨-1, s, T, rfl, rfl, h⟩
  have hN := (hF.2 x hx).2.1
  rw [perC_in hC.1 hx hn, perM_in hM.1 hx hn]
  simp only [bs]
  rw [if_neg (show ¬ (1:Int32) = 0 by decide), if_neg (show ¬ (1:Int32) = 0 by decide), in_eq]
  simp only [bs]
  by_cases hb1 : b < 1
  · rw [if_pos hb1, if_pos hb1, if_pos rfl]
    exact ⟨-1, s, T, rfl, rfl, h⟩
  rw [if_neg hb1, if_neg hb1]
  by_cases hb5 : (5:Int32) < b
  · rw [if_pos hb5, if_pos rfl, if_neg (Int32.not_le.mpr hb5)]
    exact ⟨-1, s, T, rfl, rfl, h⟩
  rw [if_neg hb5, if_pos (Int32.not_lt.mp hb5), if_neg (show ¬ (1:Int32) = 0 by decide)]
  have hb0 : ¬ b < 0 := by
    rw [Int32.lt_iff_toInt_lt] at hb1 ⊢
    have e1 : (1:Int32).toInt = 1 := rfl
    have e0 : (0:Int32).toInt = 0 := rfl
    omega
  obtain ⟨k, hk, rfl⟩ := nI_of hb0
  have hk1 : 1 ≤ k := by
    rcases Nat.eq_zero_or_pos k with e | e
    · subst e; exact absurd (by decide) hb1
    · exact e
  have hk5 : k ≤ 5 := by
    rcases Nat.lt_or_ge 5 k with e | e
    · exact absurd (show (5:Int32) < nI k from nI_lt (a := 5) e hk) hb5
    · exact e
  rw [is_ok hF hC hx (by omega), isA_ok hF hM hx (by omega)]
  simp only [bs]
  by_cases hi : ¬ (K x = k ∨ k = 1 ∧ K x = 5)
  · rw [if_neg hi, if_pos rfl, if_pos rfl, find_ok 3 (by omega), meet_ok 3 (by omega)]
    exact ⟨_, _, _, rfl, rfl, h.fnd (by omega) (by omega)⟩
  have hi := Classical.not_not.mp hi
  rw [if_pos hi, if_neg (show ¬ (1:Int32) = 0 by decide), if_neg (show ¬ (1:Int32) = 0 by decide)]
  have hlike : ∃ v : Nat, (((pv_rd s 10 7 (nI x)).bind fun q14 => (f13_named 8 q14 s).bind fun q17 => (f224_bitCount (q17 &&& (((1:Int32) <<< (nI x &&& 31)) ^^^ (-1:Int32)))).bind fun q19 => some (q19, s)) : Option (Int32 × pv_F)) = some (nI v, s) ∧ ((f145_likes (nI x) T).bind fun q18 => (f118_sizeOf q18).bind fun q20 => some (q20, T)) = some (nI v, T) := by
    rw [rd_nI (by omega), (hR.1 x hx).1]
    simp only [bs]
    rw [named_ok hF hC hN, likes_ok hF hM hx]
    simp only [bs]
    rw [clr_bits hn (by omega), (popc_ok (bits_128 _ hn)).1, (popc_ok (bits_128 _ hn)).2]
    simp only [bs]
    refine ⟨_, rfl, ?_⟩
    refine congrArg (fun z => some (nI (popc z), T)) (bits_congr fun y hy => ?_)
    by_cases e1 : y = x <;> by_cases e2 : K y = 3 <;> by_cases e3 : A.1 y = A.1 x <;> simp [e1, e2, e3, Ne.symm]
  obtain ⟨v, l1, l2⟩ := hlike
  match k, hk1, hk5 with
  | 1, _, _ =>
    rw [if_neg (show ¬ nI 1 = (2:Int32) by decide), if_neg (show ¬ nI 1 = (2:Int32) by decide), if_neg (show ¬ nI 1 = (3:Int32) by decide), if_neg (show ¬ nI 1 = (3:Int32) by decide), if_neg (show ¬ nI 1 = (4:Int32) by decide), if_neg (show ¬ nI 1 = (4:Int32) by decide), if_neg (show ¬ nI 1 = (5:Int32) by decide), if_neg (show ¬ nI 1 = (5:Int32) by decide), l1, l2]
    exact ⟨_, s, T, rfl, rfl, h⟩
  | 2, _, _ =>
    rw [if_pos (show nI 2 = (2:Int32) by decide), if_pos (show nI 2 = (2:Int32) by decide), show (77:Int32) = nI 77 from by decide, rd_nI (by omega), hR.2, show T.1 105 77 = _ from hM.2.2.2]
    exact ⟨_, s, T, rfl, rfl, h⟩
  | 3, _, _ =>
    rw [if_neg (show ¬ nI 3 = (2:Int32) by decide), if_neg (show ¬ nI 3 = (2:Int32) by decide), if_pos (show nI 3 = (3:Int32) by decide), if_pos (show nI 3 = (3:Int32) by decide), l1, l2]
    exact ⟨_, s, T, rfl, rfl, h⟩
  | 4, _, _ =>
    rw [if_neg (show ¬ nI 4 = (2:Int32) by decide), if_neg (show ¬ nI 4 = (2:Int32) by decide), if_neg (show ¬ nI 4 = (3:Int32) by decide), if_neg (show ¬ nI 4 = (3:Int32) by decide), if_pos (show nI 4 = (4:Int32) by decide), if_pos (show nI 4 = (4:Int32) by decide), rd_nI (by omega), (hR.1 x hx).2.1, nI49, rd_nI (by omega), hM.due hx]
    exact ⟨_, s, T, rfl, rfl, h⟩
  | 5, _, _ =>
    rw [if_neg (show ¬ nI 5 = (2:Int32) by decide), if_neg (show ¬ nI 5 = (2:Int32) by decide), if_neg (show ¬ nI 5 = (3:Int32) by decide), if_neg (show ¬ nI 5 = (3:Int32) by decide), if_neg (show ¬ nI 5 = (4:Int32) by decide), if_neg (show ¬ nI 5 = (4:Int32) by decide), if_pos (show nI 5 = (5:Int32) by decide), if_pos (show nI 5 = (5:Int32) by decide), ← nI_0, comers_ok hF hC hx (show 0 < n by omega), mayCall_ok hF hM hx (show 0 < n by omega)]
    simp only [bs]
    by_cases hc : canA K A.1 x 0 = true
    · rw [if_pos hc, if_pos hc, if_neg (show ¬ (1:Int32) = nI 0 by decide), comersM_ok hF hM hx (by omega) hc]
      simp only [bs]
      rw [(popc_ok (bits_128 _ hn)).1, (popc_ok (bits_128 _ hn)).2]
      exact ⟨_, s, T, rfl, rfl, h⟩
    · rw [if_neg hc, if_neg hc, if_pos (show (0:Int32) = nI 0 by decide), (popc_ok (by omega)).1]
      exact ⟨_, s, T, rfl, rfl, h⟩
