/-! PEOPLE, as the model has them -/
def okT (n : Nat) (K : Nat → Nat) (A : TS) : Prop := okF n K A.1 A.2.1
def MR (T : pv_T) (n : Nat) (K : Nat → Nat) (A : TS) : Prop := T.1 94 8 = nI n ∧ (∀ x, x < n → T.1 101 x = nI (K x)) ∧ MRep (T.1 105) 0 n A
theorem MR.len {T : pv_T} {n : Nat} {K : Nat → Nat} {A : TS} (h : MR T n K A) {x : Nat} (hx : x < n) : T.1 105 (42 + x) = nI (A.1 x).length := by
  have := (h.2.2.1 x hx).2.1
  rwa [Nat.zero_add] at this
theorem MR.let_ {T : pv_T} {n : Nat} {K : Nat → Nat} {A : TS} (h : MR T n K A) {x i : Nat} (hx : x < n) (hi : i < (A.1 x).length) : T.1 105 (6 * x + i) = nI (96 + (A.1 x).getD i 0) := by
  have := (h.2.2.1 x hx).1 i hi
  rwa [Nat.zero_add] at this
theorem MR.due {T : pv_T} {n : Nat} {K : Nat → Nat} {A : TS} (h : MR T n K A) {x : Nat} (hx : x < n) : T.1 105 (49 + x) = nI (A.2.1 x) := by
  have := (h.2.2.1 x hx).2.2.1
  rwa [Nat.zero_add] at this
theorem nI42 (x : Nat) : (42:Int32) + nI x = nI (42 + x) := nI_add 42 x
theorem nI49 (x : Nat) : (49:Int32) + nI x = nI (49 + x) := nI_add 49 x
theorem nI56 (x : Nat) : (56:Int32) + nI x = nI (56 + x) := nI_add 56 x
theorem nI63 (x : Nat) : (63:Int32) + nI x = nI (63 + x) := nI_add 63 x
theorem nI70 (x : Nat) : (70:Int32) + nI x = nI (70 + x) := nI_add 70 x
theorem nI6m (x : Nat) : (6:Int32) * nI x = nI (6 * x) := pk_mul 6 x
theorem lenOf_ok {T : pv_T} {n : Nat} {K : Nat → Nat} {A : TS} (hn : n ≤ 7) (h : MR T n K A) {x : Nat} (hx : x < n) : f142_lenOf (nI x) T = some (nI (A.1 x).length) := by
  unfold f142_lenOf
  rw [nI42, rd_nI (by omega), h.len hx]
  rfl
theorem letterOf_rd {T : pv_T} {x i : Nat} (hx : x < 7) (hi : i < 6) : f143_letterOf (nI x) (nI i) T = some (T.1 105 (6 * x + i)) := by
  unfold f143_letterOf
  rw [nI6m, nI_add, rd_nI (by omega)]
  rfl
theorem letterOf_ok {T : pv_T} {n : Nat} {K : Nat → Nat} {A : TS} (hF : okT n K A) (h : MR T n K A) {x i : Nat} (hx : x < n) (hi : i < (A.1 x).length) : f143_letterOf (nI x) (nI i) T = some (nI (96 + (A.1 x).getD i 0)) := by
  have h7 := hF.1
  have h6 := (hF.2 x hx).2.1.1
  rw [letterOf_rd (by omega) (by omega), h.let_ hx hi]
theorem isA_ok {T : pv_T} {n : Nat} {K : Nat → Nat} {A : TS} (hF : okT n K A) (h : MR T n K A) {x k : Nat} (hx : x < n) (hk : k < 2 ^ 31) : f141_isA (nI x) (nI k) T = some (if K x = k ∨ (k = 1 ∧ K x = 5) then 1 else 0) := by
  have h7 := hF.1
  have h5 := (hF.2 x hx).1
  unfold f141_isA
  rw [rd_nI (by omega), h.2.1 x hx]
  simp only [bs]
  by_cases e : K x = k
  · rw [if_pos (by rw [e]), if_pos (Or.inl e)]
    simp [pv_bl1]
  · rw [if_neg (fun q => e ((nI_eq (by omega) hk).mp q))]
    by_cases e1 : k = 1
    · subst e1
      rw [if_pos (show nI 1 = (1:Int32) by decide)]
      by_cases e5 : K x = 5
      · rw [e5, if_pos (show nI 5 = (5:Int32) by decide), if_pos (Or.inr ⟨rfl, rfl⟩)]
        simp [pv_bl1]
      · rw [if_neg (show ¬ nI (K x) = (5:Int32) from fun q => e5 ((nI_eq (by omega) (by omega)).mp (show nI (K x) = nI 5 from q))), if_neg (fun q => by omega)]
        simp [pv_bl0]
    · rw [if_neg (show ¬ nI k = (1:Int32) from fun q => e1 ((nI_eq hk (by omega)).mp (show nI k = nI 1 from q))), if_neg (fun q => by omega)]
      simp [pv_bl0]
theorem momM_ok {T : pv_T} {n : Nat} {K : Nat → Nat} {A : TS} (hF : okT n K A) (h : MR T n K A) {x : Nat} (hx : x < n) : f141_isA (nI x) (1:Int32) T = some (if mom (K x) then 1 else 0) := by
  refine (isA_ok hF h hx (k := 1) (by omega)).trans ?_
  by_cases hm : mom (K x) = true
  · have := (mom_iff _).mp hm
    rw [if_pos hm, if_pos (by omega)]
  · have : ¬ (K x = 1 ∨ K x = 5) := fun q => hm ((mom_iff _).mpr q)
    rw [if_neg hm, if_neg (by omega)]
theorem isLike_ok {T : pv_T} {n : Nat} {K : Nat → Nat} {A : TS} (hF : okT n K A) (h : MR T n K A) {x y : Nat} (hx : x < n) (hy : y < n) : f144_isLike (nI x) (nI y) T = some (if A.1 x = A.1 y then 1 else 0) := by
  have h7 := hF.1
  have hX := (hF.2 x hx).2.1
  have hY := (hF.2 y hy).2.1
  have hX6 := hX.1
  have hY6 := hY.1
  unfold f144_isLike
  rw [lenOf_ok h7 h hx, lenOf_ok h7 h hy]
  simp only [bs]
  have ht : ((if nI (A.1 x).length = nI (A.1 y).length then some (1:Int32) else some 0) : Option Int32) = some (if (A.1 x).length = (A.1 y).length then 1 else 0) := by
    by_cases e : (A.1 x).length = (A.1 y).length
    · rw [e, if_pos rfl, if_pos rfl]
    · rw [if_neg (fun q => e ((nI_eq (by omega) (by omega)).mp q)), if_neg e]
  rw [ht]
  simp only [bs]
  obtain ⟨e, h1, h2⟩ := lq_inv (B := f144_isLike_b1 (nI x) (nI y) T) (P := fun i st => st.2 = nI i ∧ ((st.1 = 1 ∧ (A.1 x).length = (A.1 y).length ∧ ∀ j, j < i → (A.1 x).getD j 0 = (A.1 y).getD j 0) ∨ (st.1 = 0 ∧ A.1 x ≠ A.1 y))) (Q := fun st => st.1 = if A.1 x = A.1 y then 1 else 0) 6 (fun i st hi hP => by
    obtain ⟨v, u⟩ := st
    obtain ⟨p1, p2⟩ := hP
    simp only at p1 p2
    subst p1
    unfold f144_isLike_b1
    simp only
    rw [if_neg (show ¬ (6:Int32) ≤ nI i from nI_ge (b := 6) hi (by omega)), nI_1]
    rcases p2 with ⟨rfl, e, p2⟩ | ⟨rfl, e⟩
    · rw [if_neg (by decide), lenOf_ok h7 h hx]
      simp only [bs]
      by_cases hl : (A.1 x).length ≤ i
      · rw [if_pos (nI_le hl (by omega))]
        simp only [bs]
        refine ⟨_, rfl, rfl, Or.inl ⟨rfl, e, fun j hj => ?_⟩⟩
        by_cases hji : j = i
        · subst hji
          rw [gD_out hl, gD_out (by omega)]
        · exact p2 j (by omega)
      · rw [if_neg (nI_ge (by omega) (by omega)), letterOf_ok hF h hx (by omega), letterOf_ok hF h hy (by omega)]
        simp only [bs]
        have d1 := (okN_d hX i).1
        have d2 := (okN_d hY i).1
        by_cases hd : (A.1 x).getD i 0 = (A.1 y).getD i 0
        · rw [hd, if_pos rfl]
          refine ⟨_, rfl, rfl, Or.inl ⟨rfl, e, fun j hj => ?_⟩⟩
          by_cases hji : j = i
          · subst hji; exact hd
          · exact p2 j (by omega)
        · rw [if_neg (fun q => hd (by have := (nI_eq (by omega) (by omega)).mp q; omega))]
          exact ⟨_, rfl, rfl, Or.inr ⟨rfl, fun q => hd (by rw [q])⟩⟩
    · rw [if_pos rfl]
      exact ⟨_, rfl, rfl, Or.inr ⟨rfl, e⟩⟩) (fun st hP => by
    obtain ⟨v, u⟩ := st
    obtain ⟨p1, p2⟩ := hP
    simp only at p1 p2
    subst p1
    unfold f144_isLike_b1
    simp only
    rw [if_pos (by decide)]
    refine ⟨_, rfl, ?_⟩
    simp only
    rcases p2 with ⟨rfl, e, p2⟩ | ⟨rfl, e⟩
    · rw [if_pos (getD_ext hX hY p2)]
    · rw [if_neg e]) ((if (A.1 x).length = (A.1 y).length then (1:Int32) else 0), (0:Int32)) ⟨nI_0.symm, by
    simp only
    by_cases e : (A.1 x).length = (A.1 y).length
    · exact Or.inl ⟨if_pos e, e, fun j hj => by omega⟩
    · exact Or.inr ⟨if_neg e, fun q => e (by rw [q])⟩⟩
  rw [h1]
  obtain ⟨v, u⟩ := e
  simp only at h2
  simp only [bs]
  rw [h2]
  by_cases e : A.1 x = A.1 y
  · rw [if_pos e, pv_bl1]
    rfl
  · rw [if_neg e, pv_bl0]
    rfl
theorem likes_ok {T : pv_T} {n : Nat} {K : Nat → Nat} {A : TS} (hF : okT n K A) (h : MR T n K A) {x : Nat} (hx : x < n) : f145_likes (nI x) T = some (nI (bits (fun y => decide (y ≠ x) && decide (K y ≠ 3) && decide (A.1 x = A.1 y)) n)) := by
  have h7 := hF.1
  unfold f145_likes
  rw [bits_loop (n := n) (fun y => decide (y ≠ x) && decide (K y ≠ 3) && decide (A.1 x = A.1 y)) h7 (fun k a hk => ?_) (fun a => ?_)]
  · simp only [bs]
  · have h5 := (hF.2 k hk).1
    unfold f145_likes_b1
    simp only
    rw [h.1, if_neg (nI_ge hk (by omega)), nI_1]
    by_cases e : k = x
    · rw [e, if_pos rfl]
      simp
    · rw [if_neg (fun q => e ((nI_eq (by omega) (by omega)).mp q)), rd_nI (by omega), h.2.1 k hk]
      simp only [bs]
      by_cases e3 : K k = 3
      · rw [e3, if_pos (show nI 3 = (3:Int32) by decide)]
        simp [e3]
      · rw [if_neg (show ¬ nI (K k) = (3:Int32) from fun q => e3 ((nI_eq (by omega) (by omega)).mp (show nI (K k) = nI 3 from q))), isLike_ok hF h hx hk]
        simp only [bs]
        by_cases e4 : A.1 x = A.1 k
        · rw [if_pos e4, if_neg (by decide)]
          simp [e, e3, e4]
        · rw [if_neg e4, if_pos rfl]
          simp [e4]
  · unfold f145_likes_b1
    simp only
    rw [h.1, if_pos (nI_le (by omega) (by omega))]
theorem mayCall_ok {T : pv_T} {n : Nat} {K : Nat → Nat} {A : TS} (hF : okT n K A) (h : MR T n K A) {b x : Nat} (hb : b < n) (hx : x < n) : f152_mayCall (nI b) (nI x) T = some (if canA K A.1 b x then 1 else 0) := by
  have h7 := hF.1
  have h5b := (hF.2 b hb).1
  have h5x := (hF.2 x hx).1
  have h6 := (hF.2 x hx).2.1.1
  unfold f152_mayCall canA
  by_cases e : b = x
  · subst e
    simp [pv_bl0]
  · rw [if_neg (fun q => e ((nI_eq (by omega) (by omega)).mp q)), rd_nI (by omega), h.2.1 b hb, rd_nI (by omega), h.2.1 x hx, lenOf_ok h7 h hx]
    simp only [bs]
    by_cases e1 : K b = 3
    · rw [e1, if_pos (show nI 3 = (3:Int32) by decide)]
      simp [pv_bl0]
    · rw [if_neg (show ¬ nI (K b) = (3:Int32) from fun q => e1 ((nI_eq (by omega) (by omega)).mp (show nI (K b) = nI 3 from q)))]
      by_cases e2 : K x = 3
      · rw [e2, if_pos (show nI 3 = (3:Int32) by decide)]
        simp [pv_bl0]
      · rw [if_neg (show ¬ nI (K x) = (3:Int32) from fun q => e2 ((nI_eq (by omega) (by omega)).mp (show nI (K x) = nI 3 from q)))]
        by_cases e3 : A.1 x = []
        · rw [e3, if_pos (show nI [].length ≤ (0:Int32) by decide)]
          simp [pv_bl0]
        · rw [if_neg (nI_nle (List.length_pos_iff.mpr e3) (by omega))]
          simp [e, e1, e2, e3, pv_bl1]
theorem head_getD {l m : List Nat} (hl : l ≠ []) (hm : m ≠ []) : l.head? = m.head? ↔ l.getD 0 0 = m.getD 0 0 := by
  cases l with
  | nil => exact absurd rfl hl
  | cons a l =>
    cases m with
    | nil => exact absurd rfl hm
    | cons b m => simp
theorem comersM_ok {T : pv_T} {n : Nat} {K : Nat → Nat} {A : TS} (hF : okT n K A) (h : MR T n K A) {b x : Nat} (hb : b < n) (hx : x < n) (hc : canA K A.1 b x = true) : f153_comers (nI b) (nI x) T = some (nI (bits (comeB K n A.1 b x) n)) := by
  have h7 := hF.1
  have h5b := (hF.2 b hb).1
  have hne : A.1 x ≠ [] := by
    unfold canA at hc
    simp at hc
    exact hc.2
  unfold f153_comers
  rw [bits_loop (n := n) (comeB K n A.1 b x) h7 (fun k a hk => ?_) (fun a => ?_)]
  · simp only [bs]
  · have h5 := (hF.2 k hk).1
    have hkN := (hF.2 k hk).2.1
    have h6 := hkN.1
    unfold f153_comers_b1
    simp only
    rw [h.1, if_neg (nI_ge hk (by omega)), nI_1, rd_nI (by omega), h.2.1 b hb, lenOf_ok h7 h hk, isLike_ok hF h hx hk]
    simp only [bs]
    have ht : ((if nI (K b) = (5:Int32) then (if nI (A.1 k).length ≤ 0 then some (0:Int32) else (f143_letterOf (nI k) 0 T).bind fun q20 => (f143_letterOf (nI x) 0 T).bind fun q22 => if q20 = q22 then some 1 else some 0) else some (if A.1 x = A.1 k then 1 else 0)) : Option Int32) = some (if (if K b = 5 then decide (A.1 k ≠ []) && decide ((A.1 k).head? = (A.1 x).head?) else decide (A.1 k = A.1 x)) = true then 1 else 0) := by
      by_cases e5 : K b = 5
      · rw [if_pos (show nI (K b) = (5:Int32) by rw [e5]; decide), if_pos e5]
        by_cases e : A.1 k = []
        · rw [e, if_pos (show nI [].length ≤ (0:Int32) by decide)]
          simp
        · rw [if_neg (nI_nle (List.length_pos_iff.mpr e) (by omega)), ← nI_0, letterOf_ok hF h hk (List.length_pos_iff.mpr e), letterOf_ok hF h hx (List.length_pos_iff.mpr hne)]
          simp only [bs, head_getD e hne]
          have d1 := (okN_d hkN 0).1
          have d2 := (okN_d (hF.2 x hx).2.1 0).1
          by_cases hd : (A.1 k).getD 0 0 = (A.1 x).getD 0 0
          · rw [if_pos (by rw [hd]), if_pos (by simp only [hd, decide_true, Bool.and_true]; exact decide_eq_true e)]
          · rw [if_neg (fun q => hd (by have := (nI_eq (by omega) (by omega)).mp q; omega)), if_neg (by simp only [hd, decide_false, Bool.and_false]; decide), nI_0]
      · rw [if_neg (show ¬ nI (K b) = (5:Int32) from fun q => e5 ((nI_eq (by omega) (by omega)).mp (show nI (K b) = nI 5 from q))), if_neg e5]
        by_cases e : A.1 x = A.1 k
        · rw [if_pos e, if_pos (decide_eq_true e.symm)]
        · rw [if_neg e, if_neg (fun q => e (of_decide_eq_true q).symm)]
    rw [ht]
    simp only [bs]
    unfold comeB
    generalize (if K b = 5 then decide (A.1 k ≠ []) && decide ((A.1 k).head? = (A.1 x).head?) else decide (A.1 k = A.1 x)) = lk
    by_cases e : k = b
    · rw [e, if_pos rfl]
      simp
    · rw [if_neg (fun q => e ((nI_eq (by omega) (by omega)).mp q)), rd_nI (by omega), h.2.1 k hk]
      simp only [bs]
      by_cases e3 : K k = 3
      · rw [e3, if_pos (show nI 3 = (3:Int32) by decide)]
        simp [e3]
      · rw [if_neg (show ¬ nI (K k) = (3:Int32) from fun q => e3 ((nI_eq (by omega) (by omega)).mp (show nI (K k) = nI 3 from q)))]
        cases lk with
        | true => simp [hk, e, e3]
        | false => simp
  · unfold f153_comers_b1
    simp only
    rw [h.1, if_pos (nI_le (by omega) (by omega))]
