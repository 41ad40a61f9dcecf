/-! NAMES IN TEXTS: asked, had by whom, how they begin -/
def OneM (T : pv_T) (l : List Nat) : Prop := T.1 94 26 = nI l.length ∧ ∀ i, i < l.length → T.1 111 i = nI (96 + l.getD i 0)
theorem range_getD (g : Nat → Nat) {n i : Nat} (h : i < n) : ((List.range n).map g).getD i 0 = g i := by
  rw [gD_in (by simpa using h)]
  simp
theorem nameAsk {s : pv_F} {T : pv_T} (h : Inv s T) {r : Nat} (hr : r < 4) : (∃ f, 1 ≤ f ∧ f < 6 ∧ f106_nameFinding (86 + 2 * r) s = some (nI f) ∧ f179_askedName (nI r) T = some (-3, fndM T f)) ∨ ∃ l T', okN l ∧ l ≠ [] ∧ f106_nameFinding (86 + 2 * r) s = some 0 ∧ f30_spelling (86 + 2 * r) s = some (nI (pack l)) ∧ f179_askedName (nI r) T = some (0, T') ∧ OneM T' l ∧ (∀ j, j ≠ 26 → T'.1 94 j = T.1 94 j) ∧ ∀ c, c ≠ 94 → c ≠ 111 → T'.1 c = T.1 c := by
  unfold f106_nameFinding f179_askedName
  rcases h.2.2.1 r hr with ⟨q1, q2⟩ | ⟨q1, n, q2, q3, q4, q5⟩
  · refine Or.inl ⟨1, by omega, by omega, ?_, ?_⟩
    · rw [q1, if_pos rfl]; rfl
    · rw [askedT_miss hr q2]; rfl
  rw [q1, if_neg (show ¬ (1:Int32) = 0 by decide), q3, askedT_there hr (by omega) q4]
  simp only [bs]
  rw [if_pos (show (0:Int32) ≤ 0 by decide), rd_nI hr, q4]
  simp only [bs]
  rw [in_eq]
  by_cases h0 : n = 0
  · subst h0
    refine Or.inl ⟨5, by omega, by omega, ?_, ?_⟩
    · rw [if_pos (by decide)]; rfl
    · rw [if_pos (by decide)]
      simp only [bs]
      rw [if_pos True.intro, meet_ok 5 (by omega)]; rfl
  rw [if_neg (show ¬ nI n < (1:Int32) from nI_nlt (b := 1) (by omega) (by omega)), if_neg (show ¬ nI n < (1:Int32) from nI_nlt (b := 1) (by omega) (by omega))]
  by_cases h6 : 6 < n
  · refine Or.inl ⟨5, by omega, by omega, ?_, ?_⟩
    · rw [if_neg (show ¬ nI n ≤ (6:Int32) from nI_ge (a := 6) h6 (by omega))]; rfl
    · rw [if_pos (show (6:Int32) < nI n from nI_lt (a := 6) h6 (by omega))]
      simp only [bs]
      rw [if_pos True.intro, meet_ok 5 (by omega)]; rfl
  rw [if_pos (show nI n ≤ (6:Int32) from nI_le (b := 6) (by omega) (by omega)), if_neg (show ¬ (6:Int32) < nI n from nI_nlt (a := 6) (by omega) (by omega))]
  simp only [bs]
  rw [if_neg (show ¬ (1:Int32) = 0 by decide)]
  obtain ⟨o, o1, o2⟩ := lp_inv (B := f106_nameFinding_b1 (86 + 2 * r) s) (P := fun i st => st = nI i ∧ ∀ j, j < i → 97 ≤ T.1 100 (80 * r + j) ∧ T.1 100 (80 * r + j) ≤ 122) (Q := fun o => match o with
    | .inl _ => ∀ j, j < n → 97 ≤ T.1 100 (80 * r + j) ∧ T.1 100 (80 * r + j) ≤ 122
    | .inr q => q = 3 ∧ ¬ ∀ j, j < n → 97 ≤ T.1 100 (80 * r + j) ∧ T.1 100 (80 * r + j) ≤ 122) n (fun i st hi hP => by
    obtain ⟨rfl, p1⟩ := hP
    unfold f106_nameFinding_b1
    simp only
    rw [q3]
    by_cases e : i = n
    · subst e
      rw [if_pos (nI_le (by omega) (by omega))]
      exact Or.inr ⟨_, rfl, p1⟩
    · rw [if_neg (nI_ge (by omega) (by omega)), an_t hr, rd_nI (by omega), show 86 + 2 * r + 1 = 87 + 2 * r by omega, q5 i (by omega)]
      simp only [bs]
      rw [(letC_ok _).1]
      simp only [bs]
      by_cases hl : 97 ≤ T.1 100 (80 * r + i) ∧ T.1 100 (80 * r + i) ≤ 122
      · rw [if_pos hl, if_neg (show ¬ (1:Int32) = 0 by decide), nI_1]
        refine Or.inl ⟨by omega, _, rfl, rfl, fun j hj => ?_⟩
        by_cases ej : j = i
        · subst ej; exact hl
        · exact p1 j (by omega)
      · rw [if_neg hl, if_pos rfl]
        exact Or.inr ⟨_, rfl, rfl, fun q => hl (q i (by omega))⟩) (0:Int32) ⟨nI_0.symm, fun j hj => by omega⟩
  obtain ⟨u, u1, u2⟩ := lp_inv (B := f179_askedName_b1 (nI r) T) (P := fun i st => st = nI i ∧ ∀ j, j < i → 97 ≤ T.1 100 (80 * r + j) ∧ T.1 100 (80 * r + j) ≤ 122) (Q := fun o => match o with
    | .inl _ => ∀ j, j < n → 97 ≤ T.1 100 (80 * r + j) ∧ T.1 100 (80 * r + j) ≤ 122
    | .inr q => q = (-3, fndM T 3) ∧ ¬ ∀ j, j < n → 97 ≤ T.1 100 (80 * r + j) ∧ T.1 100 (80 * r + j) ≤ 122) n (fun i st hi hP => by
    obtain ⟨rfl, p1⟩ := hP
    unfold f179_askedName_b1
    simp only
    rw [rd_nI hr, q4]
    simp only [bs]
    by_cases e : i = n
    · subst e
      rw [if_pos (nI_le (by omega) (by omega))]
      exact Or.inr ⟨_, rfl, p1⟩
    · rw [if_neg (nI_ge (by omega) (by omega)), ix80, rd_nI (by omega)]
      simp only [bs]
      rw [(letC_ok _).2]
      simp only [bs]
      by_cases hl : 97 ≤ T.1 100 (80 * r + i) ∧ T.1 100 (80 * r + i) ≤ 122
      · rw [if_pos hl, if_neg (show ¬ (1:Int32) = 0 by decide), nI_1]
        refine Or.inl ⟨by omega, _, rfl, rfl, fun j hj => ?_⟩
        by_cases ej : j = i
        · subst ej; exact hl
        · exact p1 j (by omega)
      · rw [if_neg hl, if_pos rfl, meet_ok 3 (by omega)]
        exact Or.inr ⟨_, rfl, rfl, fun q => hl (q i (by omega))⟩) (0:Int32) ⟨nI_0.symm, fun j hj => by omega⟩
  rw [o1, u1]
  simp only [bs]
  match o, u, o2, u2 with
  | .inr q, .inr q', o2, u2 =>
    refine Or.inl ⟨3, by omega, by omega, ?_, ?_⟩
    · simp only
      rw [o2.1]; rfl
    · simp only
      rw [u2.1]
  | .inl _, .inr q', o2, u2 => exact absurd o2 u2.2
  | .inr q, .inl _, o2, u2 => exact absurd u2 o2.2
  | .inl _, .inl _, o2, u2 =>
    simp only at o2 ⊢
    have hall : ∀ i, ∃ g, i < n → 1 ≤ g ∧ g ≤ 26 ∧ T.1 100 (80 * r + i) = nI (96 + g) ∧ T.1 100 (80 * r + i) - 96 = nI g := fun i => by
      by_cases e : i < n
      · obtain ⟨g, hg⟩ := let_num (o2 i e)
        exact ⟨g, fun _ => hg⟩
      · exact ⟨0, fun q => absurd q e⟩
    obtain ⟨g, hg⟩ := Classical.axiomOfChoice hall
    have hok : ∀ i, i ≤ n → okN ((List.range i).map g) := fun i hi => by
      refine ⟨by simp; omega, fun a ha => ?_⟩
      obtain ⟨j, hj, rfl⟩ := List.mem_map.mp ha
      have hj := List.mem_range.mp hj
      exact ⟨(hg j (by omega)).1, (hg j (by omega)).2.1⟩
    have hlen : ((List.range n).map g).length = n := by simp
    have hspell : f30_spelling (86 + 2 * r) s = some (nI (pack ((List.range n).map g))) := by
      unfold f30_spelling
      obtain ⟨e, g1, g2⟩ := lq_inv (B := f30_spelling_b1 (86 + 2 * r) s) (P := fun i st => st = (nI (pack ((List.range i).map g)), nI i)) (Q := fun st => st = (nI (pack ((List.range n).map g)), nI n)) n (fun i st hi hP => by
        subst hP
        unfold f30_spelling_b1
        simp only
        rw [q3, if_neg (nI_ge hi (by omega)), if_neg (show ¬ (6:Int32) ≤ nI i from nI_ge (b := 6) (by omega) (by omega)), an_t hr, rd_nI (by omega), show 86 + 2 * r + 1 = 87 + 2 * r by omega, q5 i hi, nI_1]
        simp only [bs]
        rw [(hg i hi).2.2.2, with_ok (hok i (by omega)) (hg i hi).2.1 (by simp; omega)]
        simp only [bs]
        refine ⟨_, rfl, ?_⟩
        rw [List.range_succ, List.map_append]
        rfl) (fun st hP => by
        subst hP
        unfold f30_spelling_b1
        simp only
        rw [q3, if_pos (nI_le (by omega) (by omega))]
        exact ⟨_, rfl, rfl⟩) ((0:Int32), (0:Int32)) (by simp only [List.range_zero, List.map_nil, pack_nil, nI_0])
      rw [g1, g2]
      rfl
    simp only [bs, pv_pm]
    obtain ⟨e, g1, g2⟩ := lq_inv (B := f179_askedName_b2 (nI r)) (P := fun i st => st.1 = nI i ∧ (∀ j, j < i → st.2.1 111 j = nI (96 + g j)) ∧ ∀ c, c ≠ 111 → st.2.1 c = pv_up T.1 94 26 (nI n) c) (Q := fun st => (∀ j, j < n → st.2.1 111 j = nI (96 + g j)) ∧ ∀ c, c ≠ 111 → st.2.1 c = pv_up T.1 94 26 (nI n) c) n (fun i st hi hP => by
      obtain ⟨v, U⟩ := st
      obtain ⟨p1, p2, p3⟩ := hP
      simp only at p1 p2 p3
      subst p1
      unfold f179_askedName_b2
      simp only
      rw [p3 94 (by decide), up_at, if_neg (nI_ge hi (by omega)), ix80, rd_nI (by omega), p3 100 (by decide), up_ne (by decide), (hg i hi).2.2.1, nI_1]
      simp only [bs]
      rw [wm_nI (by omega)]
      simp only [bs]
      refine ⟨_, rfl, rfl, fun j hj => ?_, fun c hc => ?_⟩
      · show pv_up U.1 111 i _ 111 j = _
        by_cases e : j = i
        · subst e; rw [up_at]
        · rw [up_nj e]; exact p2 j (by omega)
      · show pv_up U.1 111 i _ c = _
        rw [up_ne hc]; exact p3 c hc) (fun st hP => by
      obtain ⟨v, U⟩ := st
      obtain ⟨p1, p2, p3⟩ := hP
      simp only at p1 p2 p3
      subst p1
      unfold f179_askedName_b2
      simp only
      rw [p3 94 (by decide), up_at, if_pos (nI_le (by omega) (by omega))]
      exact ⟨_, rfl, p2, p3⟩) ((0:Int32), (pv_up T.1 94 26 (nI n), T.2)) ⟨nI_0.symm, fun j hj => by omega, fun c hc => rfl⟩
    rw [g1]
    obtain ⟨v, U⟩ := e
    obtain ⟨y1, y2⟩ := g2
    simp only at y1 y2
    simp only [bs]
    refine Or.inr ⟨(List.range n).map g, U, hok n (by omega), fun q => h0 (by rw [← hlen, q]; rfl), True.intro, hspell, rfl, ⟨?_, fun i hi => ?_⟩, fun j hj => ?_, fun c c1 c2 => ?_⟩
    · rw [y2 94 (by decide), up_at, hlen]
    · rw [hlen] at hi
      rw [y1 i hi, range_getD g hi]
    · rw [y2 94 (by decide), up_nj hj]
    · rw [y2 c c2, up_ne c1]
/-- whose names are that one -/
theorem haveOne_ok {T : pv_T} {n : Nat} {K : Nat → Nat} {A : TS} (hF : okT n K A) (hM : MR T n K A) {l : List Nat} (hl : okN l) (hO : OneM T l) {b : Int32} {ob : Nat → Bool} (hb : ∀ y, y < n → (nI y = b ↔ ob y = true)) : f177_haveOne b T = some (nI (bits (fun y => (decide (K y ≠ 3) && decide (A.1 y = l)) && !(ob y)) n)) := by
  have h7 := hF.1
  have hl6 := hl.1
  unfold f177_haveOne
  rw [bits_loop (n := n) (fun y => (decide (K y ≠ 3) && decide (A.1 y = l)) && !(ob y)) h7 (fun k a hk => ?_) (fun a => ?_)]
  · simp only [bs]
  · obtain ⟨h5, hN, -⟩ := hF.2 k hk
    have hN6 := hN.1
    unfold f177_haveOne_b1
    simp only
    rw [hM.1, if_neg (nI_ge hk (by omega)), rd_nI (by omega), hM.2.1 k hk, lenOf_ok h7 hM hk, hO.1]
    simp only [bs]
    have ht : ((if nI k = b then some (0:Int32) else if nI (K k) = (3:Int32) then some 0 else if nI (A.1 k).length = nI l.length then some 1 else some 0) : Option Int32) = some (if (!(ob k) && decide (K k ≠ 3) && decide ((A.1 k).length = l.length)) = true then 1 else 0) := by
      by_cases e1 : ob k = true
      · rw [if_pos ((hb k hk).mpr e1)]; simp [e1]
      · rw [if_neg (fun q => e1 ((hb k hk).mp q))]
        by_cases e3 : K k = 3
        · rw [if_pos (by rw [e3]; decide)]; simp [e3]
        · rw [if_neg (show ¬ nI (K k) = (3:Int32) from fun q => e3 ((nI_eq (by omega) (by omega)).mp (show nI (K k) = nI 3 from q)))]
          by_cases e4 : (A.1 k).length = l.length
          · rw [if_pos (by rw [e4])]; simp [e1, e3, e4]
          · rw [if_neg (fun q => e4 ((nI_eq (by omega) (by omega)).mp q))]; simp [e4]
    rw [ht]
    simp only [bs]
    generalize hc : (!(ob k) && decide (K k ≠ 3) && decide ((A.1 k).length = l.length)) = c
    obtain ⟨e, g1, g2⟩ := lq_inv (B := f177_haveOne_b2 b (nI a) (nI k) T) (P := fun i st => st.2 = nI i ∧ ((st.1 = 1 ∧ c = true ∧ ∀ j, j < i → (A.1 k).getD j 0 = l.getD j 0) ∨ (st.1 = 0 ∧ ¬ (c = true ∧ A.1 k = l)))) (Q := fun st => st.1 = if c = true ∧ A.1 k = l then 1 else 0) l.length (fun i st hi hP => by
      obtain ⟨v, u⟩ := st
      obtain ⟨p1, p2⟩ := hP
      simp only at p1 p2
      subst p1
      unfold f177_haveOne_b2
      simp only
      rw [hO.1, if_neg (nI_ge hi (by omega)), nI_1]
      rcases p2 with ⟨rfl, c1, p2⟩ | ⟨rfl, p2⟩
      · have e4 : (A.1 k).length = l.length := by
          rw [← hc] at c1
          exact of_decide_eq_true (Bool.and_eq_true_iff.mp c1).2
        rw [if_neg (show ¬ (1:Int32) = 0 by decide), letterOf_ok hF hM hk (by omega), rd_nI (by omega), hO.2 i hi]
        simp only [bs]
        have d1 := (okN_d hN i).1
        have d2 := (okN_d hl i).1
        by_cases hd : (A.1 k).getD i 0 = l.getD i 0
        · rw [hd, if_pos rfl]
          refine ⟨_, rfl, rfl, Or.inl ⟨rfl, c1, fun j hj => ?_⟩⟩
          by_cases ej : j = i
          · subst ej; exact hd
          · exact p2 j (by omega)
        · rw [if_neg (fun q => hd (by have := (nI_eq (by omega) (by omega)).mp q; omega))]
          exact ⟨_, rfl, rfl, Or.inr ⟨rfl, fun q => hd (by rw [q.2])⟩⟩
      · rw [if_pos rfl]
        exact ⟨_, rfl, rfl, Or.inr ⟨rfl, p2⟩⟩) (fun st hP => by
      obtain ⟨v, u⟩ := st
      obtain ⟨p1, p2⟩ := hP
      simp only at p1 p2
      subst p1
      unfold f177_haveOne_b2
      simp only
      rw [hO.1, if_pos (nI_le (by omega) (by omega))]
      refine ⟨_, rfl, ?_⟩
      simp only
      rcases p2 with ⟨rfl, c1, p2⟩ | ⟨rfl, p2⟩
      · have e4 : (A.1 k).length = l.length := by
          rw [← hc] at c1
          exact of_decide_eq_true (Bool.and_eq_true_iff.mp c1).2
        rw [if_pos ⟨c1, getD_ext hN hl (fun j hj => by
          rcases Nat.lt_or_ge j l.length with q | q
          · exact p2 j q
          · rw [gD_out (by omega), gD_out q])⟩]
      · rw [if_neg p2]) ((if c = true then (1:Int32) else 0), (0:Int32)) ⟨nI_0.symm, by
      simp only
      by_cases c1 : c = true
      · exact Or.inl ⟨if_pos c1, c1, fun j hj => by omega⟩
      · exact Or.inr ⟨if_neg c1, fun q => c1 q.1⟩⟩
    rw [g1]
    obtain ⟨v, u⟩ := e
    simp only at g2
    simp only [bs]
    rw [g2, nI_1]
    by_cases e : c = true ∧ A.1 k = l
    · obtain ⟨c1, c2⟩ := e
      have e' := c1
      rw [← hc] at e'
      simp only [Bool.and_eq_true, decide_eq_true_eq] at e'
      rw [show (if c = true ∧ A.1 k = l then (1:Int32) else 0) = 1 from if_pos ⟨c1, c2⟩, if_neg (show ¬ (1:Int32) = 0 by decide)]
      simp only [bs]
      rw [if_pos (by simp only [e'.1.2, c2, ne_eq, not_false_eq_true, decide_true, Bool.true_and]; exact e'.1.1)]
    · rw [if_neg e, if_pos rfl]
      simp only [bs, Int32.or_zero]
      rw [if_neg (fun q => e ?_)]
      simp only [Bool.and_eq_true, decide_eq_true_eq] at q
      refine ⟨?_, q.1.2⟩
      rw [← hc]
      simp only [Bool.and_eq_true, decide_eq_true_eq]
      exact ⟨⟨q.2, q.1.1⟩, by rw [q.1.2]⟩
  · unfold f177_haveOne_b1
    simp only
    rw [hM.1, if_pos (nI_le (by omega) (by omega))]
/-- whose names begin so -/
theorem beginSo_ok {T : pv_T} {n : Nat} {K : Nat → Nat} {A : TS} (hF : okT n K A) (hM : MR T n K A) {l : List Nat} {m : Nat} (hl : okN l) (hm : m ≤ l.length) (hO : ∀ i, i < l.length → T.1 111 i = nI (96 + l.getD i 0)) {b : Int32} {ob : Nat → Bool} (hb : ∀ y, y < n → (nI y = b ↔ ob y = true)) : f200_beginSo (nI m) b T = some (nI (bits (fun y => (decide (K y ≠ 3) && decide ((A.1 y).take m = l.take m)) && !(ob y)) n)) := by
  have h7 := hF.1
  have hl6 := hl.1
  unfold f200_beginSo
  rw [bits_loop (n := n) (fun y => (decide (K y ≠ 3) && decide ((A.1 y).take m = l.take m)) && !(ob y)) h7 (fun k a hk => ?_) (fun a => ?_)]
  · simp only [bs]
  · obtain ⟨h5, hN, -⟩ := hF.2 k hk
    have hN6 := hN.1
    have htk : (A.1 k).take m = l.take m → m ≤ (A.1 k).length := fun q => by
      have := congrArg List.length q
      rw [List.length_take, List.length_take] at this
      omega
    unfold f200_beginSo_b1
    simp only
    rw [hM.1, if_neg (nI_ge hk (by omega)), rd_nI (by omega), hM.2.1 k hk, lenOf_ok h7 hM hk]
    simp only [bs]
    have ht : ((if nI k = b then some (0:Int32) else if nI (K k) = (3:Int32) then some 0 else if nI (A.1 k).length < nI m then some 0 else some 1) : Option Int32) = some (if (!(ob k) && decide (K k ≠ 3) && decide (m ≤ (A.1 k).length)) = true then 1 else 0) := by
      by_cases e1 : ob k = true
      · rw [if_pos ((hb k hk).mpr e1)]; simp [e1]
      · rw [if_neg (fun q => e1 ((hb k hk).mp q))]
        by_cases e3 : K k = 3
        · rw [if_pos (by rw [e3]; decide)]; simp [e3]
        · rw [if_neg (show ¬ nI (K k) = (3:Int32) from fun q => e3 ((nI_eq (by omega) (by omega)).mp (show nI (K k) = nI 3 from q)))]
          by_cases e4 : m ≤ (A.1 k).length
          · rw [if_neg (nI_nlt e4 (by omega))]; simp [e1, e3, e4]
          · rw [if_pos (nI_lt (by omega) (by omega))]; simp [e4]
    rw [ht]
    simp only [bs]
    generalize hc : (!(ob k) && decide (K k ≠ 3) && decide (m ≤ (A.1 k).length)) = c
    obtain ⟨e, g1, g2⟩ := lq_inv (B := f200_beginSo_b2 (nI m) b (nI a) (nI k) T) (P := fun i st => st.2 = nI i ∧ ((st.1 = 1 ∧ c = true ∧ ∀ j, j < i → (A.1 k).getD j 0 = l.getD j 0) ∨ (st.1 = 0 ∧ ¬ (c = true ∧ (A.1 k).take m = l.take m)))) (Q := fun st => st.1 = if c = true ∧ (A.1 k).take m = l.take m then 1 else 0) m (fun i st hi hP => by
      obtain ⟨v, u⟩ := st
      obtain ⟨p1, p2⟩ := hP
      simp only at p1 p2
      subst p1
      unfold f200_beginSo_b2
      simp only
      rw [if_neg (nI_ge hi (by omega)), nI_1]
      rcases p2 with ⟨rfl, c1, p2⟩ | ⟨rfl, p2⟩
      · have e4 : m ≤ (A.1 k).length := by
          rw [← hc] at c1
          exact of_decide_eq_true (Bool.and_eq_true_iff.mp c1).2
        rw [if_neg (show ¬ (1:Int32) = 0 by decide), letterOf_ok hF hM hk (by omega), rd_nI (by omega), hO i (by omega)]
        simp only [bs]
        have d1 := (okN_d hN i).1
        have d2 := (okN_d hl i).1
        by_cases hd : (A.1 k).getD i 0 = l.getD i 0
        · rw [hd, if_pos rfl]
          refine ⟨_, rfl, rfl, Or.inl ⟨rfl, c1, fun j hj => ?_⟩⟩
          by_cases ej : j = i
          · subst ej; exact hd
          · exact p2 j (by omega)
        · rw [if_neg (fun q => hd (by have := (nI_eq (by omega) (by omega)).mp q; omega))]
          refine ⟨_, rfl, rfl, Or.inr ⟨rfl, fun q => hd ?_⟩⟩
          have := congrArg (fun z => z.getD i 0) q.2
          simp only [getD_take, hi, if_true] at this
          exact this
      · rw [if_pos rfl]
        exact ⟨_, rfl, rfl, Or.inr ⟨rfl, p2⟩⟩) (fun st hP => by
      obtain ⟨v, u⟩ := st
      obtain ⟨p1, p2⟩ := hP
      simp only at p1 p2
      subst p1
      unfold f200_beginSo_b2
      simp only
      rw [if_pos (nI_le (by omega) (by omega))]
      refine ⟨_, rfl, ?_⟩
      simp only
      rcases p2 with ⟨rfl, c1, p2⟩ | ⟨rfl, p2⟩
      · rw [if_pos ⟨c1, getD_ext (okN_take hN m) (okN_take hl m) (fun j hj => by
          rw [getD_take, getD_take]
          by_cases q : j < m
          · rw [if_pos q, if_pos q]; exact p2 j q
          · rw [if_neg q, if_neg q])⟩]
      · rw [if_neg p2]) ((if c = true then (1:Int32) else 0), (0:Int32)) ⟨nI_0.symm, by
      simp only
      by_cases c1 : c = true
      · exact Or.inl ⟨if_pos c1, c1, fun j hj => by omega⟩
      · exact Or.inr ⟨if_neg c1, fun q => c1 q.1⟩⟩
    rw [g1]
    obtain ⟨v, u⟩ := e
    simp only at g2
    simp only [bs]
    rw [g2, nI_1]
    by_cases e : c = true ∧ (A.1 k).take m = l.take m
    · obtain ⟨c1, c2⟩ := e
      have e' := c1
      rw [← hc] at e'
      simp only [Bool.and_eq_true, decide_eq_true_eq] at e'
      rw [show (if c = true ∧ (A.1 k).take m = l.take m then (1:Int32) else 0) = 1 from if_pos ⟨c1, c2⟩, if_neg (show ¬ (1:Int32) = 0 by decide)]
      simp only [bs]
      rw [if_pos (by simp only [e'.1.2, c2, ne_eq, not_false_eq_true, decide_true, Bool.true_and]; exact e'.1.1)]
    · rw [if_neg e, if_pos rfl]
      simp only [bs, Int32.or_zero]
      rw [if_neg (fun q => e ?_)]
      simp only [Bool.and_eq_true, decide_eq_true_eq] at q
      refine ⟨?_, q.1.2⟩
      rw [← hc]
      simp only [Bool.and_eq_true, decide_eq_true_eq]
      exact ⟨⟨q.2, q.1.1⟩, htk q.1.2⟩
  · unfold f200_beginSo_b1
    simp only
    rw [hM.1, if_pos (nI_le (by omega) (by omega))]
theorem ob_none {n : Nat} (hn : n ≤ 7) : ∀ y, y < n → (nI y = (-9:Int32) ↔ (fun _ : Nat => false) y = true) := fun y hy => ⟨fun q => absurd q (nI_len_ne (by omega)), fun q => by simp at q⟩
theorem ob_one {n x : Nat} (hn : n ≤ 7) (hx : x < n) : ∀ y, y < n → (nI y = nI x ↔ (fun z : Nat => decide (z = x)) y = true) := fun y hy => ⟨fun q => decide_eq_true ((nI_eq (by omega) (by omega)).mp q), fun q => by rw [of_decide_eq_true q]⟩
/-! CROWD, SHORTEST -/
theorem noTextM {x : Int32} (T : pv_T) (h : x < 0 ∨ nI 4 ≤ x) : f179_askedName x T = some (-1, T) := by
  unfold f179_askedName
  rw [askedT_no T h]
  rfl
theorem op35 : OP35 Inv := by
  intro a s T h
  obtain ⟨n, K, A, hn, hF, hC, hM, hR⟩ := h.2.2.2.view
  unfold f89_crowd f201_crowd
  have hno : (a < 0 ∨ nI 4 ≤ a) → ∃ b s' T', ((f100_isText a).bind fun q2 => if q2 = 0 then some ((-1:Int32), s) else (pv_ra 2 4 a).bind fun o4 => (f106_nameFinding o4 s).bind fun q8 => if q8 = 0 then (pv_ra 2 4 a).bind fun o10 => (f30_spelling o10 s).bind fun q14 => (f13_named 8 q14 s).bind fun q16 => (pv_pf s 0 8 q16).bind fun s17 => (f14_beginning 8 q14 s17).bind fun q20 => some (q20, s17) else (f104_find q8 s).bind fun x => some (x.1, x.2)) = some (b, s') ∧ (f179_askedName a T).bind (fun x => ((if 0 ≤ x.1 then (f177_haveOne (-9:Int32) x.2).bind fun q10 => (f200_beginSo (x.2.1 94 26) (-9:Int32) x.2).bind fun q12 => (f116_ask q10 q12 x.2).bind fun y => some (y.1, y.2) else some (x.1, x.2)) : Option (Int32 × pv_T)).bind fun y => some (y.1, y.2)) = some (b, T') ∧ Inv s' T' := fun q => by
    rw [(noText q).1, noTextM T q]
    exact ⟨-1, s, T, rfl, rfl, h⟩
  rcases pk_ix a (n := 4) (by omega) with ha | ha | ⟨r, hr, rfl⟩
  · exact hno (Or.inl ha)
  · exact hno (Or.inr ha)
  clear hno
  rw [isTextC_in hr]
  simp only [bs]
  rw [if_neg (show ¬ (1:Int32) = 0 by decide), ra_t hr]
  simp only [bs]
  rcases nameAsk h hr with ⟨f, f1, f2, f3, f4⟩ | ⟨l, T1, l1, l0, l2, l3, l4, l5, l6, l7⟩
  · rw [f3, f4]
    simp only [bs]
    rw [if_neg (nI_ne0 f1 (by omega)), find_ok f f2, if_neg (show ¬ (0:Int32) ≤ -3 by decide)]
    exact ⟨_, _, _, rfl, rfl, h.fnd f1 f2⟩
  · have hM1 : MR T1 n K A := hM.frame (l6 8 (by decide)) (l7 101 (by decide) (by decide)) (l7 105 (by decide) (by decide))
    rw [l2, l3, l4]
    simp only [bs]
    rw [if_pos True.intro, if_pos (show (0:Int32) ≤ 0 by decide), named_ok hF hC l1, haveOne_ok hF hM1 l1 l5 (ob_none hn), l5.1]
    simp only [bs, pv_pf]
    rw [beginning_ok hF (hC.frame (s' := pv_up s 0 8 _) (fun a ha => up_ne (by omega))) l1, beginSo_ok hF hM1 l1 (Nat.le_refl _) l5.2 (ob_none hn)]
    unfold f116_ask
    simp only [bs, pv_pm]
    have e1 : bits (fun y => (decide (K y ≠ 3) && decide (A.1 y = l)) && !(false)) n = bits (fun x => decide (K x ≠ 3) && decide (A.1 x = l)) n := bits_congr fun y hy => by simp
    have e2 : bits (fun y => (decide (K y ≠ 3) && decide ((A.1 y).take l.length = l.take l.length)) && !(false)) n = bits (fun x => decide (K x ≠ 3) && decide ((A.1 x).take l.length = l)) n := bits_congr fun y hy => by simp
    rw [e1, e2]
    refine ⟨_, _, _, rfl, rfl, ?_⟩
    refine Inv.aside (h.tell (nI (bits (fun x => decide (K x ≠ 3) && decide (A.1 x = l)) n))) (fun a ha => rfl) (fun c hc => ?_) (fun i hi => ?_) (fun j hj => ?_)
    · rw [upT (by omega), upT (by omega), l7 c (by omega) (by omega)]
    · rw [upT (by decide), upT (by decide), l7 105 (by decide) (by decide)]
    · by_cases e2 : j = 2
      · subst e2; rw [upTa, upTa]
      · rw [upTj e2, upTj e2, l6 j (by omega)]
