/-! the pure machine's memory as a world -/
def pv_V (N0 scr : Nat) : Value → Value
  | .ref a => .ref (N0 + a)
  | .retAddr _ => .ref scr
  | v => v
theorem pv_V_cat (N0 scr : Nat) (v : Value) : (pv_V N0 scr v).category = v.category := by cases v <;> rfl
theorem pv_V_sum (N0 scr : Nat) (r : List Value) : ((r.map (pv_V N0 scr)).map fun v => v.category).sum = (r.map fun v => v.category).sum := by
  rw [List.map_map]
  congr 1
  apply List.map_congr_left
  intro v _
  exact pv_V_cat N0 scr v
def pv_E (N0 scr : Nat) (cI : ClassId) (cR : Nat → ClassId) : pv_C → va_E
  | .inl (n, f) => .inl (cI, n, .inl f)
  | .inr (.inl (ci, n, f)) => .inl (cR ci, n, .inr (.inr (.inr (.inr (fun i => (f i).map (fun b => N0 + b))))))
  | .inr (.inr (ci, fs)) => .inr (ci, fs.map (pv_V N0 scr))
def pv_w (N0 scr : Nat) (cI : ClassId) (cR : Nat → ClassId) (M : pv_M) : va_W := M.mapIdx (fun k c => (N0 + k, pv_E N0 scr cI cR c))
section PW
variable {N0 scr : Nat} {cI : ClassId} {cR : Nat → ClassId} {M : pv_M}
theorem pv_w_get (k : Nat) : (pv_w N0 scr cI cR M)[k]? = (M[k]?).map (fun c => (N0 + k, pv_E N0 scr cI cR c)) := by simp [pv_w]
theorem pv_w_at {k : Nat} {c : pv_C} (h : M[k]? = some c) : (pv_w N0 scr cI cR M)[k]? = some (N0 + k, pv_E N0 scr cI cR c) := by rw [pv_w_get, h]; rfl
theorem pv_w_set {k : Nat} (c : pv_C) : (pv_w N0 scr cI cR M).set k (N0 + k, pv_E N0 scr cI cR c) = pv_w N0 scr cI cR (M.set k c) := by
  apply List.ext_getElem?
  intro j
  rw [pv_w_get, List.getElem?_set, List.getElem?_set, pv_w_get]
  have hl : (pv_w N0 scr cI cR M).length = M.length := by simp [pv_w]
  by_cases hk : k = j
  · subst hk
    by_cases h : k < M.length
    · simp [h, hl]
    · simp [h, hl]
  · simp [hk]
theorem pv_w_app (c : pv_C) : pv_w N0 scr cI cR (M ++ [c]) = pv_w N0 scr cI cR M ++ [(N0 + M.length, pv_E N0 scr cI cR c)] := by
  simp [pv_w, List.mapIdx_append]
theorem pv_w_D : va_D (fun q => N0 ≤ q) (pv_w N0 scr cI cR M) := by
  have key : ∀ (i : Nat) (p : Nat × va_E), (pv_w N0 scr cI cR M)[i]? = some p → p.1 = N0 + i := by
    intro i p h
    rw [pv_w_get] at h
    obtain ⟨c, -, rfl⟩ := Option.map_eq_some_iff.mp h
    rfl
  refine ⟨fun i j p q hi hj hpq => ?_, fun k q hk => ?_⟩
  · have a := key i p hi
    have b := key j q hj
    omega
  · have a := key k q hk
    show N0 ≤ q.1
    omega
end PW
/-- the locals -/
def pv_L (N0 scr : Nat) (ls : Array Slot) (lv : pv_Lv) : Prop := ls.size = lv.length ∧ lv_wf ls ∧ ∀ (i : Nat) (v : Value), lv[i]? = some (some v) → ls[i]? = some (.val (pv_V N0 scr v))
def pv_ps (N0 scr : Nat) (lv : pv_Lv) : List (Nat × Value) := (List.range lv.length).filterMap (fun i => (lv.getD i none).map (fun v => (i, pv_V N0 scr v)))
section PL
variable {N0 scr : Nat} {ls : Array Slot} {lv : pv_Lv}
theorem pv_ps_mem {i : Nat} {w : Value} : (i, w) ∈ pv_ps N0 scr lv ↔ ∃ v, lv[i]? = some (some v) ∧ w = pv_V N0 scr v := by
  unfold pv_ps
  rw [List.mem_filterMap]
  constructor
  · rintro ⟨j, hj, h⟩
    obtain ⟨v, hv, he⟩ := Option.map_eq_some_iff.mp h
    cases he
    rw [List.mem_range] at hj
    refine ⟨v, ?_, rfl⟩
    rw [List.getD_eq_getElem?_getD, List.getElem?_eq_getElem hj] at hv
    rw [List.getElem?_eq_getElem hj]
    simpa using hv
  · rintro ⟨v, hv, rfl⟩
    have hj := (List.getElem?_eq_some_iff.mp hv).1
    refine ⟨i, List.mem_range.mpr hj, ?_⟩
    rw [List.getD_eq_getElem?_getD, hv]
    rfl
theorem pv_L_has (h : pv_L N0 scr ls lv) : lv_has ls lv.length (pv_ps N0 scr lv) := by
  refine ⟨h.1, h.2.1, fun q hq => ?_⟩
  obtain ⟨i, w⟩ := q
  obtain ⟨v, hv, rfl⟩ := pv_ps_mem.mp hq
  exact h.2.2 i v hv
theorem pv_L_set1 {ls' : Array Slot} {i : Nat} {v : Value} (hok : pv_ok lv i = true) (h : lv_has ls' lv.length ((i, pv_V N0 scr v) :: (pv_ps N0 scr lv).filter (fun q => !(q.1 == i) && !(q.1 + 1 == i && q.2.category == 2)))) : pv_L N0 scr ls' (lv.set i (some v)) := by
  refine ⟨by rw [List.length_set]; exact h.1, h.2.1, fun j w hj => ?_⟩
  by_cases hij : i = j
  · subst hij
    rw [List.getElem?_set_self (by
      have := (List.getElem?_eq_some_iff.mp hj).1
      simpa using this)] at hj
    cases hj
    exact h.2.2 (i, _) List.mem_cons_self
  · rw [List.getElem?_set_ne hij] at hj
    refine h.2.2 (j, pv_V N0 scr w) (List.mem_cons_of_mem _ (List.mem_filter.mpr ⟨pv_ps_mem.mpr ⟨w, hj, rfl⟩, ?_⟩))
    have h1 : (j == i) = false := by simpa using fun e => hij e.symm
    have h2 : (j + 1 == i && (pv_V N0 scr w).category == 2) = false := by
      by_cases e : j + 1 = i
      · subst e
        unfold pv_ok at hok
        rw [Bool.and_eq_true] at hok
        have h3 := hok.2
        dsimp only at h3
        rw [hj] at h3
        have h4 : w.category = 1 := by simpa using h3
        rw [pv_V_cat, h4]
        simp
      · have : (j + 1 == i) = false := by simpa using e
        rw [this]
        rfl
    simp only [h1, h2]
    rfl
theorem pv_L_set2 {ls' : Array Slot} {i : Nat} {v : Value} (hok : pv_ok lv i = true) (h : lv_has ls' lv.length ((i, pv_V N0 scr v) :: (pv_ps N0 scr lv).filter (fun q => !(q.1 == i) && (!(q.1 == i + 1) && !(q.1 + 1 == i && q.2.category == 2))))) : pv_L N0 scr ls' ((lv.set i (some v)).set (i + 1) none) := by
  refine ⟨by rw [List.length_set, List.length_set]; exact h.1, h.2.1, fun j w hj => ?_⟩
  by_cases hi1 : i + 1 = j
  · subst hi1
    have hlt := (List.getElem?_eq_some_iff.mp hj).1
    rw [List.getElem?_set_self (by simpa using hlt)] at hj
    cases hj
  rw [List.getElem?_set_ne hi1] at hj
  by_cases hij : i = j
  · subst hij
    rw [List.getElem?_set_self (by
      have := (List.getElem?_eq_some_iff.mp hj).1
      simpa using this)] at hj
    cases hj
    exact h.2.2 (i, _) List.mem_cons_self
  · rw [List.getElem?_set_ne hij] at hj
    refine h.2.2 (j, pv_V N0 scr w) (List.mem_cons_of_mem _ (List.mem_filter.mpr ⟨pv_ps_mem.mpr ⟨w, hj, rfl⟩, ?_⟩))
    have h1 : (j == i) = false := by simpa using fun e => hij e.symm
    have h0 : (j == i + 1) = false := by simpa using fun e => hi1 e.symm
    have h2 : (j + 1 == i && (pv_V N0 scr w).category == 2) = false := by
      by_cases e : j + 1 = i
      · subst e
        unfold pv_ok at hok
        rw [Bool.and_eq_true] at hok
        have h3 := hok.2
        dsimp only at h3
        rw [hj] at h3
        have h4 : w.category = 1 := by simpa using h3
        rw [pv_V_cat, h4]
        simp
      · have : (j + 1 == i) = false := by simpa using e
        rw [this]
        rfl
    simp only [h0, h1, h2]
    rfl
theorem pv_ok_lt {i : Nat} (h : pv_ok lv i = true) : i < lv.length := by
  unfold pv_ok at h
  rw [Bool.and_eq_true] at h
  exact of_decide_eq_true h.1
theorem pv_gr_ok {i : Nat} {v : Value} (h : pv_gr lv i = some v) (hl : pv_L N0 scr ls lv) : ∃ q, pv_V N0 scr v = .ref q ∧ ls[i]? = some (.val (.ref q)) := by
  unfold pv_gr at h
  split at h
  next a e => cases h; exact ⟨N0 + a, rfl, hl.2.2 i _ e⟩
  next a e => cases h; exact ⟨scr, rfl, hl.2.2 i _ e⟩
  next => cases h
theorem pv_gi_ok {i : Nat} {x : Int32} (h : pv_gi lv i = some x) : lv[i]? = some (some (.int x)) := by
  unfold pv_gi at h
  split at h
  next a e => cases h; exact e
  next => cases h
theorem pv_gl_ok {i : Nat} {x : Int64} (h : pv_gl lv i = some x) : lv[i]? = some (some (.long x)) := by
  unfold pv_gl at h
  split at h
  next a e => cases h; exact e
  next => cases h
end PL
theorem pv_pl_args {N0 scr : Nat} : ∀ (as : List Value) (i j : Nat) (v : Value), (pv_pl as)[j]? = some (some v) → (i + j, pv_V N0 scr v) ∈ lv_args i (as.map (pv_V N0 scr)) := by
  intro as
  induction as with
  | nil => intro i j v h; simp [pv_pl] at h
  | cons a as ih =>
    intro i j v h
    unfold pv_pl at h
    simp only [List.map_cons, lv_args, pv_V_cat]
    by_cases hc : a.category = 2
    · rw [if_pos hc] at h
      rw [if_pos hc]
      match j, h with
      | 0, h => simp at h; subst h; exact List.mem_cons_self
      | 1, h => simp at h
      | j + 2, h =>
        simp only [List.getElem?_cons_succ] at h
        have := ih (i + 2) j v h
        rw [show i + (j + 2) = i + 2 + j by omega]
        exact List.mem_cons_of_mem _ this
    · rw [if_neg hc] at h
      rw [if_neg hc]
      match j, h with
      | 0, h => simp at h; subst h; exact List.mem_cons_self
      | j + 1, h =>
        simp only [List.getElem?_cons_succ] at h
        have := ih (i + 1) j v h
        rw [show i + (j + 1) = i + 1 + j by omega]
        exact List.mem_cons_of_mem _ this
theorem pv_pl_len {N0 scr : Nat} : ∀ (as : List Value), (lg_sl (as.map (pv_V N0 scr))).length = (pv_pl as).length := by
  intro as
  induction as with
  | nil => rfl
  | cons a as ih =>
    have e : lg_sl ((a :: as).map (pv_V N0 scr)) = (if (pv_V N0 scr a).category = 2 then [Slot.val (pv_V N0 scr a), Slot.second] else [Slot.val (pv_V N0 scr a)]) ++ lg_sl (as.map (pv_V N0 scr)) := by
      simp only [lg_sl, List.map_cons, List.flatMap_cons]
    rw [e, List.length_append, ih, pv_V_cat, show pv_pl (a :: as) = if a.category = 2 then some a :: none :: pv_pl as else some a :: pv_pl as from rfl]
    by_cases hc : a.category = 2
    · rw [if_pos hc, if_pos hc]
      simp only [List.length_cons, List.length_nil]
      omega
    · rw [if_neg hc, if_neg hc]
      simp only [List.length_cons, List.length_nil]
      omega
theorem pv_en_L {N0 scr z : Nat} {as : List Value} {ls : Array Slot} (hle : (pv_pl as).length ≤ pv_ml z) (h : lv_has ls (pv_ml z) (lv_args 0 (as.map (pv_V N0 scr)))) : pv_L N0 scr ls (pv_en z as) := by
  refine ⟨by rw [h.1]; simp [pv_en]; omega, h.2.1, fun i v hi => ?_⟩
  unfold pv_en at hi
  by_cases hl : i < (pv_pl as).length
  · rw [List.getElem?_append_left hl] at hi
    have := pv_pl_args (N0 := N0) (scr := scr) as 0 i v hi
    rw [Nat.zero_add] at this
    exact h.2.2 (i, _) this
  · rw [List.getElem?_append_right (by omega)] at hi
    have := List.mem_of_getElem? hi
    rw [List.mem_replicate] at this
    exact absurd this.2 (by simp)
