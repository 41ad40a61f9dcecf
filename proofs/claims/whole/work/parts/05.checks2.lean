/-! the words that a method needs, all good ones of the tables -/
def pv_W : List Cond := lw_tbl.filter goodWord
theorem pv_Wi {w : Cond} (h : w ∈ lw_tbl) (g : goodWord w = true) : w ∈ pv_W := List.mem_filter.mpr ⟨h, g⟩
theorem pv_Wg : GoodIn pv_W pv_W := fun w hw => ⟨hw, good_of_word (List.mem_filter.mp hw).2⟩
def pv_clok (ci : Nat) : Bool := match pv_cl[ci]?, pv_df[ci]? with
  | some r, some fs => (u_ws r.1 r.2.1 r.2.2).all (fun w => decide (w ∈ lw_tbl) && goodWord w) && (List.range r.2.2).all (fun k => decide (parseFieldDescriptor (r.2.1 k).2.2.1 = some (pv_ft ci k)) && decide (defaultValue (pv_ft ci k) = vp_V fs k) && (List.range r.2.2).all (fun b => decide (k = b) || decide ((r.2.1 k).2.1 ≠ (r.2.1 b).2.1))) && decide (Cond.instantiable r.1 r.2.2 ∈ lw_tbl) && decide (Cond.initialized r.1 ∈ lw_tbl) && decide (pv_o ci = r.1) && decide (fs.length = r.2.2)
  | _, _ => false
theorem pv_clok_all : ∀ ci, ci < 7 → pv_clok ci = true := by decide +kernel
theorem pv_ini_all : ∀ o, o < 10 → Cond.initialized (pv_o o) ∈ lw_tbl := by decide +kernel
theorem pv_on_all : ∀ o, o < 10 → pv_o o ≠ "java/lang/invoke/MethodHandle" ∧ pv_o o ≠ "java/lang/invoke/VarHandle" ∧ plainName (pv_o o) = true := by
  intro o ho
  match o, ho with
  | 0, _ => exact ⟨by decide, by decide, by decide⟩
  | 1, _ => exact ⟨by decide, by decide, by decide⟩
  | 2, _ => exact ⟨by decide, by decide, by decide⟩
  | 3, _ => exact ⟨by decide, by decide, by decide⟩
  | 4, _ => exact ⟨by decide, by decide, by decide⟩
  | 5, _ => exact ⟨by decide, by decide, by decide⟩
  | 6, _ => exact ⟨by decide, by decide, by decide⟩
  | 7, _ => exact ⟨by decide, by decide, by decide⟩
  | 8, _ => exact ⟨by decide, by decide, by decide⟩
  | 9, _ => exact ⟨by decide, by decide, by decide⟩
  | n + 10, h => omega
def pv_mok (z : Nat) : Bool := decide (z ∈ pv_zc) && decide (pv_oc z < 10) && decide ((pv_nm z).cls = pv_on z) && decide (pv_ml z ≤ 21)
theorem pv_mok_r : (List.range 226).all (fun z => decide (pv_law ≤ z) || pv_mok z) = true := by decide +kernel
theorem pv_mok_all (z : Nat) (h : z < pv_law) : pv_mok z = true := by
  have h2 : z < 226 := Nat.lt_of_lt_of_le h (by decide)
  have h1 := List.all_eq_true.mp pv_mok_r z (List.mem_range.mpr h2)
  rcases (Bool.or_eq_true _ _).mp h1 with q | q
  · exact absurd (of_decide_eq_true q) (Nat.not_le.mpr h)
  · exact q
def pv_np (z np : Nat) : Bool := decide ((parseMethodDescriptor (pv_nm z).desc).map (fun d => d.parameters.length) = some np)
def pv_lkok (o : Nat) (e : Nat × Nat × Nat × Nat) : Bool := match e with
  | (i, 0, ci, f) => decide (ci < 7) && decide (f < (pv_cl.getD ci ("", pv_T0, 0)).2.2) && decide ((o, i, ci, f) ∈ pv_lf)
  | (i, 1, z, np) => decide (z < pv_law) && pv_np z np && decide ((o, i, z) ∈ pv_lm) && decide (z ∈ pv_zi) && decide (z ∈ pv_zv) && decide (pv_oc z < 7)
  | (i, 2, z, np) => decide (z < pv_law) && pv_np z np && decide ((o, i, z) ∈ pv_lm) && decide (z ∈ pv_zs)
  | (i, 3, z, np) => decide (z < pv_law) && pv_np z np && decide ((o, i, z) ∈ pv_lm) && decide (z ∈ pv_zi) && decide ((pv_nm z).name = "<init>") && decide (pv_rt z = none)
  | (i, 4, _, _) => decide ((o, i) ∈ pv_lo)
  | (i, 5, _, _) => decide ((o, i) ∈ pv_ly)
  | (i, 9, _, _) => decide ((o, i) ∈ pv_lx)
  | (i, 6, ci, _) => decide (ci < 7) && decide ((o, i, ci) ∈ pv_lc)
  | (i, 7, z, np) => decide (z < pv_law) && pv_np z np && decide ((o, i, z) ∈ pv_lN) && decide (z ∈ pv_zi) && decide (z ∈ pv_zv) && decide (pv_oc z < 7)
  | (i, 8, z, np) => decide (z < pv_law) && pv_np z np && decide ((o, i, z) ∈ pv_lN) && decide (z ∈ pv_zi) && decide ((pv_nm z).name = "<init>") && decide (pv_rt z = none)
  | _ => false
theorem pv_lk0 : pv_p0.all (pv_lkok 0) = true := by decide +kernel
theorem pv_lk1 : pv_p1.all (pv_lkok 1) = true := by decide +kernel
theorem pv_lk2 : pv_p2.all (pv_lkok 2) = true := by decide +kernel
theorem pv_lk3 : pv_p3.all (pv_lkok 3) = true := by decide +kernel
theorem pv_lk4 : pv_p4.all (pv_lkok 4) = true := by decide +kernel
theorem pv_lk5 : pv_p5.all (pv_lkok 5) = true := by decide +kernel
theorem pv_lk6 : pv_p6.all (pv_lkok 6) = true := by decide +kernel
theorem pv_lk7 : pv_p7.all (pv_lkok 7) = true := by decide +kernel
theorem pv_lk9 : pv_p9.all (pv_lkok 9) = true := by decide +kernel
theorem pv_look_ok {o i t a b : Nat} (h : pv_look o i = some (t, a, b)) : pv_lkok o (i, t, a, b) = true := by
  unfold pv_look at h
  obtain ⟨q, hq, he⟩ := Option.map_eq_some_iff.mp h
  have hm := List.mem_of_find?_eq_some hq
  have hi : q.1 = i := by simpa using List.find?_some hq
  obtain ⟨q1, q2⟩ := q
  cases hi
  cases he
  have key : ∀ (L : List (Nat × Nat × Nat × Nat)), pv_cp.getD o [] = L → L.all (pv_lkok o) = true := by
    intro L hL
    match o, hL with
    | 0, hL => rw [← hL]; exact pv_lk0
    | 1, hL => rw [← hL]; exact pv_lk1
    | 2, hL => rw [← hL]; exact pv_lk2
    | 3, hL => rw [← hL]; exact pv_lk3
    | 4, hL => rw [← hL]; exact pv_lk4
    | 5, hL => rw [← hL]; exact pv_lk5
    | 6, hL => rw [← hL]; exact pv_lk6
    | 7, hL => rw [← hL]; exact pv_lk7
    | 8, hL => rw [← hL]; rfl
    | 9, hL => rw [← hL]; exact pv_lk9
    | n + 10, hL => rw [← hL]; rfl
  exact List.all_eq_true.mp (key _ rfl) _ hm
theorem pv_kit_ok : pv_kit.all (fun q => decide (Cond.constant (pv_cn.getD q.1 "") q.2.1 q.2.2 ∈ lw_tbl)) = true := by decide +kernel
theorem pv_klt_ok : pv_klt.all (fun q => decide (Cond.constantLong (pv_cn.getD q.1 "") q.2.1 q.2.2 ∈ lw_tbl)) = true := by decide +kernel
theorem pv_ki_ok {o i : Nat} {v : Int32} (h : pv_ki o i = some v) : Cond.constant (pv_o o) i v ∈ pv_W := by
  unfold pv_ki at h
  obtain ⟨q, hq, he⟩ := Option.map_eq_some_iff.mp h
  have hm := List.mem_of_find?_eq_some hq
  have hi := List.find?_some hq
  obtain ⟨q1, q2, q3⟩ := q
  simp only [Bool.and_eq_true, beq_iff_eq] at hi
  obtain ⟨rfl, rfl⟩ := hi
  cases he
  have h2 := List.all_eq_true.mp pv_kit_ok _ hm
  simp only [decide_eq_true_eq] at h2
  exact pv_Wi h2 rfl
theorem pv_kl_ok {o i : Nat} {v : Int64} (h : pv_kl o i = some v) : Cond.constantLong (pv_o o) i v ∈ pv_W := by
  unfold pv_kl at h
  obtain ⟨q, hq, he⟩ := Option.map_eq_some_iff.mp h
  have hm := List.mem_of_find?_eq_some hq
  have hi := List.find?_some hq
  obtain ⟨q1, q2, q3⟩ := q
  simp only [Bool.and_eq_true, beq_iff_eq] at hi
  obtain ⟨rfl, rfl⟩ := hi
  cases he
  have h2 := List.all_eq_true.mp pv_klt_ok _ hm
  simp only [decide_eq_true_eq] at h2
  exact pv_Wi h2 rfl
theorem pv_w_misc : Cond.instanceMethod objectInit ∈ lw_tbl ∧ Cond.code objectInit ⟨#[0xb1]⟩ 1 none ∈ lw_tbl ∧ Cond.native arraycopyName ∈ lw_tbl ∧ Cond.static arraycopyName ∈ lw_tbl ∧ Cond.initialized "java/lang/System" ∈ lw_tbl ∧ Cond.arrayClass .int ∈ lw_tbl ∧ Cond.static Lib.Math.min.name ∈ lw_tbl ∧ Cond.initialized "java/lang/Math" ∈ lw_tbl ∧ Cond.code Lib.Math.min.name Lib.Math.min.code 2 (some .int) ∈ lw_tbl ∧ Cond.arrayOver (.object "WornNames$Deeds") ∈ lw_tbl ∧ Cond.arrayOver (.object "WornNames$Folk") ∈ lw_tbl ∧ Cond.arrayOver (.object "WornNames$Row") ∈ lw_tbl := by decide +kernel
/-! what the checks say, by kind of entry -/
theorem pv_f_ok {o i ci f : Nat} (h : pv_look o i = some (0, ci, f)) : ∃ r, pv_cl[ci]? = some r ∧ f < r.2.2 ∧ ci < 7 ∧ Cond.fieldLink (pv_o o) i (r.2.1 f).1 (r.2.1 f).2.1 (r.2.1 f).2.2.1 ∈ pv_W := by
  have h1 := pv_look_ok h
  simp only [pv_lkok, Bool.and_eq_true, decide_eq_true_eq] at h1
  obtain ⟨⟨h2, h3⟩, h4⟩ := h1
  have h5 : ci < pv_cl.length := h2
  have h6 : pv_cl[ci]? = some pv_cl[ci] := List.getElem?_eq_getElem h5
  have h7 : pv_cl.getD ci ("", pv_T0, 0) = pv_cl[ci] := by simp [List.getD_eq_getElem?_getD, h6]
  have h8 := pv_fm pv_hf h4
  simp only [pv_ef] at h8
  rw [h7] at h3 h8
  exact ⟨_, h6, h3, h2, pv_Wi h8 rfl⟩
theorem pv_c_ok {ci : Nat} {r : vw_C} (h : pv_cl[ci]? = some r) : ∃ fs, pv_df[ci]? = some fs ∧ (∀ w ∈ u_ws r.1 r.2.1 r.2.2, w ∈ pv_W) ∧ (∀ k, k < r.2.2 → parseFieldDescriptor (r.2.1 k).2.2.1 = some (pv_ft ci k)) ∧ (∀ k, k < r.2.2 → defaultValue (pv_ft ci k) = vp_V fs k) ∧ (∀ a, a < r.2.2 → ∀ b, b < r.2.2 → a ≠ b → (r.2.1 a).2.1 ≠ (r.2.1 b).2.1) ∧ Cond.instantiable r.1 r.2.2 ∈ pv_W ∧ Cond.initialized r.1 ∈ pv_W ∧ pv_o ci = r.1 ∧ fs.length = r.2.2 := by
  have h0 : ci < 7 := (List.getElem?_eq_some_iff.mp h).1
  have h1 := pv_clok_all ci h0
  unfold pv_clok at h1
  rw [h] at h1
  cases hfs : pv_df[ci]? with
  | none => rw [hfs] at h1; cases h1
  | some fs =>
    rw [hfs] at h1
    simp only [Bool.and_eq_true, decide_eq_true_eq, List.all_eq_true, List.mem_range, Bool.or_eq_true] at h1
    obtain ⟨⟨⟨⟨⟨a1, a2⟩, a3⟩, a4⟩, a5⟩, a6⟩ := h1
    refine ⟨fs, rfl, fun w hw => pv_Wi (a1 w hw).1 (a1 w hw).2, fun k hk => ((a2 k hk).1).1, fun k hk => ((a2 k hk).1).2, fun a ha b hb hab => ?_, pv_Wi a3 rfl, pv_Wi a4 rfl, a5, a6⟩
    rcases (a2 a ha).2 b hb with z | z
    · exact absurd z hab
    · exact z
theorem pv_m_ok {z : Nat} (h : z < pv_law) : Cond.code (pv_nm z) (pv_by z) (pv_ml z) (pv_rt z) ∈ pv_W ∧ Cond.initialized (pv_nm z).cls ∈ pv_W ∧ (pv_nm z).cls = pv_on z ∧ (pv_nm z).cls ≠ "java/lang/invoke/MethodHandle" ∧ (pv_nm z).cls ≠ "java/lang/invoke/VarHandle" ∧ plainName (pv_nm z).cls = true ∧ pv_ml z ≤ 21 := by
  have h1 := pv_mok_all z h
  simp only [pv_mok, Bool.and_eq_true, decide_eq_true_eq] at h1
  obtain ⟨⟨⟨a1, a2⟩, a3⟩, a7⟩ := h1
  have b := pv_on_all _ a2
  refine ⟨pv_Wi (pv_fm pv_hc a1) rfl, ?_, a3, ?_, ?_, ?_, a7⟩
  · rw [a3]
    exact pv_Wi (pv_ini_all _ a2) rfl
  · rw [a3]; exact b.1
  · rw [a3]; exact b.2.1
  · rw [a3]; exact b.2.2
