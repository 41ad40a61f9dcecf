/-! calls and returns of methods that make no cells; the long; arraycopy; Math.min -/
section EC
variable {xs : Nat → Int32} {L d y k n pc pc' len i j ci a b z ml np : Nat} {lv lv0 : pv_Lv} {st rs As : List Value} {M M1 : pv_M} {t t' : pv_St} {r : Option Value × pv_M} {ins : Instr} {v : Option Value} {as : List Value} {s s' : pv_F} {T T' : pv_T} {fs : List Value} {x : Int32}
theorem pv_one_cx (hd : decode (pv_by y) pc = .ok (ins, len)) (hln : pv_ln ins len = len) (h1 : pv_b1 ins (pv_oc y) k n pc lv st M = none) (h2 : pv_me xs L ins y k n pc lv st M = none) (h3 : pv_mk ins d y k n pc lv st M = none) {q : Nat × List Value × List Value} (h : pv_ca ins y k n st M = some q) : pv_one xs L d y k n pc lv st M = some (.inr (.inl q)) := by
  unfold pv_one
  rw [hd]
  dsimp only
  rw [if_pos hln]
  unfold pv_b1 at h1
  split at h1
  · cases h1
  · next e1 =>
    rw [e1]
    split at h1
    · cases h1
    · next e2 =>
      rw [e2]
      split at h1
      · cases h1
      · next e3 => rw [e3, h1, h2, h3, h]
theorem pv_one_rx (hd : decode (pv_by y) pc = .ok (ins, len)) (hln : pv_ln ins len = len) (h1 : pv_b1 ins (pv_oc y) k n pc lv st M = none) (h2 : pv_me xs L ins y k n pc lv st M = none) (h3 : pv_mk ins d y k n pc lv st M = none) (h4 : pv_ca ins y k n st M = none) (h : pv_re ins y k n st = some v) : pv_one xs L d y k n pc lv st M = some (.inr (.inr v)) := by
  unfold pv_one
  rw [hd]
  dsimp only
  rw [if_pos hln]
  unfold pv_b1 at h1
  split at h1
  · cases h1
  · next e1 =>
    rw [e1]
    split at h1
    · cases h1
    · next e2 =>
      rw [e2]
      split at h1
      · cases h1
      · next e3 => rw [e3, h1, h2, h3, h4, h]; rfl
theorem pv_one_mx (hd : decode (pv_by y) pc = .ok (ins, len)) (hln : pv_ln ins len = len) (h1 : pv_b1 ins (pv_oc y) k n pc lv st M = none) (h2 : pv_me xs L ins y k n pc lv st M = none) (h : pv_mk ins d y k n pc lv st M = some t) : pv_one xs L d y k n pc lv st M = some (.inl t) := by
  unfold pv_one
  rw [hd]
  dsimp only
  rw [if_pos hln]
  unfold pv_b1 at h1
  split at h1
  · cases h1
  · next e1 =>
    rw [e1]
    split at h1
    · cases h1
    · next e2 =>
      rw [e2]
      split at h1
      · cases h1
      · next e3 => rw [e3, h1, h2, h]
def pv_okz (z ml : Nat) : Bool := decide (pv_ml z = ml) && decide (pv_mc z = 0) && decide (pv_ms z = 0) && !(z == pv_law)
theorem pv_fit_i (h : pv_okz z ml = true) (h1 : (pv_pl as).length ≤ ml) (h2 : (rs.map fun v => v.category).sum ≤ 8) : pv_fit z y 0 0 as rs = true := by
  unfold pv_okz at h
  simp only [Bool.and_eq_true, decide_eq_true_eq] at h
  obtain ⟨⟨⟨a1, a2⟩, a3⟩, a4⟩ := h
  unfold pv_fit
  simp only [a1, a2, a3, h1, h2, a4, Nat.zero_add, Nat.zero_le, decide_true, Bool.and_self]
theorem pv_en_i (h : pv_okz z ml = true) : pv_en z as = pv_pl as ++ List.replicate (ml - (pv_pl as).length) none := by
  unfold pv_okz at h
  simp only [Bool.and_eq_true, decide_eq_true_eq] at h
  unfold pv_en
  rw [h.1.1.1]
def pv_okv (y pc i z np ml ci : Nat) : Bool := pv_dk y [(pc, .invokevirtual i, 3)] && (decide (pv_look (pv_oc y) i = some (1, z, np)) || decide (pv_look (pv_oc y) i = some (7, z, np))) && decide (pv_oc z = ci) && pv_okz z ml
theorem pv_take_rev {As : List Value} {w : List Value} : (As.reverse ++ w).take As.length = As.reverse ∧ (As.reverse ++ w).drop As.length = w := by
  have h : As.length = As.reverse.length := by simp
  exact ⟨by rw [h, List.take_left], by rw [h, List.drop_left]⟩
theorem pv_e_cv (ho : pv_okv y pc i z np ml ci = true) (hs : pv_shp[a]? = some (.inr (.inr (ci, fs)))) (hn : As.length = np) (hst : As.reverse ++ .ref a :: rs = st) (hlv : pv_pl (.ref a :: As) ++ List.replicate (ml - (pv_pl (.ref a :: As)).length) none = lv0) (hl : (pv_pl (.ref a :: As)).length ≤ ml) (hw : (rs.map fun v => v.category).sum ≤ 8) (hp : pc + 3 = pc') (hz : pv_Ev xs L d z (0, 0, 0, lv0, [], pv_mm s T) (v, pv_mm s' T')) (kk : pv_Ev xs L (d + 1) y (0, 0, pc', lv, v.toList ++ rs, pv_mm s' T') r) : pv_Ev xs L (d + 1) y (0, 0, pc, lv, st, pv_mm s T) r := by
  subst hp
  subst hst
  subst hn
  unfold pv_okv at ho
  rw [Bool.and_eq_true, Bool.and_eq_true, Bool.and_eq_true] at ho
  obtain ⟨⟨⟨o1, o2⟩, o3⟩, o4⟩ := ho
  obtain ⟨h1, h2⟩ := pv_dk1 o1
  have hci := of_decide_eq_true o3
  have hM := pv_mm_at (s := s) (T := T) hs
  have hfit := pv_fit_i (y := y) o4 hl hw
  obtain ⟨tk1, tk2⟩ := pv_take_rev (As := As) (w := .ref a :: rs)
  have hca : pv_ca (.invokevirtual i) y 0 0 (As.reverse ++ .ref a :: rs) (pv_mm s T) = some (z, .ref a :: As, rs) := by
    rcases (Bool.or_eq_true _ _).mp o2 with q | q
    · have hlk := of_decide_eq_true q
      simp only [pv_ca, hlk, tk1, tk2, hM, pv_fill, List.reverse_reverse, hfit, List.length_reverse, hci, true_or, if_true, and_self]
    · have hlk := of_decide_eq_true q
      simp only [pv_ca, hlk, tk1, tk2, hM, pv_fill, List.reverse_reverse, hfit, List.length_reverse, hci, or_true, if_true, and_self]
  have hone := pv_one_cx (xs := xs) (L := L) (d := d + 1) (lv := lv) h1 h2 (by rfl) (by rfl) (by rfl) hca
  have hmc : pv_mc z = 0 ∧ pv_ms z = 0 := by
    unfold pv_okz at o4
    simp only [Bool.and_eq_true, decide_eq_true_eq] at o4
    exact ⟨o4.1.1.2, o4.1.2⟩
  refine pv_Ev.call hone (by rw [pv_en_i o4, hlv]; exact hz) ?_
  rw [hmc.1, hmc.2]
  exact kk
def pv_oks (y pc i z np ml : Nat) : Bool := pv_dk y [(pc, .invokestatic i, 3)] && decide (pv_look (pv_oc y) i = some (2, z, np)) && pv_okz z ml
theorem pv_mk_st (hlk : pv_look (pv_oc y) i = some (2, z, np)) : pv_mk (.invokestatic i) d y k n pc lv st M = none := by
  unfold pv_mk
  split <;> simp_all
theorem pv_e_cs (ho : pv_oks y pc i z np ml = true) (hn : As.length = np) (hst : As.reverse ++ rs = st) (hlv : pv_pl As ++ List.replicate (ml - (pv_pl As).length) none = lv0) (hl : (pv_pl As).length ≤ ml) (hw : (rs.map fun v => v.category).sum ≤ 8) (hp : pc + 3 = pc') (hz : pv_Ev xs L d z (0, 0, 0, lv0, [], M) (v, M1)) (kk : pv_Ev xs L (d + 1) y (0, 0, pc', lv, v.toList ++ rs, M1) r) : pv_Ev xs L (d + 1) y (0, 0, pc, lv, st, M) r := by
  subst hp
  subst hst
  subst hn
  unfold pv_oks at ho
  rw [Bool.and_eq_true, Bool.and_eq_true] at ho
  obtain ⟨⟨o1, o2⟩, o4⟩ := ho
  obtain ⟨h1, h2⟩ := pv_dk1 o1
  have hlk := of_decide_eq_true o2
  have hfit := pv_fit_i (y := y) o4 hl hw
  obtain ⟨tk1, tk2⟩ := pv_take_rev (As := As) (w := rs)
  have hca : pv_ca (.invokestatic i) y 0 0 (As.reverse ++ rs) M = some (z, As, rs) := by
    simp only [pv_ca, hlk, tk1, tk2, List.reverse_reverse, hfit, List.length_reverse, if_true, and_self]
  have hone := pv_one_cx (xs := xs) (L := L) (d := d + 1) (lv := lv) h1 h2 (by rfl) (by rfl) (pv_mk_st hlk) hca
  have hmc : pv_mc z = 0 ∧ pv_ms z = 0 := by
    unfold pv_okz at o4
    simp only [Bool.and_eq_true, decide_eq_true_eq] at o4
    exact ⟨o4.1.1.2, o4.1.2⟩
  refine pv_Ev.call hone (by rw [pv_en_i o4, hlv]; exact hz) ?_
  rw [hmc.1, hmc.2]
  exact kk
/-- returns -/
def pv_okr (y pc : Nat) (ins : Instr) (rt : Option FieldType) : Bool := pv_dk y [(pc, ins, 1)] && decide (pv_rt y = rt) && decide (pv_mc y = 0) && decide (pv_ms y = 0)
theorem pv_okr_ok {rt : Option FieldType} (h : pv_okr y pc ins rt = true) : decode (pv_by y) pc = .ok (ins, 1) ∧ pv_ln ins 1 = 1 ∧ pv_rt y = rt ∧ pv_mc y = 0 ∧ pv_ms y = 0 := by
  unfold pv_okr at h
  simp only [Bool.and_eq_true, decide_eq_true_eq] at h
  exact ⟨(pv_dk1 h.1.1.1).1, (pv_dk1 h.1.1.1).2, h.1.1.2, h.1.2, h.2⟩
theorem pv_e_ri (ho : pv_okr y pc .ireturn (some .int) = true) : pv_Ev xs L d y (0, 0, pc, lv, [.int x], M) (some (.int x), M) := by
  obtain ⟨h1, h2, h3, h4, h5⟩ := pv_okr_ok ho
  refine pv_Ev.ret (pv_one_rx h1 h2 rfl rfl rfl rfl ?_)
  simp [pv_re, h3, h4, h5]
theorem pv_e_rz {q : Int32} (ho : pv_okr y pc .ireturn (some .boolean) = true) (hb : pv_bl x = some q) : pv_Ev xs L d y (0, 0, pc, lv, [.int x], M) (some (.int q), M) := by
  obtain ⟨h1, h2, h3, h4, h5⟩ := pv_okr_ok ho
  unfold pv_bl at hb
  split at hb
  · next hc =>
    cases hb
    refine pv_Ev.ret (pv_one_rx h1 h2 rfl rfl rfl rfl ?_)
    simp only [pv_re, h3, h4, h5, hc]
    simp
  · cases hb
theorem pv_bl0 : pv_bl 0 = some 0 := by decide +kernel
theorem pv_bl1 : pv_bl 1 = some 1 := by decide +kernel
theorem pv_e_rl {q : Int64} (ho : pv_okr y pc .lreturn (some .long) = true) : pv_Ev xs L d y (0, 0, pc, lv, [.long q], M) (some (.long q), M) := by
  obtain ⟨h1, h2, h3, h4, h5⟩ := pv_okr_ok ho
  refine pv_Ev.ret (pv_one_rx h1 h2 rfl rfl rfl rfl ?_)
  simp [pv_re, h3, h4, h5]
theorem pv_e_rf {C : String} (ho : pv_okr y pc .areturn (some (.object C)) = true) : pv_Ev xs L d y (0, 0, pc, lv, [.ref a], M) (some (.ref a), M) := by
  obtain ⟨h1, h2, h3, h4, h5⟩ := pv_okr_ok ho
  refine pv_Ev.ret (pv_one_rx h1 h2 rfl rfl rfl rfl ?_)
  simp [pv_re, h3, h4, h5]
theorem pv_e_rv (ho : pv_okr y pc .return_ none = true) : pv_Ev xs L d y (0, 0, pc, lv, [], M) (none, M) := by
  obtain ⟨h1, h2, h3, h4, h5⟩ := pv_okr_ok ho
  refine pv_Ev.ret (pv_one_rx h1 h2 rfl rfl rfl rfl ?_)
  simp [pv_re, h3, h4, h5]
/-- the model's long -/
theorem pv_e_pl {q : Int64} (ho : pv_okp y pc i 6 35 = true) (hp : pc + 3 = pc') (kk : pv_Ev xs L d y (k, n, pc', lv, st, pv_mm s (T.1, q)) r) : pv_Ev xs L d y (k, n, pc, lv, .long q :: .ref 94 :: st, pv_mm s T) r := by
  have hs : pv_shp[94]? = some (.inr (.inr (6, _))) := rfl
  refine pv_pfd (fs' := []) ho rfl rfl (pv_mm_at hs) (by rw [pv_fl_len]; decide) hp ?_ kk
  apply pv_mm_ext
  intro i
  have hl : (pv_mm s T).length = 116 := pv_mkl_len _ _
  rw [List.getElem?_set, pv_mm_get]
  by_cases hi : 94 = i
  · subst hi
    rw [if_pos rfl, if_pos (by rw [hl]; decide), hs]
    rfl
  · rw [if_neg hi]
    have hno : ∀ i : Nat, i ≠ 94 → ∀ sh, pv_shp[i]? = some sh → ∀ f h h', pv_fill f h sh = pv_fill f h' sh := by
      intro i hi sh hsh f h h'
      have hb : i < 116 := (List.getElem?_eq_some_iff.mp hsh).1
      have key : (List.range 116).all (fun i => decide (i = 94) || (match pv_shp[i]? with
        | some (.inr (.inr (_, fs))) => fs.all (fun v => match v with
          | .long _ => false
          | _ => true)
        | _ => true)) = true := by decide +kernel
      have h2 := List.all_eq_true.mp key i (List.mem_range.mpr hb)
      rw [hsh] at h2
      rcases (Bool.or_eq_true _ _).mp h2 with q | q
      · exact absurd (of_decide_eq_true q) hi
      · match sh, q with
        | .inl n, _ => rfl
        | .inr (.inl q), _ => rfl
        | .inr (.inr (ci, fs)), q =>
          have hf : ∀ (fs : List Value) (k : Nat), fs.all (fun v => match v with
              | .long _ => false
              | _ => true) = true → pv_fl f h k fs = pv_fl f h' k fs := by
            intro fs
            induction fs with
            | nil => intro k _; rfl
            | cons v fs ih =>
              intro k hv
              rw [List.all_cons, Bool.and_eq_true] at hv
              unfold pv_fl
              rw [ih (k + 1) hv.2]
              cases v <;> first | rfl | (simp at hv)
          show (Sum.inr (Sum.inr (ci, pv_fl f h 0 fs)) : pv_C) = _
          rw [hf fs 0 q]
          rfl
    cases hsh : pv_shp[i]? with
    | none => rfl
    | some sh =>
      simp only [Option.map_some]
      rw [hno i (fun e => hi e.symm) sh hsh _ T.2 q]
      rfl
/-- arraycopy between rows of the class -/
def pv_oky (y pc i : Nat) : Bool := pv_dk y [(pc, .invokestatic i, 3)] && decide (pv_look (pv_oc y) i = some (5, 0, 0))
theorem pv_e_cy {za zb : Nat} {sp dp q : Int32} (ho : pv_oky y pc i = true) (hd1 : 1 ≤ d) (ha : a < 94) (hb : b < 94) (hs1 : pv_shp[a]? = some (.inl za)) (hs2 : pv_shp[b]? = some (.inl zb)) (hw : (rs.map fun v => v.category).sum ≤ 8) (hc : pv_cy s a za b zb sp dp q = some s') (hp : pc + 3 = pc') (kk : pv_Ev xs L d y (k, n, pc', lv, rs, pv_mm s' T) r) : pv_Ev xs L d y (k, n, pc, lv, .int q :: .int dp :: .ref b :: .int sp :: .ref a :: rs, pv_mm s T) r := by
  subst hp
  unfold pv_oky at ho
  rw [Bool.and_eq_true] at ho
  obtain ⟨h1, h2⟩ := pv_dk1 ho.1
  have hlk := of_decide_eq_true ho.2
  have hM1 := pv_mm_at (s := s) (T := T) hs1
  have hM2 := pv_mm_at (s := s) (T := T) hs2
  unfold pv_cy at hc
  split at hc
  · next hcc =>
    cases hc
    have hone := pv_one_mx (xs := xs) (L := L) (d := d) (k := k) (n := n) (lv := lv) (M := pv_mm s T) (st := .int q :: .int dp :: .ref b :: .int sp :: .ref a :: rs) h1 h2 rfl rfl (t := (k, n, pc + 3, lv, rs, pv_mm (pv_upf s b (va_cpy (s a) (s b) sp.toNatClampNeg dp.toNatClampNeg q.toNatClampNeg)) T)) (by
      simp only [pv_mk, hlk, hM1, hM2, pv_fill, hd1, hw, hcc, and_self, if_true, not_false_eq_true]
      rw [pv_fn_c ha, pv_fn_c hb, show (Sum.inl (zb, va_cpy (s a) (s b) sp.toNatClampNeg dp.toNatClampNeg q.toNatClampNeg) : pv_C) = pv_fill (va_cpy (s a) (s b) sp.toNatClampNeg dp.toNatClampNeg q.toNatClampNeg) T.2 (.inl zb) from rfl, pv_set_c hb hs2])
    exact pv_Ev.next hone kk
  · cases hc
def pv_okm (y pc i : Nat) : Bool := pv_dk y [(pc, .invokestatic i, 3)] && decide (pv_look (pv_oc y) i = some (9, 0, 0))
theorem pv_e_mi {q : Int32} (ho : pv_okm y pc i = true) (hd1 : 1 ≤ d) (hw : (rs.map fun v => v.category).sum ≤ 8) (hp : pc + 3 = pc') (kk : pv_Ev xs L d y (0, 0, pc', lv, .int (if q < x then q else x) :: rs, M) r) (hrs : ∀ b r', rs ≠ .ref b :: r') : pv_Ev xs L d y (0, 0, pc, lv, .int q :: .int x :: rs, M) r := by
  subst hp
  unfold pv_okm at ho
  rw [Bool.and_eq_true] at ho
  obtain ⟨h1, h2⟩ := pv_dk1 ho.1
  have hlk := of_decide_eq_true ho.2
  have hone := pv_one_mx (xs := xs) (L := L) (d := d) (k := 0) (n := 0) (lv := lv) (M := M) (st := .int q :: .int x :: rs) h1 h2 rfl rfl (t := (0, 0, pc + 3, lv, .int (if q < x then q else x) :: rs, M)) (by
    unfold pv_mk
    split
    · next e => cases e
    · next e1 e2 => cases e1
    · next e1 e2 => cases e1
    · next e1 e2 => cases e1; cases e2; exact absurd rfl (hrs _ _)
    · next e1 e2 =>
      cases e1
      cases e2
      rw [hlk]
      simp [hd1, hw]
    · next e => cases e
    · next h5 _ => exact absurd rfl (h5 _ _ _ _ rfl))
  exact pv_Ev.next hone kk
end EC
