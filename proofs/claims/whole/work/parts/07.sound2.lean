/-! one step of the pure machine is a step of the machine -/
def pv_ty (cI : ClassId) (cR : Nat → ClassId) : List (ClassId × FieldType) := [(cR 0, .object "WornNames$Deeds"), (cR 1, .object "WornNames$Folk"), (cR 2, .object "WornNames$Row"), (cI, .int)]
/-- the tables, at a state -/
def pv_K (D : va_G) (cI : ClassId) (cR : Nat → ClassId) (U : State) : Prop := va_K D pv_cl (pv_ty cI cR) U ∧ (∀ ci, ci < 3 → va_AO (pv_o ci) U) ∧ ∀ q ∈ pv_lN, va_Nw (.methodLinkNest (pv_o q.1) q.2.1 (pv_nm q.2.2) "WornNames") U
theorem pv_K.warm {D : va_G} {cI : ClassId} {cR : Nat → ClassId} {s U : State} (hW : s.WarmedH U.vm) (h : pv_K D cI cR s) : pv_K D cI cR U := ⟨va_K.moved hW.alike h.1, fun ci hc => (h.2.1 ci hc).moved hW.alike, fun q hq => va_Nw.warmM hW (h.2.2 q hq)⟩
theorem pv_K.same {D : va_G} {cI : ClassId} {cR : Nat → ClassId} {s U : State} (hv : s.vm = U.vm) (h : pv_K D cI cR s) : pv_K D cI cR U := ⟨va_K.moved (by rw [hv]; exact Vm.Alike.refl U.vm) h.1, fun ci hc => (h.2.1 ci hc).moved (by rw [hv]; exact Vm.Alike.refl U.vm), fun q hq => va_Nw.same rfl hv (h.2.2 q hq)⟩
/-- what holds all through a method's run -/
def pv_G (p : Program) (R : Room) (s : State) (m : MethodId) (args : Array Value) (meth : Method) (c : Code) (D : va_G) (cI : ClassId) (cR : Nat → ClassId) (N0 scr L : Nat) (xs : Nat → Int32) (d y : Nat) : Prop :=
  p.tables.exec = Jvm.exec ∧ c.code = pv_by y ∧ c.maxLocals = pv_ml y ∧ meth.sig.returnType = pv_rt y ∧ meth.locks = false ∧ (y ≠ pv_law → meth.name = (pv_nm y).name) ∧ s.vm.findClass (pv_on y) = some m.cls ∧ (∀ w ∈ pv_W, w.before args s = true) ∧ pv_K D cI cR s ∧ N0 ≤ s.heap.size ∧ (y = pv_law → va_X scr L xs s s.heap ∧ scr < s.heap.size ∧ ¬ N0 ≤ scr) ∧ d ≤ R.frames ∧ 60 * d ≤ R.locals ∧ pv_mc y ≤ R.cells ∧ pv_ms y ≤ R.slots
/-- the memory in the heap -/
def pv_H (D : va_G) (cI : ClassId) (cR : Nat → ClassId) (N0 scr : Nat) (s : State) (k : Nat) (M : pv_M) (H : Heap) (locs : List Loc) : Prop :=
  va_P D pv_cl (pv_w N0 scr cI cR M) H ∧ va_S (fun q => N0 ≤ q) s.heap H locs ∧ s.heap.size + k = N0 + M.length
def pv_Go (p : Program) (l : Launch) (e : Env) (R : Room) (s : State) (m : MethodId) (args : Array Value) (below : List Frame) (meth : Method) (c : Code) (D : va_G) (cI : ClassId) (cR : Nat → ClassId) (N0 scr nL : Nat) (Q : State → Prop) (t : pv_St) : Prop :=
  ∀ (H : Heap) (locs : List Loc) (ls : Array Slot), pv_H D cI cR N0 scr s t.1 t.2.2.2.2.2 H locs → pv_L N0 scr ls t.2.2.2.1 → t.2.2.2.1.length = nL → W p l e R s m args below meth c H locs t.1 t.2.1 Q (F0 m t.2.2.1 ls (t.2.2.2.2.1.map (pv_V N0 scr)))
section PS
variable {p : Program} {l : Launch} {e : Env} {R : Room} {s : State} {m : MethodId} {args : Array Value} {below : List Frame} {meth : Method} {c : Code} {D : va_G} {cI : ClassId} {cR : Nat → ClassId} {N0 scr L nL : Nat} {xs : Nat → Int32} {Q : State → Prop} {d y k n pc len : Nat} {lv : pv_Lv} {st : List Value} {M : pv_M} {ins : Instr} {t : pv_St}
theorem pv_ld_ok (G : pv_G p R s m args meth c D cI cR N0 scr L xs d y) (hd : decode (pv_by y) pc = .ok (ins, len)) (hln : pv_ln ins len = len) (h : pv_ld ins (pv_oc y) k n pc lv st M = some t) (kk : pv_Go p l e R s m args below meth c D cI cR N0 scr nL Q t) : pv_Go p l e R s m args below meth c D cI cR N0 scr nL Q (k, n, pc, lv, st, M) := by
  intro H locs ls hH hl hnl
  obtain ⟨hx, hb, hml, hr, hlk, hin, hown, hts, ⟨hK, hAO, hNl⟩, hN, hsc, hR1, hR2, hR3, hR4⟩ := G
  dsimp only at hH hl hnl ⊢
  unfold pv_ld at h
  split at h
  · obtain ⟨v, hv, rfl⟩ := Option.map_eq_some_iff.mp h
    obtain ⟨q, hq, hg⟩ := pv_gr_ok hv hl
    obtain rfl : 1 = len := hln
    have k1 := kk H locs ls hH hl hnl
    dsimp only at k1
    rw [List.map_cons, hq] at k1
    exact lv_aload_n hx hb hd rfl hg k1
  · obtain ⟨v, hv, rfl⟩ := Option.map_eq_some_iff.mp h
    obtain ⟨q, hq, hg⟩ := pv_gr_ok hv hl
    obtain rfl : 2 = len := hln
    have k1 := kk H locs ls hH hl hnl
    dsimp only at k1
    rw [List.map_cons, hq] at k1
    exact lv_aload hx hb hd hg k1
  · obtain ⟨x, hv, rfl⟩ := Option.map_eq_some_iff.mp h
    obtain rfl : 1 = len := hln
    exact lv_iload_n hx hb hd rfl (hl.2.2 _ _ (pv_gi_ok hv)) (kk H locs ls hH hl hnl)
  · obtain ⟨x, hv, rfl⟩ := Option.map_eq_some_iff.mp h
    obtain rfl : 2 = len := hln
    exact lv_iload hx hb hd (hl.2.2 _ _ (pv_gi_ok hv)) (kk H locs ls hH hl hnl)
  · obtain ⟨x, hv, rfl⟩ := Option.map_eq_some_iff.mp h
    obtain rfl : 1 = len := hln
    exact lv_lload_n hx hb hd rfl (hl.2.2 _ _ (pv_gl_ok hv)) (kk H locs ls hH hl hnl)
  · obtain ⟨x, hv, rfl⟩ := Option.map_eq_some_iff.mp h
    obtain rfl : 2 = len := hln
    exact lv_lload hx hb hd (hl.2.2 _ _ (pv_gl_ok hv)) (kk H locs ls hH hl hnl)
  · cases h
    obtain rfl : 1 = len := hln
    exact lv_iconst hx hb hd rfl (kk H locs ls hH hl hnl)
  · cases h
    obtain rfl : 2 = len := hln
    exact lv_bipush hx hb hd rfl (kk H locs ls hH hl hnl)
  · cases h
    obtain rfl : 3 = len := hln
    exact lv_sipush hx hb hd rfl (kk H locs ls hH hl hnl)
  · cases h
    obtain rfl : 1 = len := hln
    exact lv_lconst hx hb hd rfl (kk H locs ls hH hl hnl)
  · obtain ⟨x, hv, rfl⟩ := Option.map_eq_some_iff.mp h
    obtain rfl : 2 = len := hln
    exact lv_ldc hx hb hown (hts _ (pv_ki_ok hv)) hd (kk H locs ls hH hl hnl)
  · obtain ⟨x, hv, rfl⟩ := Option.map_eq_some_iff.mp h
    obtain rfl : 3 = len := hln
    exact lv_ldcw hx hb hown (hts _ (pv_ki_ok hv)) hd (kk H locs ls hH hl hnl)
  · obtain ⟨x, hv, rfl⟩ := Option.map_eq_some_iff.mp h
    obtain rfl : 3 = len := hln
    exact lv_ldc2 hx hb hown (hts _ (pv_kl_ok hv)) hd (kk H locs ls hH hl hnl)
  · cases h
theorem pv_s1_ok {i : Nat} {v : Value} {lv' : pv_Lv} (h : pv_s1 lv i v = some lv') : pv_ok lv i = true ∧ lv' = lv.set i (some v) := by
  unfold pv_s1 at h
  split at h
  next e => cases h; exact ⟨e, rfl⟩
  next => cases h
theorem pv_s2_ok {i : Nat} {v : Value} {lv' : pv_Lv} (h : pv_s2 lv i v = some lv') : pv_ok lv i = true ∧ i + 1 < lv.length ∧ lv' = (lv.set i (some v)).set (i + 1) none := by
  unfold pv_s2 at h
  split at h
  next e => cases h; exact ⟨e.1, e.2, rfl⟩
  next => cases h
theorem pv_so_ok (G : pv_G p R s m args meth c D cI cR N0 scr L xs d y) (hd : decode (pv_by y) pc = .ok (ins, len)) (hln : pv_ln ins len = len) (h : pv_so ins k n pc lv st M = some t) (kk : pv_Go p l e R s m args below meth c D cI cR N0 scr nL Q t) : pv_Go p l e R s m args below meth c D cI cR N0 scr nL Q (k, n, pc, lv, st, M) := by
  intro H locs ls hH hl hnl
  obtain ⟨hx, hb, hml, hr, hlk, hin, hown, hts, ⟨hK, hAO, hNl⟩, hN, hsc, hR1, hR2, hR3, hR4⟩ := G
  dsimp only at hH hl hnl ⊢
  have hl0 := pv_L_has hl
  unfold pv_so at h
  split at h
  · obtain ⟨l1, hv, rfl⟩ := Option.map_eq_some_iff.mp h
    obtain ⟨hok, rfl⟩ := pv_s1_ok hv
    obtain rfl : 1 = len := hln
    exact lv_istore_n hx hb hd rfl hl0 (pv_ok_lt hok) rfl (fun ls' hl' => kk H locs ls' hH (pv_L_set1 hok hl') (by rw [← hnl]; simp))
  · obtain ⟨l1, hv, rfl⟩ := Option.map_eq_some_iff.mp h
    obtain ⟨hok, rfl⟩ := pv_s1_ok hv
    obtain rfl : 2 = len := hln
    exact lv_istore hx hb hd hl0 (pv_ok_lt hok) rfl (fun ls' hl' => kk H locs ls' hH (pv_L_set1 hok hl') (by rw [← hnl]; simp))
  · obtain ⟨l1, hv, rfl⟩ := Option.map_eq_some_iff.mp h
    obtain ⟨hok, rfl⟩ := pv_s1_ok hv
    obtain rfl : 1 = len := hln
    exact lv_astore_n hx hb hd rfl hl0 (pv_ok_lt hok) rfl (fun ls' hl' => kk H locs ls' hH (pv_L_set1 hok hl') (by rw [← hnl]; simp))
  · obtain ⟨l1, hv, rfl⟩ := Option.map_eq_some_iff.mp h
    obtain ⟨hok, rfl⟩ := pv_s1_ok hv
    obtain rfl : 2 = len := hln
    exact lv_astore hx hb hd hl0 (pv_ok_lt hok) rfl (fun ls' hl' => kk H locs ls' hH (pv_L_set1 hok hl') (by rw [← hnl]; simp))
  · obtain ⟨l1, hv, rfl⟩ := Option.map_eq_some_iff.mp h
    obtain ⟨hok, hlt, rfl⟩ := pv_s2_ok hv
    obtain rfl : 1 = len := hln
    exact lv_lstore_n hx hb hd rfl hl0 hlt rfl (fun ls' hl' => kk H locs ls' hH (pv_L_set2 hok hl') (by rw [← hnl]; simp))
  · obtain ⟨l1, hv, rfl⟩ := Option.map_eq_some_iff.mp h
    obtain ⟨hok, hlt, rfl⟩ := pv_s2_ok hv
    obtain rfl : 2 = len := hln
    exact lv_lstore hx hb hd hl0 hlt rfl (fun ls' hl' => kk H locs ls' hH (pv_L_set2 hok hl') (by rw [← hnl]; simp))
  · obtain ⟨x, hg, h2⟩ := Option.bind_eq_some_iff.mp h
    obtain ⟨l1, hv, rfl⟩ := Option.map_eq_some_iff.mp h2
    obtain ⟨hok, rfl⟩ := pv_s1_ok hv
    obtain rfl : 3 = len := hln
    obtain ⟨j, hj⟩ := List.getElem?_of_mem ((pv_ps_mem (N0 := N0) (scr := scr)).mpr ⟨_, pv_gi_ok hg, rfl⟩)
    exact lv_iinc hx hb hd hl0 hj rfl (pv_ok_lt hok) rfl (fun ls' hl' => kk H locs ls' hH (pv_L_set1 hok hl') (by rw [← hnl]; simp))
  · cases h
theorem pv_al_ok (G : pv_G p R s m args meth c D cI cR N0 scr L xs d y) (hd : decode (pv_by y) pc = .ok (ins, len)) (hln : pv_ln ins len = len) (h : pv_al ins k n pc lv st M = some t) (kk : pv_Go p l e R s m args below meth c D cI cR N0 scr nL Q t) : pv_Go p l e R s m args below meth c D cI cR N0 scr nL Q (k, n, pc, lv, st, M) := by
  intro H locs ls hH hl hnl
  obtain ⟨hx, hb, hml, hr, hlk, hin, hown, hts, ⟨hK, hAO, hNl⟩, hN, hsc, hR1, hR2, hR3, hR4⟩ := G
  dsimp only at hH hl hnl ⊢
  unfold pv_al at h
  obtain ⟨r, hv, rfl⟩ := Option.map_eq_some_iff.mp h
  have k1 := kk H locs ls hH hl hnl
  dsimp only at k1
  unfold pv_ax at hv
  split at hv
  · cases hv; obtain rfl : 1 = len := hln; exact lv_iadd hx hb hd k1
  · cases hv; obtain rfl : 1 = len := hln; exact lv_isub hx hb hd k1
  · cases hv; obtain rfl : 1 = len := hln; exact lv_imul hx hb hd k1
  · cases hv; obtain rfl : 1 = len := hln; exact lv_iand hx hb hd k1
  · cases hv; obtain rfl : 1 = len := hln; exact lv_ior hx hb hd k1
  · cases hv; obtain rfl : 1 = len := hln; exact lv_ixor hx hb hd k1
  · split at hv
    · cases hv
    · next hne => cases hv; obtain rfl : 1 = len := hln; exact lv_idiv hx hb hd hne k1
  · split at hv
    · cases hv
    · next hne => cases hv; obtain rfl : 1 = len := hln; exact lv_irem hx hb hd hne k1
  · cases hv; obtain rfl : 1 = len := hln; exact lv_ishl hx hb hd k1
  · cases hv; obtain rfl : 1 = len := hln; exact lv_ishr hx hb hd k1
  · cases hv; obtain rfl : 1 = len := hln; exact lv_iushr hx hb hd rfl k1
  · cases hv; obtain rfl : 1 = len := hln; exact lv_ladd hx hb hd k1
  · cases hv; obtain rfl : 1 = len := hln; exact lv_lsub hx hb hd k1
  · cases hv; obtain rfl : 1 = len := hln; exact lv_lmul hx hb hd k1
  · split at hv
    · cases hv
    · next hne => cases hv; obtain rfl : 1 = len := hln; exact lv_ldiv hx hb hd hne k1
  · split at hv
    · cases hv
    · next hne => cases hv; obtain rfl : 1 = len := hln; exact lv_lrem hx hb hd hne k1
  · cases hv; obtain rfl : 1 = len := hln; exact W.lcmp hx hb hd k1
  · cases hv; obtain rfl : 1 = len := hln; exact lv_i2l hx hb hd rfl k1
  · cases hv; obtain rfl : 1 = len := hln; exact lv_l2i hx hb hd rfl k1
  · cases hv; obtain rfl : 1 = len := hln; exact lv_i2b hx hb hd rfl k1
  · split at hv
    · next hc => cases hv; obtain rfl : 1 = len := hln; exact lv_dup hx hb hd (by rw [pv_V_cat]; exact hc) k1
    · cases hv
  · split at hv
    · next hc => cases hv; obtain rfl : 1 = len := hln; exact lv_pop hx hb hd (by rw [pv_V_cat]; exact hc) k1
    · cases hv
  · split at hv
    · next hc => cases hv; obtain rfl : 1 = len := hln; exact lv_dup2_11 hx hb hd (by rw [pv_V_cat]; exact hc.1) (by rw [pv_V_cat]; exact hc.2) k1
    · cases hv
  · cases hv
theorem pv_tg_ok {off : Int} {q : Nat} (h : pv_tg pc off = some q) : (pc : Int) + off = (q : Int) := by
  unfold pv_tg at h
  split at h
  next e => cases h; omega
  next => cases h
theorem pv_br_ok (G : pv_G p R s m args meth c D cI cR N0 scr L xs d y) (hd : decode (pv_by y) pc = .ok (ins, len)) (hln : pv_ln ins len = len) (h : pv_br ins k n pc lv st M = some t) (kk : pv_Go p l e R s m args below meth c D cI cR N0 scr nL Q t) : pv_Go p l e R s m args below meth c D cI cR N0 scr nL Q (k, n, pc, lv, st, M) := by
  intro H locs ls hH hl hnl
  obtain ⟨hx, hb, hml, hr, hlk, hin, hown, hts, ⟨hK, hAO, hNl⟩, hN, hsc, hR1, hR2, hR3, hR4⟩ := G
  dsimp only at hH hl hnl ⊢
  unfold pv_br at h
  obtain ⟨r, hv, rfl⟩ := Option.map_eq_some_iff.mp h
  have k1 := kk H locs ls hH hl hnl
  dsimp only at k1
  unfold pv_bx at hv
  split at hv
  · obtain ⟨q, hq, rfl⟩ := Option.map_eq_some_iff.mp hv
    obtain rfl : 3 = len := hln
    exact lv_goto hx hb hd (pv_tg_ok hq) k1
  · obtain ⟨q, hq, rfl⟩ := Option.map_eq_some_iff.mp hv
    obtain rfl : 3 = len := hln
    exact lv_if_eq hx hb hd (pv_tg_ok hq) (fun hc => by rw [if_pos hc] at k1; exact k1) (fun hc => by rw [if_neg hc] at k1; exact k1)
  · obtain ⟨q, hq, rfl⟩ := Option.map_eq_some_iff.mp hv
    obtain rfl : 3 = len := hln
    exact lv_if_ne hx hb hd (pv_tg_ok hq) (fun hc => by rw [if_neg hc] at k1; exact k1) (fun hc => by rw [if_pos hc] at k1; exact k1)
  · obtain ⟨q, hq, rfl⟩ := Option.map_eq_some_iff.mp hv
    obtain rfl : 3 = len := hln
    exact lv_if_lt hx hb hd (pv_tg_ok hq) (fun hc => by rw [if_pos hc] at k1; exact k1) (fun hc => by rw [if_neg hc] at k1; exact k1)
  · obtain ⟨q, hq, rfl⟩ := Option.map_eq_some_iff.mp hv
    obtain rfl : 3 = len := hln
    exact lv_if_ge hx hb hd (pv_tg_ok hq) (fun hc => by rw [if_pos hc] at k1; exact k1) (fun hc => by rw [if_neg hc] at k1; exact k1)
  · obtain ⟨q, hq, rfl⟩ := Option.map_eq_some_iff.mp hv
    obtain rfl : 3 = len := hln
    exact lv_if_gt hx hb hd (pv_tg_ok hq) (fun hc => by rw [if_pos hc] at k1; exact k1) (fun hc => by rw [if_neg hc] at k1; exact k1)
  · obtain ⟨q, hq, rfl⟩ := Option.map_eq_some_iff.mp hv
    obtain rfl : 3 = len := hln
    exact lv_if_le hx hb hd (pv_tg_ok hq) (fun hc => by rw [if_pos hc] at k1; exact k1) (fun hc => by rw [if_neg hc] at k1; exact k1)
  · obtain ⟨q, hq, rfl⟩ := Option.map_eq_some_iff.mp hv
    obtain rfl : 3 = len := hln
    exact lv_icmp_eq hx hb hd (pv_tg_ok hq) (fun hc => by rw [if_pos hc] at k1; exact k1) (fun hc => by rw [if_neg hc] at k1; exact k1)
  · obtain ⟨q, hq, rfl⟩ := Option.map_eq_some_iff.mp hv
    obtain rfl : 3 = len := hln
    exact lv_icmp_ne hx hb hd (pv_tg_ok hq) (fun hc => by rw [if_neg hc] at k1; exact k1) (fun hc => by rw [if_pos hc] at k1; exact k1)
  · obtain ⟨q, hq, rfl⟩ := Option.map_eq_some_iff.mp hv
    obtain rfl : 3 = len := hln
    exact lv_icmp_lt hx hb hd (pv_tg_ok hq) (fun hc => by rw [if_pos hc] at k1; exact k1) (fun hc => by rw [if_neg hc] at k1; exact k1)
  · obtain ⟨q, hq, rfl⟩ := Option.map_eq_some_iff.mp hv
    obtain rfl : 3 = len := hln
    exact lv_icmp_ge hx hb hd (pv_tg_ok hq) (fun hc => by rw [if_pos hc] at k1; exact k1) (fun hc => by rw [if_neg hc] at k1; exact k1)
  · obtain ⟨q, hq, rfl⟩ := Option.map_eq_some_iff.mp hv
    obtain rfl : 3 = len := hln
    exact lv_icmp_gt hx hb hd (pv_tg_ok hq) (fun hc => by rw [if_pos hc] at k1; exact k1) (fun hc => by rw [if_neg hc] at k1; exact k1)
  · obtain ⟨q, hq, rfl⟩ := Option.map_eq_some_iff.mp hv
    obtain rfl : 3 = len := hln
    exact lv_icmp_le hx hb hd (pv_tg_ok hq) (fun hc => by rw [if_pos hc] at k1; exact k1) (fun hc => by rw [if_neg hc] at k1; exact k1)
  · split at hv
    · next hc =>
      obtain ⟨q, hq, rfl⟩ := Option.map_eq_some_iff.mp hv
      exact lv_tableOut hx hb hd hc (pv_tg_ok hq) k1
    · next hc =>
      obtain ⟨off, ho, hv⟩ := Option.bind_eq_some_iff.mp hv
      obtain ⟨q, hq, rfl⟩ := Option.map_eq_some_iff.mp hv
      exact lv_tableIn hx hb hd (fun z => hc (Or.inl z)) (fun z => hc (Or.inr z)) ho (pv_tg_ok hq) k1
  · cases hv
theorem pv_in_ok {i : Int32} {z : Nat} (h : pv_in i z = true) : vp_in i z := by
  unfold pv_in at h
  simp only [Bool.and_eq_true, Bool.not_eq_true', decide_eq_false_iff_not, decide_eq_true_eq] at h
  rintro (q | q)
  · exact h.1 q
  · omega
theorem pv_V_nar {ty : FieldType} {v : Value} (h1 : narrow ty v = v) (h2 : fits ty v = true) : narrow ty (pv_V N0 scr v) = pv_V N0 scr v ∧ fits ty (pv_V N0 scr v) = true := by
  cases v <;> first | exact ⟨h1, h2⟩ | (cases ty <;> simp [fits] at h2 <;> exact ⟨rfl, rfl⟩)
theorem pv_set_obj {a ci f : Nat} {fs : List Value} {v : Value} {H1 : Heap} (h : va_P D pv_cl ((pv_w N0 scr cI cR M).set a (N0 + a, .inr (ci, (fs.map (pv_V N0 scr)).set f (pv_V N0 scr v)))) H1) : va_P D pv_cl (pv_w N0 scr cI cR (M.set a (.inr (.inr (ci, fs.set f v))))) H1 := by
  rw [← pv_w_set]
  show va_P D pv_cl ((pv_w N0 scr cI cR M).set a (N0 + a, .inr (ci, (fs.set f v).map (pv_V N0 scr)))) H1
  rw [List.map_set]
  exact h
theorem pv_set_int {a z : Nat} {g : Nat → Int32} {H1 : Heap} (h : va_P D pv_cl ((pv_w N0 scr cI cR M).set a (N0 + a, .inl (cI, z, .inl g))) H1) : va_P D pv_cl (pv_w N0 scr cI cR (M.set a (.inl (z, g)))) H1 := by
  rw [← pv_w_set]
  exact h
theorem pv_set_ref {a ci z j b : Nat} {g : Nat → Option Nat} {H1 : Heap} (h : va_P D pv_cl ((pv_w N0 scr cI cR M).set a (N0 + a, .inl (cR ci, z, .inr (.inr (.inr (.inr (va_up (fun i => (g i).map (fun b => N0 + b)) j (some (N0 + b))))))))) H1) : va_P D pv_cl (pv_w N0 scr cI cR (M.set a (.inr (.inl (ci, z, va_up g j (some b)))))) H1 := by
  rw [← pv_w_set]
  have e : (fun i => ((va_up g j (some b)) i).map (fun b => N0 + b)) = va_up (fun i => (g i).map (fun b => N0 + b)) j (some (N0 + b)) := by
    funext i
    unfold va_up
    by_cases hi : i = j
    · simp [hi]
    · simp [hi]
  show va_P D pv_cl ((pv_w N0 scr cI cR M).set a (N0 + a, .inl (cR ci, z, .inr (.inr (.inr (.inr (fun i => ((va_up g j (some b)) i).map (fun b => N0 + b)))))))) H1
  rw [e]
  exact h
theorem pv_ty_ok {ci : Nat} (h : ci < 3) : (pv_ty cI cR)[ci]? = some (cR ci, .object (pv_o ci)) := by
  match ci, h with
  | 0, _ => rfl
  | 1, _ => rfl
  | 2, _ => rfl
theorem pv_ty_cl {ci : Nat} (h : ci < 3) : ∃ r : vw_C, pv_cl[ci]? = some r ∧ (pv_ty cI cR)[ci]? = some (cR ci, .object r.1) := by
  match ci, h with
  | 0, _ => exact ⟨_, rfl, rfl⟩
  | 1, _ => exact ⟨_, rfl, rfl⟩
  | 2, _ => exact ⟨_, rfl, rfl⟩
theorem pv_me_ok (G : pv_G p R s m args meth c D cI cR N0 scr L xs d y) (hd : decode (pv_by y) pc = .ok (ins, len)) (hln : pv_ln ins len = len) (h : pv_me xs L ins y k n pc lv st M = some t) (kk : pv_Go p l e R s m args below meth c D cI cR N0 scr nL Q t) : pv_Go p l e R s m args below meth c D cI cR N0 scr nL Q (k, n, pc, lv, st, M) := by
  intro H locs ls hH hl hnl
  obtain ⟨hx, hb, hml, hr, hlk, hin, hown, hts, ⟨hK, hAO, hNl⟩, hN, hsc, hR1, hR2, hR3, hR4⟩ := G
  dsimp only at hH hl hnl ⊢
  obtain ⟨hP, hS, hk⟩ := id hH
  have hD := pv_w_D (N0 := N0) (scr := scr) (cI := cI) (cR := cR) (M := M)
  unfold pv_me at h
  split at h
  · -- getfield
    obtain rfl : 3 = len := hln
    split at h
    · next hM hlook =>
      split at h
      · next hcc =>
        subst hcc
        obtain ⟨v, hv, rfl⟩ := Option.map_eq_some_iff.mp h
        obtain ⟨⟨C, T, N⟩, hc, hf, -, hlink⟩ := pv_f_ok hlook
        obtain ⟨fs0, -, hu, -⟩ := pv_c_ok hc
        exact va_get (C := C) (T := T) (N := N) hx hb hts hu hown hK hP _ (pv_w_at hM) hc _ hf (hts _ hlink) (fun _ h9 => h9) (by rw [List.getElem?_map, hv]; rfl) hd (kk H locs ls hH hl hnl)
      · cases h
    · cases h
  · -- putfield
    obtain rfl : 3 = len := hln
    split at h
    · next hM hlook =>
      split at h
      · next hcc =>
        obtain ⟨rfl, hpt, hfl⟩ := hcc
        cases h
        obtain ⟨⟨C, T, N⟩, hc, hf, -, hlink⟩ := pv_f_ok hlook
        obtain ⟨fs0, -, hu, hpar, -, hnm, -⟩ := pv_c_ok hc
        unfold pv_pt at hpt
        rw [hc] at hpt
        simp only [Bool.and_eq_true, decide_eq_true_eq, Bool.or_eq_true, Bool.not_eq_true'] at hpt
        obtain ⟨⟨h1, h2⟩, -, h3⟩ := hpt
        obtain ⟨g1, g2⟩ := pv_V_nar (N0 := N0) (scr := scr) h1 h2
        rcases h3 with h3 | ⟨hfin, h3, h4⟩
        · exact va_put (C := C) (T := T) (N := N) hx hb hts hu (pv_ft _) hpar hnm hown hK hP hD hS _ (pv_w_at hM) hc _ hf (hts _ hlink) (fun _ h9 => h9) h3 (hpar _ hf) g1 g2 (by rw [List.length_map]; exact hfl) hd (fun H1 locs1 p1 _ p3 => kk H1 locs1 ls ⟨pv_set_obj p1, p3, by rw [List.length_set]; exact hk⟩ hl hnl)
        · exact va_putF (C := C) (T := T) (N := N) hx hb hts hu (pv_ft _) hpar hnm hown hK hP hD hS _ (pv_w_at hM) hc _ hf (hts _ hlink) (fun _ h9 => h9) hfin (by rw [hin (fun e9 => by rw [e9] at h3; exact absurd h3 (by decide))]; exact h3) h4 (hpar _ hf) g1 g2 (by rw [List.length_map]; exact hfl) hd (fun H1 locs1 p1 _ p3 => kk H1 locs1 ls ⟨pv_set_obj p1, p3, by rw [List.length_set]; exact hk⟩ hl hnl)
      · cases h
    · cases h
  · -- iaload
    obtain rfl : 1 = len := hln
    split at h
    · next hM =>
      split at h
      · next hi =>
        cases h
        exact va_iald hx hb hK hP _ 3 (pv_w_at hM) rfl (pv_in_ok hi) hd (kk H locs ls hH hl hnl)
      · cases h
    · cases h
  · -- iaload of the script
    obtain rfl : 1 = len := hln
    split at h
    · next hi =>
      cases h
      obtain ⟨x1, x2, x3⟩ := hsc hi.1
      exact va_sld hx hb x1 x2 x3 hS (pv_in_ok hi.2) hd (kk H locs ls hH hl hnl)
    · cases h
  · -- iastore
    obtain rfl : 1 = len := hln
    split at h
    · next hM =>
      split at h
      · next hi =>
        cases h
        exact va_iast hx hb hK hP hD hS _ 3 (pv_w_at hM) rfl (pv_in_ok hi) hd (fun H1 locs1 p1 _ p3 => kk H1 locs1 ls ⟨pv_set_int p1, p3, by rw [List.length_set]; exact hk⟩ hl hnl)
      · cases h
    · cases h
  · -- aaload
    obtain rfl : 1 = len := hln
    split at h
    · next hM =>
      split at h
      · next hi =>
        obtain ⟨b, hb1, rfl⟩ := Option.map_eq_some_iff.mp h
        have k1 := kk H locs ls hH hl hnl
        dsimp only at k1
        refine va_aldq hx hb hK hP _ _ (pv_w_at hM) (pv_ty_ok hi.1) (pv_in_ok hi.2) hd ?_
        rw [hb1]
        exact k1
      · cases h
    · cases h
  · -- aastore
    obtain rfl : 1 = len := hln
    split at h
    · next hM1 hM2 =>
      split at h
      · next hi =>
        obtain ⟨h3, rfl, hi⟩ := hi
        cases h
        obtain ⟨r, hc, ht⟩ := pv_ty_cl (cI := cI) (cR := cR) h3
        exact va_astq hx hb hK hP hD hS _ _ _ _ (pv_w_at hM1) ht (pv_w_at hM2) hc (pv_in_ok hi) hd (fun H1 locs1 p1 _ p3 => kk H1 locs1 ls ⟨pv_set_ref p1, p3, by rw [List.length_set]; exact hk⟩ hl hnl)
      · cases h
    · cases h
  · -- arraylength
    obtain rfl : 1 = len := hln
    split at h
    · next hM =>
      cases h
      exact va_alen hx hb hK hP _ 3 (pv_w_at hM) rfl rfl hd (kk H locs ls hH hl hnl)
    · next hM =>
      split at h
      · next hi =>
        cases h
        exact va_alen hx hb hK hP _ _ (pv_w_at hM) (pv_ty_ok hi) rfl hd (kk H locs ls hH hl hnl)
      · cases h
    · cases h
  · -- arraylength of the script
    obtain rfl : 1 = len := hln
    split at h
    · next hi =>
      cases h
      obtain ⟨x1, x2, x3⟩ := hsc hi
      exact va_slen hx hb x1 x2 x3 hS hd (kk H locs ls hH hl hnl)
    · cases h
  · cases h
end PS
