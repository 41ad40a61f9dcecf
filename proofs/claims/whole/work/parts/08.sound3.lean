/-! what makes cells; calls; returns; a whole run -/
section PS3
variable {p : Program} {l : Launch} {e : Env} {R : Room} {s : State} {m : MethodId} {args : Array Value} {below : List Frame} {meth : Method} {c : Code} {D : va_G} {cI : ClassId} {cR : Nat → ClassId} {N0 scr L nL : Nat} {xs : Nat → Int32} {Q : State → Prop} {d y k n pc len : Nat} {lv : pv_Lv} {st : List Value} {M : pv_M} {ins : Instr} {t : pv_St} {H : Heap} {locs : List Loc}
theorem pv_size {g : JFrame} (h : H.size ≤ s.heap.size + k → W p l e R s m args below meth c H locs k n Q g) : W p l e R s m args below meth c H locs k n Q g := fun T hT X => h (by rw [← hT]; exact X.heapSize) T hT X
theorem pv_addr {E : va_E} {q : Nat} {H1 : Heap} (hP1 : va_P D pv_cl (pv_w N0 scr cI cR M ++ [(q, E)]) H1) (hD1 : va_D (fun q => N0 ≤ q) (pv_w N0 scr cI cR M ++ [(q, E)])) (hz : H1.size ≤ N0 + M.length + 1) : q = N0 + M.length := by
  have hlen : (pv_w N0 scr cI cR M).length = M.length := by simp [pv_w]
  have hq : (pv_w N0 scr cI cR M ++ [(q, E)])[M.length]? = some (q, E) := by
    rw [List.getElem?_append_right (by omega), hlen]
    simp
  have h1 : N0 ≤ q := hD1.2 _ _ hq
  have h2 : q < H1.size := (hP1 _ _ hq).lt
  rcases Nat.lt_or_ge q (N0 + M.length) with h3 | h3
  · exfalso
    obtain ⟨i, rfl⟩ : ∃ i, q = N0 + i := ⟨q - N0, by omega⟩
    have hi : i < M.length := by omega
    have h4 : (pv_w N0 scr cI cR M ++ [(N0 + i, E)])[i]? = some (N0 + i, pv_E N0 scr cI cR M[i]) := by
      rw [List.getElem?_append_left (by omega)]
      exact pv_w_at (List.getElem?_eq_getElem hi)
    have := hD1.1 i M.length _ _ h4 hq rfl
    omega
  · omega
theorem pv_df_V {ci : Nat} {fs : List Value} (h : pv_df[ci]? = some fs) : fs.map (pv_V N0 scr) = fs := by
  match ci, h with
  | 0, h => cases h; rfl
  | 1, h => cases h; rfl
  | 2, h => cases h; rfl
  | 3, h => cases h; rfl
  | 4, h => cases h; rfl
  | 5, h => cases h; rfl
  | 6, h => cases h; rfl
  | j + 7, h => simp [pv_df] at h
theorem pv_c6_ok {o i ci b : Nat} (h : pv_look o i = some (6, ci, b)) : ci < 7 ∧ Cond.classLink (pv_o o) i (pv_o ci) ∈ pv_W := by
  have h1 := pv_look_ok h
  simp only [pv_lkok, Bool.and_eq_true, decide_eq_true_eq] at h1
  exact ⟨h1.1, pv_Wi (pv_fm pv_hl h1.2) rfl⟩
theorem pv_mk_ok (G : pv_G p R s m args meth c D cI cR N0 scr L xs d y) (hnL : nL = pv_ml y) (hd : decode (pv_by y) pc = .ok (ins, len)) (hln : pv_ln ins len = len) (h : pv_mk ins d y k n pc lv st M = some t) (kk : pv_Go p l e R s m args below meth c D cI cR N0 scr nL Q t) : pv_Go p l e R s m args below meth c D cI cR N0 scr nL Q (k, n, pc, lv, st, M) := by
  intro H locs ls hH hl hnl
  obtain ⟨hx, hb, hml, hr, hlk, hin, hown, hts, ⟨hK, hAO, hNl⟩, hN, hsc, hR1, hR2, hR3, hR4⟩ := G
  dsimp only at hH hl hnl ⊢
  obtain ⟨hP, hS, hk⟩ := id hH
  have hD := pv_w_D (N0 := N0) (scr := scr) (cI := cI) (cR := cR) (M := M)
  have hA : ∀ q, s.heap.size ≤ q → (fun q => N0 ≤ q) q := fun q hq => Nat.le_trans hN hq
  have hmls : c.maxLocals = ls.size := by rw [hml, hl.1, hnl, hnL]
  obtain ⟨m1, m2, m3, m4, m5, m6, m7, m8, m9, -⟩ := pv_w_misc
  unfold pv_mk at h
  split at h
  · -- new
    obtain rfl : 3 = len := hln
    split at h
    · next hlook =>
      split at h
      · next q fs hc hdf =>
        split at h
        · next hroom =>
          cases h
          obtain ⟨fs0, hdf0, hu, hpar, hdv, hnm, hinst, hini, hcn, hlen⟩ := pv_c_ok hc
          obtain ⟨C, T, N⟩ := q
          obtain rfl : fs0 = fs := Option.some.inj (hdf0.symm.trans hdf)
          have hl6 := (pv_c6_ok hlook).2
          rw [hcn] at hl6
          refine va_new (C := C) (T := T) (N := N) (fs := fs0) hx hb hts hu (pv_ft _) hpar hown (hts _ hl6) (hts _ hinst) (hts _ hini) hK hP hD hS hA hc hdv (Nat.le_trans hroom.1 hR3) (Nat.le_trans hroom.2 hR4) hd (fun q1 H1 p1 p2 p3 => pv_size fun hz => ?_)
          obtain rfl := pv_addr p1 p2 (by omega)
          refine kk H1 locs ls ⟨?_, p3, by rw [List.length_append]; dsimp only [List.length_cons, List.length_nil]; omega⟩ hl hnl
          dsimp only
          rw [pv_w_app]
          show va_P D pv_cl (pv_w N0 scr cI cR M ++ [(N0 + M.length, .inr (_, fs0.map (pv_V N0 scr)))]) H1
          rw [pv_df_V hdf]
          exact p1
        · cases h
      · cases h
    · cases h
  · -- newarray
    obtain rfl : 2 = len := hln
    split at h
    · next z r hc =>
      cases h
      refine va_newa (a0 := (z.toNatClampNeg, .inl (fun _ => 0))) hx hb (atype := .int) (hts _ (pv_Wi m6 rfl)) rfl hK hP hD hS hA (fun _ => rfl) hc.1 rfl (by show z.toNatClampNeg * 4 ≤ 536870912; omega) (by omega) (by omega) hd (fun q1 cA H1 p0 p1 p2 p3 => pv_size fun hz => ?_)
      have e1 : s.vm.findClass ("[" ++ FieldType.int.toString) = some cA := (p0.2 4 _ rfl).2
      have e2 : s.vm.findClass ("[" ++ FieldType.int.toString) = some cI := (hK.2 3 _ rfl).2
      obtain rfl : cA = cI := Option.some.inj (e1.symm.trans e2)
      obtain rfl := pv_addr p1 p2 (by omega)
      refine kk H1 locs ls ⟨?_, p3, by rw [List.length_append]; dsimp only [List.length_cons, List.length_nil]; omega⟩ hl hnl
      dsimp only
      rw [pv_w_app]
      exact p1
    · cases h
  · -- anewarray
    obtain rfl : 3 = len := hln
    split at h
    · next hlook =>
      split at h
      · next hc =>
        cases h
        have hl6 := (pv_c6_ok hlook).2
        refine va_newq hx hb hown (hts _ hl6) (hAO _ hc.1) hK hP hD hS hA hc.2.1 rfl (by omega) (by omega) (by omega) hd (fun q1 cA H1 p0 p1 p2 p3 => pv_size fun hz => ?_)
        obtain ⟨_, _, -, -, -, e1⟩ := (p0.2 4 _ rfl).2
        obtain ⟨_, _, -, -, -, e2⟩ := (hK.2 _ _ (pv_ty_ok hc.1)).2
        obtain rfl := Option.some.inj (e1.symm.trans e2)
        obtain rfl := pv_addr p1 p2 (by omega)
        refine kk H1 locs ls ⟨?_, p3, by rw [List.length_append]; dsimp only [List.length_cons, List.length_nil]; omega⟩ hl hnl
        dsimp only
        rw [pv_w_app]
        exact p1
      · cases h
    · cases h
  · -- arraycopy
    obtain rfl : 3 = len := hln
    split at h
    · next hlook hM1 hM2 =>
      split at h
      · next hc =>
        cases h
        obtain ⟨c1, c2, c3, c4, c5, c6, c7⟩ := hc
        have h5 := pv_look_ok hlook
        simp only [pv_lkok, decide_eq_true_eq] at h5
        have hlink := pv_Wi (pv_fm pv_hsy h5) rfl
        refine va_copyi hx hb hmls hown (hts _ hlink) (hts _ (pv_Wi m3 rfl)) (hts _ (pv_Wi m4 rfl)) (hts _ (pv_Wi m5 rfl)) hK hP hD hS _ _ 3 3 (pv_w_at hM1) (pv_w_at hM2) rfl rfl rfl c3 c4 c5 c6 c7 (fun _ _ => rfl) (by omega) ?_ hd (fun H1 locs1 p1 _ p3 => kk H1 locs1 ls ⟨pv_set_int p1, p3, by rw [List.length_set]; exact hk⟩ hl hnl)
        rw [pv_V_sum]
        have e7 : nativeFrameWords "java/lang/System" "arraycopy" 5 = 7 := by decide
        rw [e7]
        omega
      · cases h
    · cases h
  · -- Math.min
    obtain rfl : 3 = len := hln
    split at h
    · next hlook =>
      split at h
      · next hc =>
        cases h
        obtain ⟨c1, c2, c3, c4⟩ := hc
        have h5 := pv_look_ok hlook
        simp only [pv_lkok, decide_eq_true_eq] at h5
        have hlink := pv_Wi (pv_fm pv_hx h5) rfl
        refine va_mmin hx hb hmls hown (hts _ hlink) (hts _ (pv_Wi m7 rfl)) (hts _ (pv_Wi m8 rfl)) (hts _ (pv_Wi m9 rfl)) (by omega) ?_ (by omega) (by omega) hd (kk H locs ls hH hl hnl)
        rw [pv_V_sum]
        omega
      · cases h
    · cases h
  · -- Object.<init>
    obtain rfl : 3 = len := hln
    split at h
    · next hlook =>
      split at h
      · next hc =>
        cases h
        have h5 := pv_look_ok hlook
        simp only [pv_lkok, decide_eq_true_eq] at h5
        have hlink := pv_Wi (pv_fm pv_hob h5) rfl
        refine W.objInit hx hb hown (hts _ hlink) (hts _ (pv_Wi m1 rfl)) (hts _ (pv_Wi m2 rfl)) rfl hmls.symm rfl hd (by omega) ?_ (kk H locs ls hH hl hnl)
        rw [pv_V_sum]
        show 2 * 0 + _ + 12 ≤ _
        omega
      · cases h
    · cases h
  · cases h
/-- a call, by what its run says -/
theorem pv_callg {v : Option Value} {B : State → Prop} {A : Nat → Prop} {H0 : Heap} {ls : Array Slot} {mc ms : Nat} {st0 rest : List Value} {free : Addr → Prop}
    (hr : va_Run p l e R s m args below meth c H locs k n mc ms (F0 m pc ls st0) rest (fun st oc t => (oc = .returned v ∧ B t) ∧ va_F A st t) free) (hS : va_S A H0 H locs) (hf : ∀ q, free q → A q)
    (kk : ∀ (H1 : Heap) (locs1 : List Loc), (∃ t : State, t.heap = H1 ∧ B t) → va_S A H0 H1 locs1 → W p l e R s m args below meth c H1 locs1 (k + mc) (n + ms) Q (F0 m (pc + 3) ls (v.toList ++ rest))) : W p l e R s m args below meth c H locs k n Q (F0 m pc ls st0) := by
  intro T hT X
  obtain ⟨w, st₀, t, T', L, h0, X', hL, e1, e2, ⟨⟨hv, hB⟩, hz, hk⟩, st⟩ := hr T hT X
  cases hv
  rw [h0] at hz hk
  obtain ⟨t2, a1, b1⟩ := kk T'.heap (locs ++ L) ⟨t, e1.symm, hB⟩ ⟨Nat.le_trans hS.1 (by rw [e1]; exact hz), fun q h1 h2 => by rw [e1, hk q (Nat.lt_of_lt_of_le h1 hS.1) h2]; exact hS.2.1 q h1 h2, fun q hq => by
      rcases List.mem_append.mp hq with h | h
      · exact hS.2.2 q h
      · exact hf _ (hL q h)⟩ T' rfl X'
  exact ⟨t2, st t2 a1, b1⟩
/-- a method's words, room, start and end -/
def pv_ws (z : Nat) : List Cond := .code (pv_nm z) (pv_by z) (pv_ml z) (pv_rt z) :: pv_W
def pv_rm (z d : Nat) : Room := { frames := d, cells := pv_mc z, slots := pv_ms z, locals := 60 * d }
def pv_Pc (D : va_G) (cI : ClassId) (cR : Nat → ClassId) (N0 scr : Nat) (M : pv_M) (as : List Value) : Array Value → State → Prop := va_Pc (as.map (pv_V N0 scr)) (fun U => U.heap.size = N0 + M.length ∧ va_P D pv_cl (pv_w N0 scr cI cR M) U.heap ∧ pv_K D cI cR U)
def pv_Qc (D : va_G) (cI : ClassId) (cR : Nat → ClassId) (N0 scr z : Nat) (M : pv_M) (v : Option Value) (M1 : pv_M) : Array Value → State → Outcome → State → Prop := fun _ st oc t => (oc = .returned (v.map (pv_V N0 scr)) ∧ va_P D pv_cl (pv_w N0 scr cI cR M1) t.heap ∧ M1.length = M.length + pv_mc z) ∧ va_F (fun q => N0 ≤ q) st t
theorem pv_Pc_blind {as : List Value} : FrameBlind (pv_Pc D cI cR N0 scr M as) := fun a U g mk q => by
  obtain ⟨q0, q1, qP, qK⟩ := q
  exact ⟨q0, q1, qP, pv_K.same (s := U) (U := U.calling g mk a) rfl qK⟩
theorem pv_gin {ws : List Cond} (h : ∀ w ∈ ws, w ∈ pv_W) : GoodIn pv_W ws := fun w hw => pv_Wg w (h w hw)
theorem pv_ws_in {z : Nat} (hz : z < pv_law) : ∀ w ∈ pv_ws z, w ∈ pv_W := by
  intro w hw
  rcases List.mem_cons.mp hw with rfl | hw
  · exact (pv_m_ok hz).1
  · exact hw
theorem pv_fit_ok {z : Nat} {as r : List Value} (h : pv_fit z y k n as r = true) : (pv_pl as).length ≤ pv_ml z ∧ (r.map fun v => v.category).sum ≤ 8 ∧ k + pv_mc z ≤ pv_mc y ∧ n + pv_ms z ≤ pv_ms y ∧ z ≠ pv_law := by
  unfold pv_fit at h
  simp only [Bool.and_eq_true, decide_eq_true_eq, Bool.not_eq_true', beq_eq_false_iff_ne] at h
  obtain ⟨⟨⟨⟨h1, h2⟩, h3⟩, h4⟩, h5⟩ := h
  exact ⟨h1, h2, h3, h4, h5⟩
theorem pv_low (hP : va_P D pv_cl (pv_w N0 scr cI cR M) H) (hS : va_S (fun q => N0 ≤ q) s.heap H locs) (hN : N0 ≤ s.heap.size) : N0 + M.length ≤ H.size := by
  rcases Nat.eq_zero_or_pos M.length with h | h
  · have := hS.1; omega
  · have h1 : M.length - 1 < M.length := by omega
    have h2 := (hP _ _ (pv_w_at (List.getElem?_eq_getElem h1))).lt
    dsimp only at h2
    omega
/-- what a call needs to be told -/
def pv_CallOk (l : Launch) (D : va_G) (cI : ClassId) (cR : Nat → ClassId) (N0 scr : Nat) (d z : Nat) (as : List Value) (M : pv_M) (v : Option Value) (M1 : pv_M) : Prop :=
  Met l (pv_nm z) (pv_ws z) (pv_rm z d) (pv_Pc D cI cR N0 scr M as) (pv_Qc D cI cR N0 scr z M v M1) (pv_mc z) (pv_ms z) (fun q => N0 ≤ q)
theorem pv_ca_fit {z : Nat} {as r : List Value} (h : pv_ca ins y k n st M = some (z, as, r)) : z < pv_law ∧ pv_fit z y k n as r = true := by
  unfold pv_ca at h
  split at h
  · split at h
    · next tg z' np hlook =>
      have hlk := pv_look_ok hlook
      split at h
      · next htg =>
        split at h
        · split at h
          · split at h
            · next hcc =>
              cases h
              refine ⟨?_, hcc.2.2⟩
              rcases htg with rfl | rfl <;> simp only [pv_lkok, Bool.and_eq_true, decide_eq_true_eq] at hlk
              · exact hlk.1.1.1.1.1
              · exact hlk.1.1.1.1.1
            · cases h
          · cases h
        · cases h
      · cases h
    · cases h
  · split at h
    · next z' np hlook =>
      have hlk := pv_look_ok hlook
      split at h
      · next hcc =>
        cases h
        simp only [pv_lkok, Bool.and_eq_true, decide_eq_true_eq] at hlk
        exact ⟨hlk.1.1.1, hcc.2⟩
      · cases h
    · cases h
  · split at h
    · next tg z' np hlook =>
      have hlk := pv_look_ok hlook
      split at h
      · next htg =>
        split at h
        · split at h
          · next hcc =>
            cases h
            refine ⟨?_, hcc.2⟩
            rcases htg with rfl | rfl <;> simp only [pv_lkok, Bool.and_eq_true, decide_eq_true_eq] at hlk
            · exact hlk.1.1.1.1.1
            · exact hlk.1.1.1.1.1
          · cases h
        · cases h
      · cases h
    · cases h
  · cases h
theorem pv_ca_ok {z : Nat} {as r : List Value} {v : Option Value} {M1 : pv_M} (G : pv_G p R s m args meth c D cI cR N0 scr L xs (d + 1) y) (hnL : nL = pv_ml y) (hd : decode (pv_by y) pc = .ok (ins, len)) (hln : pv_ln ins len = len) (h : pv_ca ins y k n st M = some (z, as, r)) (hM : pv_CallOk l D cI cR N0 scr d z as M v M1) (kk : pv_Go p l e R s m args below meth c D cI cR N0 scr nL Q (k + pv_mc z, n + pv_ms z, pc + 3, lv, v.toList ++ r, M1)) : pv_Go p l e R s m args below meth c D cI cR N0 scr nL Q (k, n, pc, lv, st, M) := by
  intro H locs ls hH hl hnl
  have hz : z < pv_law ∧ (pv_pl as).length ≤ pv_ml z ∧ (r.map fun v => v.category).sum ≤ 8 ∧ k + pv_mc z ≤ pv_mc y ∧ n + pv_ms z ≤ pv_ms y ∧ z ≠ pv_law := ⟨(pv_ca_fit h).1, pv_fit_ok (pv_ca_fit h).2⟩
  obtain ⟨hx, hb, hml, hr, hlk, hin, hown, hts, hK, hN, hsc, hR1, hR2, hR3, hR4⟩ := G
  dsimp only at hH hl hnl ⊢
  obtain ⟨hP, hS, hk⟩ := id hH
  obtain ⟨hzl, f1, f2, f3, f4, f5⟩ := hz
  obtain ⟨w1, w2, w3, w4, w5, w6, w7⟩ := pv_m_ok hzl
  refine pv_size fun hsz => ?_
  have hlow := pv_low hP hS hN
  have hroom : (pv_rm z d).frames + 1 ≤ R.frames ∧ 8 + (pv_ml z + 11) + (pv_rm z d).locals ≤ R.locals := ⟨by show d + 1 ≤ _; omega, by show 8 + (pv_ml z + 11) + 60 * d ≤ _; omega⟩
  have hcont : ∀ (H1 : Heap) (locs1 : List Loc), (∃ t : State, t.heap = H1 ∧ (va_P D pv_cl (pv_w N0 scr cI cR M1) t.heap ∧ M1.length = M.length + pv_mc z)) → va_S (fun q => N0 ≤ q) s.heap H1 locs1 → W p l e R s m args below meth c H1 locs1 (k + pv_mc z) (n + pv_ms z) Q (F0 m (pc + 3) ls ((v.map (pv_V N0 scr)).toList ++ r.map (pv_V N0 scr))) := by
    rintro H1 locs1 ⟨t, ht, b1, b2⟩ hS1
    rw [ht] at b1
    have k1 := kk H1 locs1 ls ⟨b1, hS1, by dsimp only; omega⟩ hl hnl
    dsimp only at k1
    rw [List.map_append] at k1
    cases v <;> exact k1
  have hpre : ∀ U : State, U.heap = H → s.WarmedH U.vm → pv_Pc D cI cR N0 scr M as (as.map (pv_V N0 scr)).toArray U := fun U hU hW => ⟨rfl, by rw [hU]; omega, by rw [hU]; exact hP, hK.warm hW⟩
  have hsz2 : ls.size = pv_ml y := by rw [hl.1, hnl, hnL]
  have hrr : ∀ {pc' : Nat} {st' : List Value}, 2 * (F0 m pc' ls st').monitorRoom + ((r.map (pv_V N0 scr)).map fun v => v.category).sum ≤ 8 := by
    intro pc' st'
    apply lv_room
    rw [pv_V_sum]
    exact f2
  unfold pv_ca at h
  split at h
  · -- invokevirtual
    obtain rfl : 3 = len := hln
    split at h
    · next tg z' np hlook =>
      split at h
      · next htg =>
        split at h
        · next a r' hdrop =>
          split at h
          · next ci fs hMa =>
            split at h
            · next hcc =>
              cases h
              obtain ⟨hci, htake, -⟩ := hcc
              have hst : st.map (pv_V N0 scr) = (((st.take np).reverse).map (pv_V N0 scr)).reverse ++ Value.ref (N0 + a) :: r.map (pv_V N0 scr) := by
                rw [List.map_reverse, List.reverse_reverse]
                conv => lhs; rw [← List.take_append_drop np st, hdrop]
                rw [List.map_append]
                rfl
              have hlk9 := pv_look_ok hlook
              have hn9 : (((st.take np).reverse).map (pv_V N0 scr)).length = np := by rw [List.length_map, List.length_reverse]; exact htake
              have h7 : ci < 7 := by
                rcases htg with rfl | rfl <;> simp only [pv_lkok, Bool.and_eq_true, decide_eq_true_eq] at hlk9
                · rw [hci]; exact hlk9.2
                · rw [hci]; exact hlk9.2
              have hrecv : ∀ C, C = pv_on z → ∃ cellB : Cell, H[N0 + a]? = some cellB ∧ cellB.vm.isStatics = false ∧ s.vm.findClass C = some cellB.cls := by
                intro C hC
                have hc7 : pv_cl[ci]? = some pv_cl[ci] := List.getElem?_eq_getElem h7
                have := va_recv hK.1 hP hc7 (pv_w_at hMa)
                obtain ⟨fs0, -, -, -, -, -, -, -, hcn, -⟩ := pv_c_ok hc7
                rw [show C = pv_cl[ci].1 from by rw [hC, ← hcn, hci]]
                exact this
              rcases htg with rfl | rfl
              · simp only [pv_lkok, pv_np, Bool.and_eq_true, decide_eq_true_eq] at hlk9
                obtain ⟨⟨⟨⟨⟨-, g1⟩, g2⟩, g3⟩, g4⟩, g5⟩ := hlk9
                have hw := pv_gin (ws := wsV (pv_on y) _ (pv_nm z).cls (pv_nm z) (pv_ws z)) (by
                  intro w hw
                  unfold wsV at hw
                  rcases List.mem_append.mp hw with hw | hw
                  · simp only [List.mem_cons, List.not_mem_nil, or_false] at hw
                    rcases hw with rfl | rfl | rfl | rfl
                    · exact pv_Wi (pv_fm pv_hm g2) rfl
                    · exact pv_Wi (pv_fm pv_hi g3) rfl
                    · rw [w3]; exact pv_Wi (pv_fm pv_hv g4) rfl
                    · exact w2
                  · exact pv_ws_in hzl w hw)
                refine pv_callg (va_runV (As := ((st.take np).reverse).map (pv_V N0 scr)) (rest := r.map (pv_V N0 scr)) ⟨hx, hb, hml, hown, hts⟩ hM (cwV np hts hw rfl rfl rfl ⟨rfl, w4, w5, g1⟩ hroom) ⟨pv_Pc_blind, hrecv _ w3, hpre⟩ rfl hn9 hsz2 hst hrr hd ⟨by omega, by omega⟩) hS (fun _ h => h) hcont
              · simp only [pv_lkok, pv_np, Bool.and_eq_true, decide_eq_true_eq] at hlk9
                obtain ⟨⟨⟨⟨⟨-, g1⟩, g2⟩, g3⟩, g4⟩, g5⟩ := hlk9
                have g4' : (Cond.selects (pv_on z) (pv_nm z) (pv_nm z)).before args s = true := hts _ (pv_Wi (pv_fm pv_hv g4) rfl)
                refine pv_callg (va_runVN (C := pv_on z) (As := ((st.take np).reverse).map (pv_V N0 scr)) (rest := r.map (pv_V N0 scr)) ⟨hx, hb, hml, hown, hts⟩ hM ⟨va_cnB np hts (pv_gin (pv_ws_in hzl)) rfl rfl rfl (hK.2.2 _ g2) (hts _ w2) ⟨w4, w5, g1⟩ hroom, hts _ (pv_Wi (pv_fm pv_hi g3) rfl), g4'⟩ ⟨pv_Pc_blind, hrecv _ rfl, hpre⟩ rfl hn9 hsz2 hst hrr hd ⟨by omega, by omega⟩) hS (fun _ h => h) hcont
            · cases h
          · cases h
        · cases h
      · cases h
    · cases h
  · -- invokestatic
    obtain rfl : 3 = len := hln
    split at h
    · next z' np hlook =>
      split at h
      · next hcc =>
        cases h
        obtain ⟨htake, -⟩ := hcc
        have hst : st.map (pv_V N0 scr) = (((st.take np).reverse).map (pv_V N0 scr)).reverse ++ (st.drop np).map (pv_V N0 scr) := by
          rw [List.map_reverse, List.reverse_reverse, ← List.map_append, List.take_append_drop]
        have hlk9 := pv_look_ok hlook
        have hn9 : (((st.take np).reverse).map (pv_V N0 scr)).length = np := by rw [List.length_map, List.length_reverse]; exact htake
        simp only [pv_lkok, pv_np, Bool.and_eq_true, decide_eq_true_eq] at hlk9
        obtain ⟨⟨⟨-, g1⟩, g2⟩, g3⟩ := hlk9
        have hw := pv_gin (ws := va_wsS (pv_on y) _ (pv_nm z) (pv_ws z)) (by
          intro w hw
          unfold va_wsS at hw
          rcases List.mem_append.mp hw with hw | hw
          · simp only [List.mem_cons, List.not_mem_nil, or_false] at hw
            rcases hw with rfl | rfl | rfl
            · exact pv_Wi (pv_fm pv_hm g2) rfl
            · exact pv_Wi (pv_fm pv_hs g3) rfl
            · exact w2
          · exact pv_ws_in hzl w hw)
        refine pv_callg (va_runS (As := ((st.take np).reverse).map (pv_V N0 scr)) (rest := (st.drop np).map (pv_V N0 scr)) ⟨hx, hb, hml, hown, hts⟩ hM (va_cwS np hts hw rfl rfl rfl ⟨w4, w5, g1⟩ hroom) ⟨pv_Pc_blind, hpre⟩ rfl hn9 hsz2 hst hrr hd ⟨by omega, by omega⟩) hS (fun _ h => h) hcont
      · cases h
    · cases h
  · -- invokespecial
    obtain rfl : 3 = len := hln
    split at h
    · next tg z' np hlook =>
      split at h
      · next htg =>
        split at h
        · next a r' hdrop =>
          split at h
          · next hcc =>
            cases h
            obtain ⟨htake, -⟩ := hcc
            have hst : st.map (pv_V N0 scr) = (((st.take np).reverse).map (pv_V N0 scr)).reverse ++ Value.ref (N0 + a) :: r.map (pv_V N0 scr) := by
              rw [List.map_reverse, List.reverse_reverse]
              conv => lhs; rw [← List.take_append_drop np st, hdrop]
              rw [List.map_append]
              rfl
            have hlk9 := pv_look_ok hlook
            have hn9 : (((st.take np).reverse).map (pv_V N0 scr)).length = np := by rw [List.length_map, List.length_reverse]; exact htake
            rcases htg with rfl | rfl
            · simp only [pv_lkok, pv_np, Bool.and_eq_true, decide_eq_true_eq] at hlk9
              obtain ⟨⟨⟨⟨⟨-, g1⟩, g2⟩, g3⟩, g4⟩, g5⟩ := hlk9
              have hM2 := hM
              unfold pv_CallOk pv_ws at hM2
              rw [g5] at hM2
              refine pv_callg (va_runI (As := ((st.take np).reverse).map (pv_V N0 scr)) (rest := r.map (pv_V N0 scr)) ⟨hx, hb, hml, hown, hts⟩ hM2 (cwI np hts (pv_gin (fun w hw => pv_ws_in hzl w (by unfold pv_ws; rw [g5]; exact hw))) rfl rfl rfl (hts _ w2) (hts _ (pv_Wi (pv_fm pv_hm g2) rfl)) (hts _ (pv_Wi (pv_fm pv_hi g3) rfl)) g4 ⟨w4, w5, g1⟩ hroom) ⟨pv_Pc_blind, hpre⟩ rfl hn9 hsz2 hst hrr hd ⟨by omega, by omega⟩) hS (fun _ h => h) hcont
            · simp only [pv_lkok, pv_np, Bool.and_eq_true, decide_eq_true_eq] at hlk9
              obtain ⟨⟨⟨⟨⟨-, g1⟩, g2⟩, g3⟩, g4⟩, g5⟩ := hlk9
              have hM2 := hM
              unfold pv_CallOk pv_ws at hM2
              rw [g5] at hM2
              refine pv_callg (va_runIN (As := ((st.take np).reverse).map (pv_V N0 scr)) (rest := r.map (pv_V N0 scr)) ⟨hx, hb, hml, hown, hts⟩ hM2 ⟨va_cnB np hts (pv_gin (fun w hw => pv_ws_in hzl w (by unfold pv_ws; rw [g5]; exact hw))) rfl rfl rfl (hK.2.2 _ g2) (hts _ w2) ⟨w4, w5, g1⟩ hroom, g4, hts _ (pv_Wi (pv_fm pv_hi g3) rfl)⟩ ⟨pv_Pc_blind, hpre⟩ rfl hn9 hsz2 hst hrr hd ⟨by omega, by omega⟩) hS (fun _ h => h) hcont
          · cases h
        · cases h
      · cases h
    · cases h
  · cases h
/-- a step that goes on -/
theorem pv_one_ok (G : pv_G p R s m args meth c D cI cR N0 scr L xs d y) (hnL : nL = pv_ml y) (h : pv_one xs L d y k n pc lv st M = some (.inl t)) (kk : pv_Go p l e R s m args below meth c D cI cR N0 scr nL Q t) : pv_Go p l e R s m args below meth c D cI cR N0 scr nL Q (k, n, pc, lv, st, M) := by
  unfold pv_one at h
  split at h
  · next ins len hd =>
    split at h
    · next hln =>
      split at h
      · next h1 => cases h; exact pv_ld_ok G hd hln h1 kk
      · split at h
        · next h1 => cases h; exact pv_so_ok G hd hln h1 kk
        · split at h
          · next h1 => cases h; exact pv_al_ok G hd hln h1 kk
          · split at h
            · next h1 => cases h; exact pv_br_ok G hd hln h1 kk
            · split at h
              · next h1 => cases h; exact pv_me_ok G hd hln h1 kk
              · split at h
                · next h1 => cases h; exact pv_mk_ok G hnL hd hln h1 kk
                · split at h
                  · cases h
                  · obtain ⟨v, hv, he⟩ := Option.map_eq_some_iff.mp h
                    cases he
    · cases h
  · cases h
theorem pv_one_ca {q : Nat × List Value × List Value} (h : pv_one xs L d y k n pc lv st M = some (.inr (.inl q))) : ∃ ins len, decode (pv_by y) pc = .ok (ins, len) ∧ pv_ln ins len = len ∧ pv_ca ins y k n st M = some q := by
  unfold pv_one at h
  split at h
  · next ins len hd =>
    split at h
    · next hln =>
      split at h
      · cases h
      · split at h
        · cases h
        · split at h
          · cases h
          · split at h
            · cases h
            · split at h
              · cases h
              · split at h
                · cases h
                · split at h
                  · next h1 => cases h; exact ⟨ins, len, hd, hln, h1⟩
                  · obtain ⟨v, hv, he⟩ := Option.map_eq_some_iff.mp h
                    cases he
    · cases h
  · cases h
theorem pv_one_re {v : Option Value} (h : pv_one xs L d y k n pc lv st M = some (.inr (.inr v))) : ∃ ins len, decode (pv_by y) pc = .ok (ins, len) ∧ pv_ln ins len = len ∧ pv_re ins y k n st = some v := by
  unfold pv_one at h
  split at h
  · next ins len hd =>
    split at h
    · next hln =>
      split at h
      · cases h
      · split at h
        · cases h
        · split at h
          · cases h
          · split at h
            · cases h
            · split at h
              · cases h
              · split at h
                · cases h
                · split at h
                  · cases h
                  · obtain ⟨v, hv, he⟩ := Option.map_eq_some_iff.mp h
                    cases he
                    exact ⟨ins, len, hd, hln, hv⟩
    · cases h
  · cases h
/-- the end of a method, as its contract has it -/
theorem pv_re_ok {v : Option Value} {M0 : pv_M} (G : pv_G p R s m args meth c D cI cR N0 scr L xs d y) (hy : y ≠ pv_law) (hs0 : s.heap.size = N0 + M0.length) (hd : decode (pv_by y) pc = .ok (ins, len)) (hln : pv_ln ins len = len) (h : pv_re ins y k n st = some v) : pv_Go p l e R s m args below meth c D cI cR N0 scr nL (MQ below (pv_Qc D cI cR N0 scr y M0 v M) args s (pv_mc y) (pv_ms y) (fun q => N0 ≤ q)) (k, n, pc, lv, st, M) := by
  intro H locs ls hH hl hnl
  obtain ⟨hx, hb, hml, hr, hlk, hin, hown, hts, hK, hN, hsc, hR1, hR2, hR3, hR4⟩ := G
  dsimp only at hH hl hnl ⊢
  obtain ⟨hP, hS, hk⟩ := id hH
  unfold pv_re at h
  split at h
  · next hc =>
    obtain ⟨hc1, hc2, hc3⟩ := hc
    have hkm : k = pv_mc y := by
      rcases hc1 with z | z
      · exact absurd z hy
      · exact z
    have hq : ∀ t : State, t.heap = H → s.WarmedH t.vm → pv_Qc D cI cR N0 scr y M0 v M args s (.returned (v.map (pv_V N0 scr))) t := fun t ht _ => ⟨⟨rfl, by rw [ht]; exact hP, by omega⟩, hS.F ht⟩
    refine W.widen (k := pv_mc y) (n := pv_ms y) hc2 hc3 ?_
    split at h
    · next hrt => cases h; obtain rfl : 1 = len := hln; exact W.iret hx hb (by rw [hr]; exact hrt) hq hS.2.2 hd hlk
    · next hrt =>
      split at h
      · next hnr => cases h; obtain rfl : 1 = len := hln; exact W.zret hx hb (by rw [hr]; exact hrt) hnr hq hS.2.2 hd hlk
      · cases h
    · next hrt => cases h; obtain rfl : 1 = len := hln; exact W.lret hx hb (by rw [hr]; exact hrt) hq hS.2.2 hd hlk
    · next hrt => cases h; obtain rfl : 1 = len := hln; exact W.aret hx hb (by rw [hr]; exact hrt) (Or.inl ⟨_, rfl⟩) (Or.inr ⟨_, rfl⟩) hq hS.2.2 hd hlk
    · next hrt => cases h; obtain rfl : 1 = len := hln; exact W.vret hx hb (by rw [hr]; exact hrt) hq hS.2.2 hd hlk
    · cases h
  · cases h
end PS3
/-- THE PURE MACHINE IS SOUND -/
theorem pv_sound (l : Launch) (D : va_G) (cI : ClassId) (cR : Nat → ClassId) (N0 scr L : Nat) (xs : Nat → Int32) : ∀ (f d y : Nat) (t : pv_St) (r : Option Value × pv_M), pv_run xs L f d y t = some r →
    ∀ (p : Program) (e : Env) (R : Room) (s : State) (m : MethodId) (args : Array Value) (below : List Frame) (meth : Method) (c : Code) (Q : State → Prop), pv_G p R s m args meth c D cI cR N0 scr L xs d y →
    (∀ (k n pc : Nat) (lv : pv_Lv) (st : List Value) (M : pv_M) (v : Option Value) (ins : Instr) (len : Nat), decode (pv_by y) pc = .ok (ins, len) → pv_ln ins len = len → pv_re ins y k n st = some v → (v, M) = r → pv_Go p l e R s m args below meth c D cI cR N0 scr (pv_ml y) Q (k, n, pc, lv, st, M)) →
    pv_Go p l e R s m args below meth c D cI cR N0 scr (pv_ml y) Q t := by
  intro f
  induction f with
  | zero => intro d y t r h; simp [pv_run] at h
  | succ f ih =>
    intro d y t r h p e R s m args below meth c Q G hQ
    obtain ⟨k, n, pc, lv, st, M⟩ := t
    unfold pv_run at h
    cases ho : pv_one xs L d y k n pc lv st M with
    | none => rw [ho] at h; cases h
    | some o =>
      rw [ho] at h
      rcases o with s' | ⟨z, as, r'⟩ | v
      · exact pv_one_ok G rfl ho (ih d y s' r h p e R s m args below meth c Q G hQ)
      · cases d with
        | zero => cases h
        | succ d =>
          dsimp only at h
          cases hc : pv_run xs L f d z (0, 0, 0, pv_en z as, [], M) with
          | none => rw [hc] at h; cases h
          | some q =>
            rw [hc] at h
            obtain ⟨v, M1⟩ := q
            dsimp only at h
            obtain ⟨ins, len, h1, h2, h3⟩ := pv_one_ca ho
            obtain ⟨hz, hfit⟩ := pv_ca_fit h3
            obtain ⟨f1, f2, f3, f4, f5⟩ := pv_fit_ok hfit
            obtain ⟨w1, w2, w3, w4, w5, w6, w7⟩ := pv_m_ok hz
            have hM : pv_CallOk l D cI cR N0 scr d z as M v M1 := by
              unfold pv_CallOk
              refine Met.ofW (cc := pv_by z) (maxL := pv_ml z) (ret := pv_rt z) w6 rfl ?_
              intro p e s m args below meth c s₁ B hml hv
              obtain ⟨rfl, hsz, hP, hK⟩ := hv
              have Gz : pv_G p (headSpec (pv_ws z) (pv_rm z d)).room s m (as.map (pv_V N0 scr)).toArray meth c D cI cR N0 scr L xs d z := ⟨B.exec, B.bytes, hml, B.returns, B.notSynchronized, fun _ => (name_of_methodNamed B.named B.method).1, by rw [← w3]; exact findClass_of_methodNamed B.named, fun w hw => atoms_spec (ws := pv_ws z) B.pre w (List.mem_cons_of_mem _ hw), hK, by omega, fun q => absurd q f5, Nat.le_refl _, Nat.le_refl _, Nat.le_refl _, Nat.le_refl _⟩
              rw [lg_entry_eq]
              have hl := lv_entry (as.map (pv_V N0 scr)) (n := pv_ml z) (by rw [pv_pl_len]; exact f1)
              exact ih d z _ _ hc p e _ s m _ below meth c _ Gz (fun k n pc lv st M2 v2 ins len a1 a2 a3 a4 => by
                cases a4
                exact pv_re_ok Gz f5 hsz a1 a2 a3) s.heap [] _ ⟨hP, va_S.rf, by dsimp only; omega⟩ (pv_en_L f1 hl) (by simp [pv_en]; omega)
            exact pv_ca_ok G rfl h1 h2 h3 hM (ih (d + 1) y _ r h p e R s m args below meth c Q G hQ)
      · cases h
        obtain ⟨ins, len, h1, h2, h3⟩ := pv_one_re ho
        exact hQ k n pc lv st M v ins len h1 h2 h3 rfl
