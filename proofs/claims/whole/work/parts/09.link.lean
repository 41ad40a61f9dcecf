/-! THE CLAIM OUT OF ONE WALK OF THE LAW'S BODY. Your part is whole_start (and what it stands on); all else here is the same for every law, but numbers. -/
def R_law : String := "WornNamesLaw"
def lw_P (b : Addr) (xs : List Int32) (args : Array Value) (s : State) : Prop := args = #[.ref b] ∧ s.IntsAt b xs ∧ xs.length ≤ 3072 ∧ (Jvm.Cond.and given_1 narrow_1).before args s = true
def lw_Q (_ : Array Value) (s : State) (o : Outcome) (t : State) : Prop := o = .returned (some (.int 1)) ∧ Framed s o t [] 600000 7302250
def lw_Z (below : List Frame) (a : Array Value) (s : State) : State → Prop := fun t => ∃ o, t.status = .running ∧ Ended t below o ∧ lw_Q a s o t
/-- the law's own end, with 1 on the stack, nothing written that was there before, its room as the claim has it -/
theorem lw_ret {p : Program} {l : Launch} {e : Env} {s : State} {m : MethodId} {below : List Frame} {meth : Method} {c : Code} {b : Nat} (hx : p.tables.exec = Jvm.exec) (hb : c.code = code) (hr : meth.sig.returnType = ret) (hlocks : meth.locks = false) {pc : Nat} {H : Heap} {ls : Array Slot} (hdg : decode code pc = .ok (.ireturn, 1)) : W p l e room_1 s m #[Value.ref b] below meth c H [] 600000 7302250 (lw_Z below #[Value.ref b] s) (F0 m pc ls [.int 1]) := by
  intro T hT X
  obtain ⟨fs, hret, hrun, hended, hW, hframe⟩ := X.leave (v := some (.int 1)) (hlocks := hlocks) (fun h => by rw [hr] at h; cases h)
  have hmeth' : T.vm.method? m = some meth := X.method'
  refine ⟨T.setFrames fs, ?_, .returned (some (.int 1)), hrun, hended, rfl, ⟨_, rfl⟩, hW, hframe⟩
  jvm_step X.here [X.here.top, hx, hb, hdg, hmeth', hr, ret, narrow_b1]
  (try refine ⟨rfl, ?_⟩); (try refine ⟨rfl, ?_⟩)
  first | (intro acts; rw [hret _ acts rfl rfl rfl]) | rw [hret _ _ rfl rfl rfl]
  exact Steps.refl _
/-- what holds at the law's entry: the machine, the code, the tables' words (any of lw_tbl by 'hts w (by decide +kernel)'), the script of L ints xs at the cell b, what the Statement gives of the start (any of its parts by flat_of_before) -/
def lw_At (p : Program) (s : State) (m : MethodId) (meth : Method) (c : Code) (b L : Nat) (xs : Nat → Int32) : Prop :=
  p.tables.exec = Jvm.exec ∧ c.code = code ∧ meth.sig.returnType = ret ∧ c.maxLocals = 4 ∧ s.vm.findClass R_law = some m.cls ∧ (∀ w ∈ lw_tbl, w.before #[Value.ref b] s = true) ∧ va_X b L xs s s.heap ∧ b < s.heap.size ∧ meth.locks = false ∧ (Jvm.Cond.and given_1 narrow_1).before #[Value.ref b] s = true
/-! from the law's entry to the pure machine -/
theorem pv_start {args : Array Value} {s : State} (hts : ∀ w ∈ lw_tbl, w.before args s = true) : ∃ (D : va_G) (cI : ClassId) (cR : Nat → ClassId), pv_K D cI cR s := by
  obtain ⟨m1, m2, m3, m4, m5, m6, m7, m8, m9, m10, m11, m12⟩ := pv_w_misc
  have hcl : ∀ ci : Nat, ∃ (c0 : ClassId) (iS : Nat → Nat), ∀ r : vw_C, pv_cl[ci]? = some r → u_Kn s r.1 r.2.1 r.2.2 c0 iS := by
    intro ci
    cases hr : pv_cl[ci]? with
    | none => exact ⟨0, fun _ => 0, fun r h => by cases h⟩
    | some r =>
      obtain ⟨fs, -, hu, -, -, -, hi, -⟩ := pv_c_ok hr
      obtain ⟨c0, iS, h⟩ := u_known (C := r.1) (T := r.2.1) (N := r.2.2) (n := r.2.2) hts (fun w hw => (List.mem_filter.mp (hu w hw)).1) (hts _ (List.mem_filter.mp hi).1)
      exact ⟨c0, iS, fun r' h' => by cases h'; exact h⟩
  obtain ⟨cB, kB, comp, a1, a2, a3⟩ := Cond.arrayClass_spec (hts _ m6)
  have hao : ∀ ci : Nat, ci < 3 → va_AO (pv_o ci) s := by
    intro ci h
    match ci, h with
    | 0, _ => exact va_AO.of (hts _ m10)
    | 1, _ => exact va_AO.of (hts _ m11)
    | 2, _ => exact va_AO.of (hts _ m12)
  have har : ∀ ci : Nat, ∃ cA : ClassId, ci < 3 → ArrOfT s cA (.object (pv_o ci)) ∧ va_RA s cA (.object (pv_o ci)) := by
    intro ci
    by_cases h : ci < 3
    · obtain ⟨comp, c, k, h1, h2, h3, h4, h5⟩ := Cond.arrayOver_spec (hao ci h)
      exact ⟨c, fun _ => ⟨fun N z => ⟨fun k h => (by cases h), k, h3, comp, h4⟩, k, comp, h3, h4, h1, h5⟩⟩
    · exact ⟨0, fun z => absurd z h⟩
  refine ⟨(fun ci => (hcl ci).choose, fun ci => (hcl ci).choose_spec.choose), cB, fun ci => (har ci).choose, ⟨fun ci r h => (hcl ci).choose_spec.choose_spec r h, fun k q h => ?_⟩, hao, fun q hq => va_Nw.of rfl (hts _ (pv_fm pv_hN hq))⟩
  match k, h with
  | 0, h => cases h; exact (har 0).choose_spec (by decide)
  | 1, h => cases h; exact (har 1).choose_spec (by decide)
  | 2, h => cases h; exact (har 2).choose_spec (by decide)
  | 3, h => cases h; exact ⟨fun N z => ⟨fun k h => (by cases h), kB, a2, comp, a3⟩, a1⟩
  | j + 4, h => simp [pv_ty] at h
/-- the law's run on the pure machine -/
def pv_Pure (xs : Nat → Int32) (L : Nat) : Prop := ∃ (f : Nat) (M : pv_M), pv_run xs L f 40 pv_law (0, 0, 0, [some (.retAddr 0), none, none, none], [], []) = some (some (.int 1), M)
theorem pv_link {p : Program} {e : Env} {s : State} {m : MethodId} {below : List Frame} {meth : Method} {c : Code} (l : Launch) {b L : Nat} {xs : Nat → Int32} (hp : pv_Pure xs L) (C0 : lw_At p s m meth c b L xs) : W p l e room_1 s m #[Value.ref b] below meth c s.heap [] 0 0 (lw_Z below #[Value.ref b] s) (entryFrame m ([Value.ref b] : List Value).toArray 4) := by
  obtain ⟨hx, hb, hr, hml, hown, hts, hX, hbl, hlocks, hgv⟩ := id C0
  obtain ⟨D, cI, cR, hK⟩ := pv_start hts
  obtain ⟨f, M, hrun⟩ := hp
  have G : pv_G p room_1 s m #[Value.ref b] meth c D cI cR s.heap.size b L xs 40 pv_law := ⟨hx, hb, hml, hr, hlocks, fun h => absurd rfl h, hown, fun w hw => hts w (List.mem_filter.mp hw).1, hK, Nat.le_refl _, fun _ => ⟨hX, hbl, Nat.not_le.mpr hbl⟩, by decide, by decide, by decide, by decide⟩
  have hl := lv_entry ([.ref b]) (n := 4) (Nat.le_of_ble_eq_true rfl)
  rw [lg_entry_eq]
  refine pv_sound l D cI cR s.heap.size b L xs f 40 pv_law _ _ hrun p e room_1 s m _ below meth c _ G ?_ s.heap [] _ ⟨fun k q h => by simp [pv_w] at h, va_S.rf, rfl⟩ (pv_en_L (z := pv_law) (as := [.retAddr 0]) (by decide) hl) rfl
  intro k n pc lv st M2 v ins len a1 a2 a3 a4
  cases a4
  intro H locs ls hH hl2 hnl
  obtain ⟨hP, hS, hk⟩ := hH
  dsimp only at hP hS hk ⊢
  unfold pv_re at a3
  split at a3
  · next hc =>
    refine va_forget (fun q hq => hS.2.2 q hq) (W.widen (k := 600000) (n := 7302250) hc.2.1 hc.2.2 ?_)
    split at a3
    · next hrt => cases hrt
    · split at a3
      · cases a3; obtain rfl : 1 = len := a2; exact lw_ret hx hb hr hlocks a1
      · cases a3
    · cases a3
    · cases a3
    · cases a3
    · cases a3
  · cases a3
