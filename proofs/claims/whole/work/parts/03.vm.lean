/-! THE PURE MACHINE: a memory of cells by number (a row of ints, a row of references, an object), locals, an operand stack; one instruction a step; a call runs the callee to its end. -/
abbrev pv_C : Type := (Nat × (Nat → Int32)) ⊕ ((Nat × Nat × (Nat → Option Nat)) ⊕ (Nat × List Value))
abbrev pv_M : Type := List pv_C
abbrev pv_Lv : Type := List (Option Value)
/-- cells and slots made, place, locals, stack, memory -/
abbrev pv_St : Type := Nat × Nat × Nat × pv_Lv × List Value × pv_M
/-- goes on; or calls (method, arguments, what stays on the stack); or returns -/
abbrev pv_Out : Type := pv_St ⊕ ((Nat × List Value × List Value) ⊕ Option Value)
def pv_ln (ins : Instr) (len : Nat) : Nat := match ins with
  | .tableswitch _ _ _ _ => len
  | .aload _ => 2
  | .iload _ => 2
  | .lload _ => 2
  | .istore _ => 2
  | .lstore _ => 2
  | .astore _ => 2
  | .bipush _ => 2
  | .ldc _ => 2
  | .newarray _ => 2
  | .sipush _ => 3
  | .ldc_w _ => 3
  | .ldc2_w _ => 3
  | .getfield _ => 3
  | .putfield _ => 3
  | .goto _ => 3
  | .if_icmp _ _ => 3
  | .ifCond _ _ => 3
  | .iinc _ _ => 3
  | .invokevirtual _ => 3
  | .invokestatic _ => 3
  | .invokespecial _ => 3
  | .new _ => 3
  | .anewarray _ => 3
  | _ => 1
def pv_gr (lv : pv_Lv) (i : Nat) : Option Value := match lv[i]? with
  | some (some (.ref a)) => some (.ref a)
  | some (some (.retAddr a)) => some (.retAddr a)
  | _ => none
def pv_gi (lv : pv_Lv) (i : Nat) : Option Int32 := match lv[i]? with
  | some (some (.int x)) => some x
  | _ => none
def pv_gl (lv : pv_Lv) (i : Nat) : Option Int64 := match lv[i]? with
  | some (some (.long x)) => some x
  | _ => none
/-- what loads and pushes -/
def pv_ld (ins : Instr) (o : Nat) (k n pc : Nat) (lv : pv_Lv) (st : List Value) (M : pv_M) : Option pv_St := match ins with
  | .aload_n i => (pv_gr lv i.val).map fun v => (k, n, pc + 1, lv, v :: st, M)
  | .aload i => (pv_gr lv i).map fun v => (k, n, pc + 2, lv, v :: st, M)
  | .iload_n i => (pv_gi lv i.val).map fun x => (k, n, pc + 1, lv, .int x :: st, M)
  | .iload i => (pv_gi lv i).map fun x => (k, n, pc + 2, lv, .int x :: st, M)
  | .lload_n i => (pv_gl lv i.val).map fun x => (k, n, pc + 1, lv, .long x :: st, M)
  | .lload i => (pv_gl lv i).map fun x => (k, n, pc + 2, lv, .long x :: st, M)
  | .iconst i => some (k, n, pc + 1, lv, .int (Int32.ofInt i) :: st, M)
  | .bipush i => some (k, n, pc + 2, lv, .int (Int8.ofInt i).toInt32 :: st, M)
  | .sipush i => some (k, n, pc + 3, lv, .int (Int16.ofInt i).toInt32 :: st, M)
  | .lconst i => some (k, n, pc + 1, lv, .long (Int64.ofNat i.val) :: st, M)
  | .ldc i => (pv_ki o i).map fun x => (k, n, pc + 2, lv, .int x :: st, M)
  | .ldc_w i => (pv_ki o i).map fun x => (k, n, pc + 3, lv, .int x :: st, M)
  | .ldc2_w i => (pv_kl o i).map fun x => (k, n, pc + 3, lv, .long x :: st, M)
  | _ => none
def pv_ok (lv : pv_Lv) (i : Nat) : Bool := decide (i < lv.length) && (match i with
  | 0 => true
  | j + 1 => match lv[j]? with
    | some (some w) => w.category == 1
    | _ => true)
def pv_s1 (lv : pv_Lv) (i : Nat) (v : Value) : Option pv_Lv := if pv_ok lv i = true then some (lv.set i (some v)) else none
def pv_s2 (lv : pv_Lv) (i : Nat) (v : Value) : Option pv_Lv := if pv_ok lv i = true ∧ i + 1 < lv.length then some ((lv.set i (some v)).set (i + 1) none) else none
/-- what stores to locals -/
def pv_so (ins : Instr) (k n pc : Nat) (lv : pv_Lv) (st : List Value) (M : pv_M) : Option pv_St := match ins, st with
  | .istore_n i, .int x :: r => (pv_s1 lv i.val (.int x)).map fun l => (k, n, pc + 1, l, r, M)
  | .istore i, .int x :: r => (pv_s1 lv i (.int x)).map fun l => (k, n, pc + 2, l, r, M)
  | .astore_n i, .ref x :: r => (pv_s1 lv i.val (.ref x)).map fun l => (k, n, pc + 1, l, r, M)
  | .astore i, .ref x :: r => (pv_s1 lv i (.ref x)).map fun l => (k, n, pc + 2, l, r, M)
  | .lstore_n i, .long x :: r => (pv_s2 lv i.val (.long x)).map fun l => (k, n, pc + 1, l, r, M)
  | .lstore i, .long x :: r => (pv_s2 lv i (.long x)).map fun l => (k, n, pc + 2, l, r, M)
  | .iinc i c, st => (pv_gi lv i).bind fun x => (pv_s1 lv i (.int (x + Int32.ofInt c))).map fun l => (k, n, pc + 3, l, st, M)
  | _, _ => none
/-- the stack: what comes of it -/
def pv_ax (ins : Instr) (st : List Value) : Option (List Value) := match ins, st with
  | .iadd, .int y :: .int x :: r => some (.int (x + y) :: r)
  | .isub, .int y :: .int x :: r => some (.int (x - y) :: r)
  | .imul, .int y :: .int x :: r => some (.int (x * y) :: r)
  | .iand, .int y :: .int x :: r => some (.int (x &&& y) :: r)
  | .ior, .int y :: .int x :: r => some (.int (x ||| y) :: r)
  | .ixor, .int y :: .int x :: r => some (.int (x ^^^ y) :: r)
  | .idiv, .int y :: .int x :: r => if y = 0 then none else some (.int (x / y) :: r)
  | .irem, .int y :: .int x :: r => if y = 0 then none else some (.int (x - x / y * y) :: r)
  | .ishl, .int y :: .int x :: r => some (.int (x <<< (y &&& 31)) :: r)
  | .ishr, .int y :: .int x :: r => some (.int (x >>> (y &&& 31)) :: r)
  | .iushr, .int y :: .int x :: r => some (.int (x.toUInt32 >>> (y.toUInt32 &&& Int32.toUInt32 31)).toInt32 :: r)
  | .ladd, .long y :: .long x :: r => some (.long (x + y) :: r)
  | .lsub, .long y :: .long x :: r => some (.long (x - y) :: r)
  | .lmul, .long y :: .long x :: r => some (.long (x * y) :: r)
  | .ldiv, .long y :: .long x :: r => if y = 0 then none else some (.long (x / y) :: r)
  | .lrem, .long y :: .long x :: r => if y = 0 then none else some (.long (x - x / y * y) :: r)
  | .lcmp, .long y :: .long x :: r => some (.int (lg_cmp x y) :: r)
  | .i2l, .int x :: r => some (.long x.toInt64 :: r)
  | .l2i, .long x :: r => some (.int x.toInt32 :: r)
  | .i2b, .int x :: r => some (.int x.toInt8.toInt32 :: r)
  | .dup, v :: r => if v.category = 1 then some (v :: v :: r) else none
  | .pop, v :: r => if v.category = 1 then some r else none
  | .dup2, v :: w :: r => if v.category = 1 ∧ w.category = 1 then some (v :: w :: v :: w :: r) else none
  | _, _ => none
def pv_al (ins : Instr) (k n pc : Nat) (lv : pv_Lv) (st : List Value) (M : pv_M) : Option pv_St := (pv_ax ins st).map fun r => (k, n, pc + 1, lv, r, M)
def pv_tg (pc : Nat) (off : Int) : Option Nat := if 0 ≤ (pc : Int) + off then some ((pc : Int) + off).toNat else none
/-- where a branch goes, and the stack then -/
def pv_bx (ins : Instr) (pc : Nat) (st : List Value) : Option (Nat × List Value) := match ins, st with
  | .goto off, r => (pv_tg pc off).map fun t => (t, r)
  | .ifCond .eq off, .int x :: r => (pv_tg pc off).map fun t => if x = 0 then (t, r) else (pc + 3, r)
  | .ifCond .ne off, .int x :: r => (pv_tg pc off).map fun t => if x = 0 then (pc + 3, r) else (t, r)
  | .ifCond .lt off, .int x :: r => (pv_tg pc off).map fun t => if x < 0 then (t, r) else (pc + 3, r)
  | .ifCond .ge off, .int x :: r => (pv_tg pc off).map fun t => if 0 ≤ x then (t, r) else (pc + 3, r)
  | .ifCond .gt off, .int x :: r => (pv_tg pc off).map fun t => if 0 < x then (t, r) else (pc + 3, r)
  | .ifCond .le off, .int x :: r => (pv_tg pc off).map fun t => if x ≤ 0 then (t, r) else (pc + 3, r)
  | .if_icmp .eq off, .int y :: .int x :: r => (pv_tg pc off).map fun t => if x = y then (t, r) else (pc + 3, r)
  | .if_icmp .ne off, .int y :: .int x :: r => (pv_tg pc off).map fun t => if x = y then (pc + 3, r) else (t, r)
  | .if_icmp .lt off, .int y :: .int x :: r => (pv_tg pc off).map fun t => if x < y then (t, r) else (pc + 3, r)
  | .if_icmp .ge off, .int y :: .int x :: r => (pv_tg pc off).map fun t => if y ≤ x then (t, r) else (pc + 3, r)
  | .if_icmp .gt off, .int y :: .int x :: r => (pv_tg pc off).map fun t => if y < x then (t, r) else (pc + 3, r)
  | .if_icmp .le off, .int y :: .int x :: r => (pv_tg pc off).map fun t => if x ≤ y then (t, r) else (pc + 3, r)
  | .tableswitch d lo hi offs, .int x :: r => if x.toInt < lo ∨ hi < x.toInt then (pv_tg pc d).map fun t => (t, r) else (offs[(x.toInt - lo).toNat]?).bind fun off => (pv_tg pc off).map fun t => (t, r)
  | _, _ => none
def pv_br (ins : Instr) (k n pc : Nat) (lv : pv_Lv) (st : List Value) (M : pv_M) : Option pv_St := (pv_bx ins pc st).map fun q => (k, n, q.1, lv, q.2, M)
def pv_in (i : Int32) (n : Nat) : Bool := !(decide (i < 0)) && decide (i.toNatClampNeg < n)
/-- may this value be put into that field by that method? -/
def pv_pt (y ci f : Nat) (v : Value) : Bool := decide (narrow (pv_ft ci f) v = v) && fits (pv_ft ci f) v && (match pv_cl[ci]? with
  | some r => decide (f < r.2.2) && (!(r.2.1 f).2.2.2 || ((r.2.1 f).2.2.2 && (decide ((pv_nm y).name = "<init>") && decide ((r.2.1 f).1 = pv_on y))))
  | none => false)
/-- fields and rows -/
def pv_me (xs : Nat → Int32) (L : Nat) (ins : Instr) (y k n pc : Nat) (lv : pv_Lv) (st : List Value) (M : pv_M) : Option pv_St := match ins, st with
  | .getfield i, .ref a :: r => match M[a]?, pv_look (pv_oc y) i with
    | some (.inr (.inr (ci, fs))), some (0, cj, f) => if ci = cj then (fs[f]?).map fun v => (k, n, pc + 3, lv, v :: r, M) else none
    | _, _ => none
  | .putfield i, v :: .ref a :: r => match M[a]?, pv_look (pv_oc y) i with
    | some (.inr (.inr (ci, fs))), some (0, cj, f) => if ci = cj ∧ pv_pt y ci f v = true ∧ f < fs.length then some (k, n, pc + 3, lv, r, M.set a (.inr (.inr (ci, fs.set f v)))) else none
    | _, _ => none
  | .iaload, .int i :: .ref a :: r => match M[a]? with
    | some (.inl (z, f)) => if pv_in i z = true then some (k, n, pc + 1, lv, .int (f i.toNatClampNeg) :: r, M) else none
    | _ => none
  | .iaload, .int i :: .retAddr _ :: r => if y = pv_law ∧ pv_in i L = true then some (k, n, pc + 1, lv, .int (xs i.toNatClampNeg) :: r, M) else none
  | .iastore, .int x :: .int i :: .ref a :: r => match M[a]? with
    | some (.inl (z, f)) => if pv_in i z = true then some (k, n, pc + 1, lv, r, M.set a (.inl (z, upd f i.toNatClampNeg x))) else none
    | _ => none
  | .aaload, .int i :: .ref a :: r => match M[a]? with
    | some (.inr (.inl (ci, z, f))) => if ci < 3 ∧ pv_in i z = true then (f i.toNatClampNeg).map fun b => (k, n, pc + 1, lv, .ref b :: r, M) else none
    | _ => none
  | .aastore, .ref b :: .int i :: .ref a :: r => match M[a]?, M[b]? with
    | some (.inr (.inl (ci, z, f))), some (.inr (.inr (cj, _))) => if ci < 3 ∧ cj = ci ∧ pv_in i z = true then some (k, n, pc + 1, lv, r, M.set a (.inr (.inl (ci, z, va_up f i.toNatClampNeg (some b))))) else none
    | _, _ => none
  | .arraylength, .ref a :: r => match M[a]? with
    | some (.inl (z, _)) => some (k, n, pc + 1, lv, .int (Int32.ofNat z) :: r, M)
    | some (.inr (.inl (ci, z, _))) => if ci < 3 then some (k, n, pc + 1, lv, .int (Int32.ofNat z) :: r, M) else none
    | _ => none
  | .arraylength, .retAddr _ :: r => if y = pv_law then some (k, n, pc + 1, lv, .int (Int32.ofNat L) :: r, M) else none
  | _, _ => none
/-- what makes cells, and the two methods of the JDK that aren't walked -/
def pv_mk (ins : Instr) (d y k n pc : Nat) (lv : pv_Lv) (st : List Value) (M : pv_M) : Option pv_St := match ins, st with
  | .new i, r => match pv_look (pv_oc y) i with
    | some (6, ci, _) => match pv_cl[ci]?, pv_df[ci]? with
      | some q, some fs => if k + 1 ≤ pv_mc y ∧ n + q.2.2 ≤ pv_ms y then some (k + 1, n + q.2.2, pc + 3, lv, .ref M.length :: r, M ++ [.inr (.inr (ci, fs))]) else none
      | _, _ => none
    | _ => none
  | .newarray .int, .int z :: r => if ¬ z < 0 ∧ z.toNatClampNeg ≤ 100000 ∧ k + 1 ≤ pv_mc y ∧ n + z.toNatClampNeg ≤ pv_ms y then some (k + 1, n + z.toNatClampNeg, pc + 2, lv, .ref M.length :: r, M ++ [.inl (z.toNatClampNeg, fun _ => 0)]) else none
  | .anewarray i, .int z :: r => match pv_look (pv_oc y) i with
    | some (6, ci, _) => if ci < 3 ∧ ¬ z < 0 ∧ z.toNatClampNeg ≤ 100000 ∧ k + 1 ≤ pv_mc y ∧ n + z.toNatClampNeg ≤ pv_ms y then some (k + 1, n + z.toNatClampNeg, pc + 3, lv, .ref M.length :: r, M ++ [.inr (.inl (ci, z.toNatClampNeg, fun _ => none))]) else none
    | _ => none
  | .invokestatic i, .int z :: .int dp :: .ref b :: .int sp :: .ref a :: r => match pv_look (pv_oc y) i, M[a]?, M[b]? with
    | some (5, _, _), some (.inl (n0, f)), some (.inl (n1, g)) => if 1 ≤ d ∧ (r.map fun v => v.category).sum ≤ 8 ∧ ¬ sp < 0 ∧ ¬ dp < 0 ∧ ¬ z < 0 ∧ sp.toNatClampNeg + z.toNatClampNeg ≤ n0 ∧ dp.toNatClampNeg + z.toNatClampNeg ≤ n1 then some (k, n, pc + 3, lv, r, M.set b (.inl (n1, va_cpy f g sp.toNatClampNeg dp.toNatClampNeg z.toNatClampNeg))) else none
    | _, _, _ => none
  | .invokestatic i, .int b :: .int a :: r => match pv_look (pv_oc y) i with
    | some (9, _, _) => if 1 ≤ d ∧ (r.map fun v => v.category).sum ≤ 8 ∧ k ≤ pv_mc y ∧ n ≤ pv_ms y then some (k, n, pc + 3, lv, .int (if b < a then b else a) :: r, M) else none
    | _ => none
  | .invokespecial i, .ref _ :: r => match pv_look (pv_oc y) i with
    | some (4, _, _) => if 1 ≤ d ∧ (r.map fun v => v.category).sum ≤ 8 then some (k, n, pc + 3, lv, r, M) else none
    | _ => none
  | _, _ => none
def pv_pl : List Value → pv_Lv
  | [] => []
  | v :: vs => if v.category = 2 then some v :: none :: pv_pl vs else some v :: pv_pl vs
/-- the locals with which a method begins -/
def pv_en (z : Nat) (as : List Value) : pv_Lv := pv_pl as ++ List.replicate (pv_ml z - (pv_pl as).length) none
def pv_fit (z y k n : Nat) (as r : List Value) : Bool := decide ((pv_pl as).length ≤ pv_ml z) && decide ((r.map fun v => v.category).sum ≤ 8) && decide (k + pv_mc z ≤ pv_mc y) && decide (n + pv_ms z ≤ pv_ms y) && !(z == pv_law)
/-- calls: method, arguments, what stays on the stack -/
def pv_ca (ins : Instr) (y k n : Nat) (st : List Value) (M : pv_M) : Option (Nat × List Value × List Value) := match ins with
  | .invokevirtual i => match pv_look (pv_oc y) i with
    | some (t, z, np) => if t = 1 ∨ t = 7 then (match st.drop np with
      | .ref a :: r => (match M[a]? with
        | some (.inr (.inr (ci, _))) => if ci = pv_oc z ∧ (st.take np).length = np ∧ pv_fit z y k n (.ref a :: (st.take np).reverse) r = true then some (z, .ref a :: (st.take np).reverse, r) else none
        | _ => none)
      | _ => none) else none
    | none => none
  | .invokestatic i => match pv_look (pv_oc y) i with
    | some (2, z, np) => if (st.take np).length = np ∧ pv_fit z y k n (st.take np).reverse (st.drop np) = true then some (z, (st.take np).reverse, st.drop np) else none
    | _ => none
  | .invokespecial i => match pv_look (pv_oc y) i with
    | some (t, z, np) => if t = 3 ∨ t = 8 then (match st.drop np with
      | .ref a :: r => if (st.take np).length = np ∧ pv_fit z y k n (.ref a :: (st.take np).reverse) r = true then some (z, .ref a :: (st.take np).reverse, r) else none
      | _ => none) else none
    | none => none
  | _ => none
def pv_re (ins : Instr) (y k n : Nat) (st : List Value) : Option (Option Value) := if (y = pv_law ∨ k = pv_mc y) ∧ k ≤ pv_mc y ∧ n ≤ pv_ms y then (match ins, st, pv_rt y with
  | .ireturn, [.int v], some .int => some (some (.int v))
  | .ireturn, [.int v], some .boolean => if narrow .boolean (.int v) = .int v then some (some (.int v)) else none
  | .lreturn, [.long v], some .long => some (some (.long v))
  | .areturn, [.ref a], some (.object _) => some (some (.ref a))
  | .return_, [], none => some none
  | _, _, _ => none) else none
def pv_one (xs : Nat → Int32) (L : Nat) (d y k n pc : Nat) (lv : pv_Lv) (st : List Value) (M : pv_M) : Option pv_Out := match decode (pv_by y) pc with
  | .ok (ins, len) => if pv_ln ins len = len then
      (match pv_ld ins (pv_oc y) k n pc lv st M with
      | some s => some (.inl s)
      | none => match pv_so ins k n pc lv st M with
        | some s => some (.inl s)
        | none => match pv_al ins k n pc lv st M with
          | some s => some (.inl s)
          | none => match pv_br ins k n pc lv st M with
            | some s => some (.inl s)
            | none => match pv_me xs L ins y k n pc lv st M with
              | some s => some (.inl s)
              | none => match pv_mk ins d y k n pc lv st M with
                | some s => some (.inl s)
                | none => match pv_ca ins y k n st M with
                  | some q => some (.inr (.inl q))
                  | none => (pv_re ins y k n st).map fun v => .inr (.inr v)) else none
  | .error _ => none
def pv_run (xs : Nat → Int32) (L : Nat) : Nat → Nat → Nat → pv_St → Option (Option Value × pv_M)
  | 0, _, _, _ => none
  | f + 1, d, y, (k, n, pc, lv, st, M) => match pv_one xs L d y k n pc lv st M with
    | none => none
    | some (.inl s) => pv_run xs L f d y s
    | some (.inr (.inr v)) => some (v, M)
    | some (.inr (.inl (z, as, r))) => match d with
      | 0 => none
      | d' + 1 => match pv_run xs L f d' z (0, 0, 0, pv_en z as, [], M) with
        | none => none
        | some (v, M1) => pv_run xs L f (d' + 1) y (k + pv_mc z, n + pv_ms z, pc + 3, lv, v.toList ++ r, M1)
theorem pv_run_mono (xs : Nat → Int32) (L : Nat) : ∀ (f f' d y : Nat) (s : pv_St) (r : Option Value × pv_M), f ≤ f' → pv_run xs L f d y s = some r → pv_run xs L f' d y s = some r := by
  intro f
  induction f with
  | zero => intro f' d y s r _ h; simp [pv_run] at h
  | succ f ih =>
    intro f' d y s r hf h
    obtain ⟨g, rfl⟩ : ∃ g, f' = g + 1 := ⟨f' - 1, by omega⟩
    obtain ⟨k, n, pc, lv, st, M⟩ := s
    have hg : f ≤ g := by omega
    unfold pv_run at h ⊢
    cases ho : pv_one xs L d y k n pc lv st M with
    | none => rw [ho] at h; cases h
    | some o =>
      rw [ho] at h
      rcases o with s' | ⟨z, as, r'⟩ | v
      · exact ih g d y s' r hg h
      · cases d with
        | zero => cases h
        | succ d' =>
          dsimp only at h ⊢
          cases hc : pv_run xs L f d' z (0, 0, 0, pv_en z as, [], M) with
          | none => rw [hc] at h; cases h
          | some q =>
            rw [hc] at h
            rw [ih g d' z _ q hg hc]
            exact ih g _ y _ r hg h
      · exact h
