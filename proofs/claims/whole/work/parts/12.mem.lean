/-! the memory by its ints: s for the class's cells (below 94), T for the model's (from 94 on) and the model's one long -/
abbrev pv_F : Type := Nat → Nat → Int32
abbrev pv_T : Type := pv_F × Int64
def pv_up (s : pv_F) (a j : Nat) (x : Int32) : pv_F := fun c => if c = a then upd (s a) j x else s c
def pv_upf (s : pv_F) (a : Nat) (f : Nat → Int32) : pv_F := fun c => if c = a then f else s c
def pv_fl (f : Nat → Int32) (h : Int64) : Nat → List Value → List Value
  | _, [] => []
  | j, v :: r => (match v with
    | .int _ => .int (f j)
    | .long _ => .long h
    | w => w) :: pv_fl f h (j + 1) r
def pv_fill (f : Nat → Int32) (h : Int64) : pv_Sh → pv_C
  | .inl n => .inl (n, f)
  | .inr (.inl q) => .inr (.inl q)
  | .inr (.inr (ci, fs)) => .inr (.inr (ci, pv_fl f h 0 fs))
def pv_fn (s : pv_F) (T : pv_T) (a : Nat) : Nat → Int32 := if a < 94 then s a else T.1 a
def pv_mkl (s : pv_F) (T : pv_T) : Nat → List pv_Sh → pv_M
  | _, [] => []
  | k, sh :: r => pv_fill (pv_fn s T k) T.2 sh :: pv_mkl s T (k + 1) r
def pv_mm (s : pv_F) (T : pv_T) : pv_M := pv_mkl s T 0 pv_shp
section MEM
variable {s : pv_F} {T : pv_T}
theorem pv_mkl_get : ∀ (l : List pv_Sh) (k i : Nat), (pv_mkl s T k l)[i]? = (l[i]?).map (fun sh => pv_fill (pv_fn s T (k + i)) T.2 sh) := by
  intro l
  induction l with
  | nil => intro k i; simp [pv_mkl]
  | cons sh l ih =>
    intro k i
    cases i with
    | zero => simp [pv_mkl]
    | succ i =>
      simp only [pv_mkl, List.getElem?_cons_succ]
      rw [ih (k + 1) i, show k + 1 + i = k + (i + 1) by omega]
theorem pv_mm_get (a : Nat) : (pv_mm s T)[a]? = (pv_shp[a]?).map (fun sh => pv_fill (pv_fn s T a) T.2 sh) := by
  unfold pv_mm
  rw [pv_mkl_get, Nat.zero_add]
theorem pv_mm_at {a : Nat} {sh : pv_Sh} (h : pv_shp[a]? = some sh) : (pv_mm s T)[a]? = some (pv_fill (pv_fn s T a) T.2 sh) := by rw [pv_mm_get, h]; rfl
theorem pv_mkl_len : ∀ (l : List pv_Sh) (k : Nat), (pv_mkl s T k l).length = l.length := by
  intro l
  induction l with
  | nil => intro k; rfl
  | cons sh l ih => intro k; simp only [pv_mkl, List.length_cons, ih]
theorem pv_fl_get {f : Nat → Int32} {h : Int64} : ∀ (fs : List Value) (k j : Nat), (pv_fl f h k fs)[j]? = (fs[j]?).map (fun v => match v with
    | .int _ => .int (f (k + j))
    | .long _ => .long h
    | w => w) := by
  intro fs
  induction fs with
  | nil => intro k j; simp [pv_fl]
  | cons v fs ih =>
    intro k j
    cases j with
    | zero => simp [pv_fl]
    | succ j =>
      simp only [pv_fl, List.getElem?_cons_succ]
      rw [ih (k + 1) j, show k + 1 + j = k + (j + 1) by omega]
theorem pv_fl_len {f : Nat → Int32} {h : Int64} : ∀ (fs : List Value) (k : Nat), (pv_fl f h k fs).length = fs.length := by
  intro fs
  induction fs with
  | nil => intro k; rfl
  | cons v fs ih => intro k; simp only [pv_fl, List.length_cons, ih]
theorem pv_fl_int {f : Nat → Int32} {h : Int64} {fs : List Value} {j : Nat} {z : Int32} (hj : fs[j]? = some (.int z)) : (pv_fl f h 0 fs)[j]? = some (.int (f j)) := by rw [pv_fl_get, hj, Nat.zero_add]; rfl
theorem pv_fl_ref {f : Nat → Int32} {h : Int64} {fs : List Value} {j b : Nat} (hj : fs[j]? = some (.ref b)) : (pv_fl f h 0 fs)[j]? = some (.ref b) := by rw [pv_fl_get, hj]; rfl
theorem pv_fl_long {f : Nat → Int32} {h : Int64} {fs : List Value} {j : Nat} {z : Int64} (hj : fs[j]? = some (.long z)) : (pv_fl f h 0 fs)[j]? = some (.long h) := by rw [pv_fl_get, hj]; rfl
theorem pv_fl_set {f : Nat → Int32} {h : Int64} {fs : List Value} {j : Nat} {x z : Int32} (hj : fs[j]? = some (.int z)) : (pv_fl f h 0 fs).set j (.int x) = pv_fl (upd f j x) h 0 fs := by
  apply List.ext_getElem?
  intro i
  have hl := (List.getElem?_eq_some_iff.mp hj).1
  rw [List.getElem?_set, pv_fl_get, pv_fl_get, pv_fl_len]
  by_cases hi : j = i
  · subst hi
    rw [if_pos rfl, if_pos hl, hj]
    simp [upd]
  · rw [if_neg hi]
    cases hv : fs[i]? with
    | none => rfl
    | some v =>
      have h2 : ¬ i = j := fun e => hi e.symm
      cases v <;> simp [upd, h2]
/-- only one field is a long, so putting it puts the model's long -/
theorem pv_mm_ext {M : pv_M} {s' : pv_F} {T' : pv_T} (h : ∀ i : Nat, M[i]? = (pv_shp[i]?).map (fun sh => pv_fill (pv_fn s' T' i) T'.2 sh)) : M = pv_mm s' T' := by
  apply List.ext_getElem?
  intro i
  rw [h, pv_mm_get]
theorem pv_set_c {a : Nat} {sh : pv_Sh} {f : Nat → Int32} (ha : a < 94) (hs : pv_shp[a]? = some sh) : (pv_mm s T).set a (pv_fill f T.2 sh) = pv_mm (pv_upf s a f) T := by
  apply pv_mm_ext
  intro i
  have hl : (pv_mm s T).length = pv_shp.length := pv_mkl_len _ _
  rw [List.getElem?_set, pv_mm_get]
  by_cases hi : a = i
  · subst hi
    rw [if_pos rfl, if_pos (by rw [hl]; exact (List.getElem?_eq_some_iff.mp hs).1), hs]
    simp [pv_fn, ha, pv_upf]
  · rw [if_neg hi]
    have h2 : ¬ i = a := fun e => hi e.symm
    congr 1
    funext sh
    simp [pv_fn, pv_upf, h2]
theorem pv_set_m {a : Nat} {sh : pv_Sh} {f : Nat → Int32} (ha : 94 ≤ a) (hs : pv_shp[a]? = some sh) : (pv_mm s T).set a (pv_fill f T.2 sh) = pv_mm s (pv_upf T.1 a f, T.2) := by
  apply pv_mm_ext
  intro i
  have hl : (pv_mm s T).length = pv_shp.length := pv_mkl_len _ _
  have ha' : ¬ a < 94 := by omega
  rw [List.getElem?_set, pv_mm_get]
  by_cases hi : a = i
  · subst hi
    rw [if_pos rfl, if_pos (by rw [hl]; exact (List.getElem?_eq_some_iff.mp hs).1), hs]
    simp [pv_fn, ha', pv_upf]
  · rw [if_neg hi]
    have h2 : ¬ i = a := fun e => hi e.symm
    congr 1
    funext sh
    simp [pv_fn, pv_upf, h2]
theorem pv_fn_c {a : Nat} (ha : a < 94) : pv_fn s T a = s a := by simp [pv_fn, ha]
theorem pv_fn_m {a : Nat} (ha : 94 ≤ a) : pv_fn s T a = T.1 a := by
  have : ¬ a < 94 := by omega
  simp [pv_fn, this]
theorem pv_up_eq (s : pv_F) (a j : Nat) (x : Int32) : pv_upf s a (upd (s a) j x) = pv_up s a j x := rfl
end MEM
/-- a row's int, if there is such a place -/
def pv_rd (s : pv_F) (a z : Nat) (i : Int32) : Option Int32 := if pv_in i z = true then some (s a i.toNatClampNeg) else none
def pv_wr (s : pv_F) (a z : Nat) (i x : Int32) : Option pv_F := if pv_in i z = true then some (pv_up s a i.toNatClampNeg x) else none
def pv_wm (T : pv_T) (a z : Nat) (i x : Int32) : Option pv_T := if pv_in i z = true then some (pv_up T.1 a i.toNatClampNeg x, T.2) else none
def pv_pf (s : pv_F) (a j : Nat) (x : Int32) : Option pv_F := some (pv_up s a j x)
def pv_pm (T : pv_T) (a j : Nat) (x : Int32) : Option pv_T := some (pv_up T.1 a j x, T.2)
def pv_plg (T : pv_T) (x : Int64) : Option pv_T := some (T.1, x)
def pv_dv (x y : Int32) : Option Int32 := if y = 0 then none else some (x / y)
def pv_rmd (x y : Int32) : Option Int32 := if y = 0 then none else some (x - x / y * y)
def pv_ldv (x y : Int64) : Option Int64 := if y = 0 then none else some (x / y)
def pv_lrm (x y : Int64) : Option Int64 := if y = 0 then none else some (x - x / y * y)
/-- the cell that a row of references holds -/
def pv_ra (a z : Nat) (i : Int32) : Option Nat := if pv_in i z = true then (match pv_shp[a]? with
  | some (.inr (.inl (_, _, f))) => f i.toNatClampNeg
  | _ => none) else none
def pv_cy (s : pv_F) (a za b zb : Nat) (sp dp z : Int32) : Option pv_F := if ¬ sp < 0 ∧ ¬ dp < 0 ∧ ¬ z < 0 ∧ sp.toNatClampNeg + z.toNatClampNeg ≤ za ∧ dp.toNatClampNeg + z.toNatClampNeg ≤ zb then some (pv_upf s b (va_cpy (s a) (s b) sp.toNatClampNeg dp.toNatClampNeg z.toNatClampNeg)) else none
def pv_bl (v : Int32) : Option Int32 := if narrow .boolean (.int v) = .int v then some v else none
/-- a loop, and one out of which a method may return -/
def pv_lq {S : Type} (B : S → Option (S ⊕ S)) : Nat → S → Option S
  | 0, _ => none
  | n + 1, s => match B s with
    | some (.inl s') => pv_lq B n s'
    | some (.inr e) => some e
    | none => none
def pv_lp {S R : Type} (B : S → Option (S ⊕ (S ⊕ R))) : Nat → S → Option (S ⊕ R)
  | 0, _ => none
  | n + 1, s => match B s with
    | some (.inl s') => pv_lp B n s'
    | some (.inr o) => some o
    | none => none
def pv_Kq {S : Type} (H X : S → Prop) : S ⊕ S → Prop
  | .inl s => H s
  | .inr e => X e
def pv_Kp {S R : Type} (H X : S → Prop) (Z : R → Prop) : S ⊕ (S ⊕ R) → Prop
  | .inl s => H s
  | .inr (.inl e) => X e
  | .inr (.inr q) => Z q
def pv_Kx {S R : Type} (X : S → Prop) (Z : R → Prop) : S ⊕ R → Prop
  | .inl e => X e
  | .inr q => Z q
theorem pv_lq_ok {S : Type} {B : S → Option (S ⊕ S)} {H X : S → Prop} (hB : ∀ s o, B s = some o → pv_Kq H X o → H s) : ∀ (n : Nat) (s e : S), pv_lq B n s = some e → X e → H s := by
  intro n
  induction n with
  | zero => intro s e h; cases h
  | succ n ih =>
    intro s e h hX
    unfold pv_lq at h
    split at h
    · next s' hs => exact hB s _ hs (ih s' e h hX)
    · next e' hs => cases h; exact hB s _ hs hX
    · cases h
theorem pv_lp_ok {S R : Type} {B : S → Option (S ⊕ (S ⊕ R))} {H X : S → Prop} {Z : R → Prop} (hB : ∀ s o, B s = some o → pv_Kp H X Z o → H s) : ∀ (n : Nat) (s : S) (o : S ⊕ R), pv_lp B n s = some o → pv_Kx X Z o → H s := by
  intro n
  induction n with
  | zero => intro s o h; cases h
  | succ n ih =>
    intro s o h hX
    unfold pv_lp at h
    split at h
    · next s' hs => exact hB s _ hs (ih s' o h hX)
    · next e' hs =>
      obtain rfl : e' = o := Option.some.inj h
      refine hB s _ hs ?_
      cases e' <;> exact hX
    · cases h
section EM
variable {xs : Nat → Int32} {L d y k n pc pc' len i j ci a b z : Nat} {lv : pv_Lv} {st rs : List Value} {M M1 : pv_M} {t t' : pv_St} {r : Option Value × pv_M} {ins : Instr} {v : Option Value} {as : List Value} {s : pv_F} {T : pv_T} {fs : List Value} {x : Int32}
theorem pv_one_me (hd : decode (pv_by y) pc = .ok (ins, len)) (hln : pv_ln ins len = len) (h1 : pv_b1 ins (pv_oc y) k n pc lv st M = none) (h : pv_me xs L ins y k n pc lv st M = some t) : pv_one xs L d y k n pc lv st M = some (.inl t) := by
  unfold pv_one
  rw [hd]
  dsimp only
  rw [if_pos hln]
  unfold pv_b1 at h1
  split at h1
  · cases h1
  · next e1 =>
    rw [e1]
    split at h1
    · cases h1
    · next e2 =>
      rw [e2]
      split at h1
      · cases h1
      · next e3 => rw [e3, h1, h]
theorem pv_dk1 (h : pv_dk y [(pc, ins, len)] = true) : decode (pv_by y) pc = .ok (ins, len) ∧ pv_ln ins len = len := by
  unfold pv_dk at h
  simp only [List.all_cons, List.all_nil, Bool.and_true, Bool.and_eq_true, decide_eq_true_eq] at h
  exact h
def pv_okg (y pc i ci j : Nat) : Bool := pv_dk y [(pc, .getfield i, 3)] && decide (pv_look (pv_oc y) i = some (0, ci, j))
theorem pv_gf {w : Value} (ho : pv_okg y pc i ci j = true) (hM : M[a]? = some (.inr (.inr (ci, fs)))) (hj : fs[j]? = some w) (hp : pc + 3 = pc') (kk : pv_Ev xs L d y (k, n, pc', lv, w :: st, M) r) : pv_Ev xs L d y (k, n, pc, lv, .ref a :: st, M) r := by
  subst hp
  unfold pv_okg at ho
  rw [Bool.and_eq_true] at ho
  obtain ⟨h1, h2⟩ := pv_dk1 ho.1
  have h3 := of_decide_eq_true ho.2
  exact pv_Ev.next (pv_one_me h1 h2 rfl (by simp only [pv_me, hM, h3, if_true, hj]; rfl)) kk
/-- a field that is a cell -/
theorem pv_e_gr (ho : pv_okg y pc i ci j = true) (hs : pv_shp[a]? = some (.inr (.inr (ci, fs)))) (hj : fs[j]? = some (.ref b)) (hp : pc + 3 = pc') (kk : pv_Ev xs L d y (k, n, pc', lv, .ref b :: st, pv_mm s T) r) : pv_Ev xs L d y (k, n, pc, lv, .ref a :: st, pv_mm s T) r :=
  pv_gf ho (pv_mm_at hs) (pv_fl_ref hj) hp kk
/-- a field that is an int -/
theorem pv_e_gc {zz : Int32} (ho : pv_okg y pc i ci j = true) (ha : a < 94) (hs : pv_shp[a]? = some (.inr (.inr (ci, fs)))) (hj : fs[j]? = some (.int zz)) (hp : pc + 3 = pc') (kk : pv_Ev xs L d y (k, n, pc', lv, .int (s a j) :: st, pv_mm s T) r) : pv_Ev xs L d y (k, n, pc, lv, .ref a :: st, pv_mm s T) r := by
  refine pv_gf ho (pv_mm_at hs) (pv_fl_int hj) hp ?_
  rw [pv_fn_c ha]
  exact kk
theorem pv_e_gm {zz : Int32} (ho : pv_okg y pc i ci j = true) (ha : 94 ≤ a) (hs : pv_shp[a]? = some (.inr (.inr (ci, fs)))) (hj : fs[j]? = some (.int zz)) (hp : pc + 3 = pc') (kk : pv_Ev xs L d y (k, n, pc', lv, .int (T.1 a j) :: st, pv_mm s T) r) : pv_Ev xs L d y (k, n, pc, lv, .ref a :: st, pv_mm s T) r := by
  refine pv_gf ho (pv_mm_at hs) (pv_fl_int hj) hp ?_
  rw [pv_fn_m ha]
  exact kk
theorem pv_e_gl {zz : Int64} (ho : pv_okg y pc i ci j = true) (hs : pv_shp[a]? = some (.inr (.inr (ci, fs)))) (hj : fs[j]? = some (.long zz)) (hp : pc + 3 = pc') (kk : pv_Ev xs L d y (k, n, pc', lv, .long T.2 :: st, pv_mm s T) r) : pv_Ev xs L d y (k, n, pc, lv, .ref a :: st, pv_mm s T) r :=
  pv_gf ho (pv_mm_at hs) (pv_fl_long hj) hp kk
def pv_okp (y pc i ci j : Nat) : Bool := pv_dk y [(pc, .putfield i, 3)] && decide (pv_look (pv_oc y) i = some (0, ci, j)) && (match pv_cl[ci]? with
  | some r => decide (j < r.2.2) && !(r.2.1 j).2.2.2
  | none => false)
theorem pv_b1_put {u w : Value} : pv_b1 (.putfield i) (pv_oc y) k n pc lv (u :: w :: st) M = none := rfl
theorem pv_pfd {w : Value} {fs' : List Value} (ho : pv_okp y pc i ci j = true) (hn : narrow (pv_ft ci j) w = w) (hf : fits (pv_ft ci j) w = true) (hM : M[a]? = some (.inr (.inr (ci, fs)))) (hl : j < fs.length) (hp : pc + 3 = pc') (hM1 : M.set a (.inr (.inr (ci, fs.set j w))) = M1) (kk : pv_Ev xs L d y (k, n, pc', lv, st, M1) r) : pv_Ev xs L d y (k, n, pc, lv, w :: .ref a :: st, M) r := by
  subst hp
  subst hM1
  unfold pv_okp at ho
  rw [Bool.and_eq_true, Bool.and_eq_true] at ho
  obtain ⟨⟨ho1, ho2⟩, ho3⟩ := ho
  obtain ⟨h1, h2⟩ := pv_dk1 ho1
  have h3 := of_decide_eq_true ho2
  have h4 : pv_pt y ci j w = true := by
    unfold pv_pt
    split at ho3
    · next r hr =>
      rw [hr]
      rw [Bool.and_eq_true] at ho3
      simp only [hn, hf, ho3.1, ho3.2, decide_true, Bool.true_and, Bool.true_or]
    · cases ho3
  exact pv_Ev.next (pv_one_me h1 h2 pv_b1_put (by simp only [pv_me, hM, h3, h4, hl, and_self, if_true])) kk
theorem pv_e_pc {zz : Int32} (ho : pv_okp y pc i ci j = true) (hn : narrow (pv_ft ci j) (.int x) = .int x) (hf : fits (pv_ft ci j) (.int x) = true) (ha : a < 94) (hs : pv_shp[a]? = some (.inr (.inr (ci, fs)))) (hj : fs[j]? = some (.int zz)) (hp : pc + 3 = pc') (kk : pv_Ev xs L d y (k, n, pc', lv, st, pv_mm (pv_up s a j x) T) r) : pv_Ev xs L d y (k, n, pc, lv, .int x :: .ref a :: st, pv_mm s T) r := by
  refine pv_pfd (fs' := []) ho hn hf (pv_mm_at hs) (by rw [pv_fl_len]; exact (List.getElem?_eq_some_iff.mp hj).1) hp ?_ kk
  rw [pv_fl_set hj, ← pv_up_eq, ← pv_set_c ha hs, pv_fn_c ha]
  rfl
theorem pv_e_pm {zz : Int32} (ho : pv_okp y pc i ci j = true) (hn : narrow (pv_ft ci j) (.int x) = .int x) (hf : fits (pv_ft ci j) (.int x) = true) (ha : 94 ≤ a) (hs : pv_shp[a]? = some (.inr (.inr (ci, fs)))) (hj : fs[j]? = some (.int zz)) (hp : pc + 3 = pc') (kk : pv_Ev xs L d y (k, n, pc', lv, st, pv_mm s (pv_up T.1 a j x, T.2)) r) : pv_Ev xs L d y (k, n, pc, lv, .int x :: .ref a :: st, pv_mm s T) r := by
  refine pv_pfd (fs' := []) ho hn hf (pv_mm_at hs) (by rw [pv_fl_len]; exact (List.getElem?_eq_some_iff.mp hj).1) hp ?_ kk
  rw [pv_fl_set hj, ← pv_up_eq, ← pv_set_m ha hs, pv_fn_m ha]
  rfl
/-- rows of ints -/
theorem pv_e_rc {zz : Nat} {q : Int32} (hd : pv_dk y [(pc, .iaload, 1)] = true) (ha : a < 94) (hs : pv_shp[a]? = some (.inl zz)) (hr : pv_rd s a zz x = some q) (hp : pc + 1 = pc') (kk : pv_Ev xs L d y (k, n, pc', lv, .int q :: st, pv_mm s T) r) : pv_Ev xs L d y (k, n, pc, lv, .int x :: .ref a :: st, pv_mm s T) r := by
  subst hp
  obtain ⟨h1, h2⟩ := pv_dk1 hd
  have hM := pv_mm_at (s := s) (T := T) hs
  unfold pv_rd at hr
  split at hr
  · next hi =>
    cases hr
    refine pv_Ev.next (pv_one_me h1 h2 rfl (by simp only [pv_me, hM, pv_fill, hi, if_true]; rfl)) ?_
    rw [pv_fn_c ha]
    exact kk
  · cases hr
theorem pv_e_rm {zz : Nat} {q : Int32} (hd : pv_dk y [(pc, .iaload, 1)] = true) (ha : 94 ≤ a) (hs : pv_shp[a]? = some (.inl zz)) (hr : pv_rd T.1 a zz x = some q) (hp : pc + 1 = pc') (kk : pv_Ev xs L d y (k, n, pc', lv, .int q :: st, pv_mm s T) r) : pv_Ev xs L d y (k, n, pc, lv, .int x :: .ref a :: st, pv_mm s T) r := by
  subst hp
  obtain ⟨h1, h2⟩ := pv_dk1 hd
  have hM := pv_mm_at (s := s) (T := T) hs
  unfold pv_rd at hr
  split at hr
  · next hi =>
    cases hr
    refine pv_Ev.next (pv_one_me h1 h2 rfl (by simp only [pv_me, hM, pv_fill, hi, if_true]; rfl)) ?_
    rw [pv_fn_m ha]
    exact kk
  · cases hr
theorem pv_e_wc {zz : Nat} {q : Int32} {s' : pv_F} (hd : pv_dk y [(pc, .iastore, 1)] = true) (ha : a < 94) (hs : pv_shp[a]? = some (.inl zz)) (hr : pv_wr s a zz x q = some s') (hp : pc + 1 = pc') (kk : pv_Ev xs L d y (k, n, pc', lv, st, pv_mm s' T) r) : pv_Ev xs L d y (k, n, pc, lv, .int q :: .int x :: .ref a :: st, pv_mm s T) r := by
  subst hp
  obtain ⟨h1, h2⟩ := pv_dk1 hd
  have hM := pv_mm_at (s := s) (T := T) hs
  unfold pv_wr at hr
  split at hr
  · next hi =>
    cases hr
    refine pv_Ev.next (pv_one_me h1 h2 rfl (by simp only [pv_me, hM, pv_fill, hi, if_true]; rfl)) ?_
    rw [pv_fn_c ha, show (Sum.inl (zz, upd (s a) x.toNatClampNeg q) : pv_C) = pv_fill (upd (s a) x.toNatClampNeg q) T.2 (.inl zz) from rfl, pv_set_c ha hs]
    exact kk
  · cases hr
theorem pv_e_wm {zz : Nat} {q : Int32} {T' : pv_T} (hd : pv_dk y [(pc, .iastore, 1)] = true) (ha : 94 ≤ a) (hs : pv_shp[a]? = some (.inl zz)) (hr : pv_wm T a zz x q = some T') (hp : pc + 1 = pc') (kk : pv_Ev xs L d y (k, n, pc', lv, st, pv_mm s T') r) : pv_Ev xs L d y (k, n, pc, lv, .int q :: .int x :: .ref a :: st, pv_mm s T) r := by
  subst hp
  obtain ⟨h1, h2⟩ := pv_dk1 hd
  have hM := pv_mm_at (s := s) (T := T) hs
  unfold pv_wm at hr
  split at hr
  · next hi =>
    cases hr
    refine pv_Ev.next (pv_one_me h1 h2 rfl (by simp only [pv_me, hM, pv_fill, hi, if_true]; rfl)) ?_
    rw [pv_fn_m ha, show (Sum.inl (zz, upd (T.1 a) x.toNatClampNeg q) : pv_C) = pv_fill (upd (T.1 a) x.toNatClampNeg q) T.2 (.inl zz) from rfl, pv_set_m ha hs]
    exact kk
  · cases hr
/-- rows of cells -/
theorem pv_e_ra {zz : Nat} {f : Nat → Option Nat} {q : Nat} (hd : pv_dk y [(pc, .aaload, 1)] = true) (hs : pv_shp[a]? = some (.inr (.inl (ci, zz, f)))) (hc : ci < 3) (hr : pv_ra a zz x = some q) (hp : pc + 1 = pc') (kk : pv_Ev xs L d y (k, n, pc', lv, .ref q :: st, pv_mm s T) r) : pv_Ev xs L d y (k, n, pc, lv, .int x :: .ref a :: st, pv_mm s T) r := by
  subst hp
  obtain ⟨h1, h2⟩ := pv_dk1 hd
  have hM := pv_mm_at (s := s) (T := T) hs
  unfold pv_ra at hr
  split at hr
  · next hi =>
    rw [hs] at hr
    dsimp only at hr
    refine pv_Ev.next (pv_one_me h1 h2 rfl (by simp only [pv_me, hM, pv_fill, hc, hi, and_self, if_true, hr]; rfl)) kk
  · cases hr
end EM
