-- printed by wip/whole/gen/parts.py: methods as functions over the ints of the memory, and that the pure machine runs so
def f27_has (o : Nat) (x1 : Int32) (s : pv_F) : Option (Int32) :=
  ((
    if x1 < 0 then
      some (0:Int32)
    else
      if (s o 2) ≤ x1 then
        some (0:Int32)
      else
        some (1:Int32)) : Option (Int32)).bind fun t1 =>
  (pv_bl t1).bind fun q2 => some q2
theorem ee27 {xs : Nat → Int32} {L : Nat} (d : Nat) (o : Nat) (x1 : Int32) {s : pv_F} {T : pv_T} {q : Int32} (g0 : o ∈ pv_rows) (h : f27_has o x1 s = some q) : pv_Ev xs L (d + 0) 27 (0, 0, 0, [some (.ref o), some (.int x1)], [], pv_mm s T) (some (.int q), pv_mm s T) := by
  generalize hr : ((some (.int q), pv_mm s T) : Option Value × pv_M) = r
  unfold f27_has at h
  refine pv_e_bk (ps := [(0, .iload_n 1, 1)]) (t' := (0, 0, 1, [some (.ref o), some (.int x1)], [.int x1], pv_mm s T)) (by decide +kernel) rfl ?_
  obtain ⟨t1, hv4, h⟩ := Option.bind_eq_some_iff.mp h
  have hJ5 : pv_Ev xs L (d + 0) 27 (0, 0, 17, [some (.ref o), some (.int x1)], [.int t1], pv_mm s T) r := by
    obtain ⟨q2, e3, h⟩ := Option.bind_eq_some_iff.mp h
    obtain rfl := Option.some.inj h
    cases hr
    exact pv_e_rz (by decide +kernel) e3
  clear h
  have h := hv4
  clear hv4
  refine pv_e_iflt (off := 15) (b := 16) (pc' := 4) (by decide +kernel) (by decide +kernel) rfl (fun c6 => ?_) (fun c6 => ?_)
  · rw [if_pos c6] at h
    refine pv_e_bk (ps := [(16, .iconst 0, 1)]) (t' := (0, 0, 17, [some (.ref o), some (.int x1)], [.int (0:Int32)], pv_mm s T)) (by decide +kernel) rfl ?_
    obtain rfl := Option.some.inj h
    exact hJ5
  · rw [if_neg c6] at h
    refine pv_e_bk (ps := [(4, .iload_n 1, 1), (5, .aload_n 0, 1)]) (t' := (0, 0, 6, [some (.ref o), some (.int x1)], [.ref o, .int x1], pv_mm s T)) (by decide +kernel) rfl ?_
    refine pv_e_gc (i := 15) (ci := 2) (j := 2) (pc' := 9) (by decide +kernel) (by have := (rw_ g0).2.2; omega) (rw_ g0).1 rfl rfl ?_
    refine pv_e_icmpge (off := 7) (b := 16) (pc' := 12) (by decide +kernel) (by decide +kernel) rfl (fun c7 => ?_) (fun c7 => ?_)
    · rw [if_pos c7] at h
      refine pv_e_bk (ps := [(16, .iconst 0, 1)]) (t' := (0, 0, 17, [some (.ref o), some (.int x1)], [.int (0:Int32)], pv_mm s T)) (by decide +kernel) rfl ?_
      obtain rfl := Option.some.inj h
      exact hJ5
    · rw [if_neg c7] at h
      refine pv_e_bk (ps := [(12, .iconst 1, 1), (13, .goto 4, 3)]) (t' := (0, 0, 17, [some (.ref o), some (.int x1)], [.int (1:Int32)], pv_mm s T)) (by decide +kernel) rfl ?_
      obtain rfl := Option.some.inj h
      exact hJ5
def f28_hasRun (o : Nat) (x1 : Int32) (x2 : Int32) (s : pv_F) : Option (Int32) :=
  ((
    if x1 < 0 then
      some (0:Int32)
    else
      if (s o 2) < x1 then
        some (0:Int32)
      else
        if ((s o 2) - x1) < x2 then
          some (0:Int32)
        else
          some (1:Int32)) : Option (Int32)).bind fun t1 =>
  (pv_bl t1).bind fun q2 => some q2
theorem ee28 {xs : Nat → Int32} {L : Nat} (d : Nat) (o : Nat) (x1 : Int32) (x2 : Int32) {s : pv_F} {T : pv_T} {q : Int32} (g0 : o ∈ pv_rows) (h : f28_hasRun o x1 x2 s = some q) : pv_Ev xs L (d + 0) 28 (0, 0, 0, [some (.ref o), some (.int x1), some (.int x2)], [], pv_mm s T) (some (.int q), pv_mm s T) := by
  generalize hr : ((some (.int q), pv_mm s T) : Option Value × pv_M) = r
  unfold f28_hasRun at h
  refine pv_e_bk (ps := [(0, .iload_n 1, 1)]) (t' := (0, 0, 1, [some (.ref o), some (.int x1), some (.int x2)], [.int x1], pv_mm s T)) (by decide +kernel) rfl ?_
  obtain ⟨t1, hv4, h⟩ := Option.bind_eq_some_iff.mp h
  have hJ5 : pv_Ev xs L (d + 0) 28 (0, 0, 27, [some (.ref o), some (.int x1), some (.int x2)], [.int t1], pv_mm s T) r := by
    obtain ⟨q2, e3, h⟩ := Option.bind_eq_some_iff.mp h
    obtain rfl := Option.some.inj h
    cases hr
    exact pv_e_rz (by decide +kernel) e3
  clear h
  have h := hv4
  clear hv4
  refine pv_e_iflt (off := 25) (b := 26) (pc' := 4) (by decide +kernel) (by decide +kernel) rfl (fun c6 => ?_) (fun c6 => ?_)
  · rw [if_pos c6] at h
    refine pv_e_bk (ps := [(26, .iconst 0, 1)]) (t' := (0, 0, 27, [some (.ref o), some (.int x1), some (.int x2)], [.int (0:Int32)], pv_mm s T)) (by decide +kernel) rfl ?_
    obtain rfl := Option.some.inj h
    exact hJ5
  · rw [if_neg c6] at h
    refine pv_e_bk (ps := [(4, .iload_n 1, 1), (5, .aload_n 0, 1)]) (t' := (0, 0, 6, [some (.ref o), some (.int x1), some (.int x2)], [.ref o, .int x1], pv_mm s T)) (by decide +kernel) rfl ?_
    refine pv_e_gc (i := 15) (ci := 2) (j := 2) (pc' := 9) (by decide +kernel) (by have := (rw_ g0).2.2; omega) (rw_ g0).1 rfl rfl ?_
    refine pv_e_icmpgt (off := 17) (b := 26) (pc' := 12) (by decide +kernel) (by decide +kernel) rfl (fun c7 => ?_) (fun c7 => ?_)
    · rw [if_pos c7] at h
      refine pv_e_bk (ps := [(26, .iconst 0, 1)]) (t' := (0, 0, 27, [some (.ref o), some (.int x1), some (.int x2)], [.int (0:Int32)], pv_mm s T)) (by decide +kernel) rfl ?_
      obtain rfl := Option.some.inj h
      exact hJ5
    · rw [if_neg c7] at h
      refine pv_e_bk (ps := [(12, .iload_n 2, 1), (13, .aload_n 0, 1)]) (t' := (0, 0, 14, [some (.ref o), some (.int x1), some (.int x2)], [.ref o, .int x2], pv_mm s T)) (by decide +kernel) rfl ?_
      refine pv_e_gc (i := 15) (ci := 2) (j := 2) (pc' := 17) (by decide +kernel) (by have := (rw_ g0).2.2; omega) (rw_ g0).1 rfl rfl ?_
      refine pv_e_bk (ps := [(17, .iload_n 1, 1), (18, .isub, 1)]) (t' := (0, 0, 19, [some (.ref o), some (.int x1), some (.int x2)], [.int ((s o 2) - x1), .int x2], pv_mm s T)) (by decide +kernel) rfl ?_
      refine pv_e_icmpgt (off := 7) (b := 26) (pc' := 22) (by decide +kernel) (by decide +kernel) rfl (fun c8 => ?_) (fun c8 => ?_)
      · rw [if_pos c8] at h
        refine pv_e_bk (ps := [(26, .iconst 0, 1)]) (t' := (0, 0, 27, [some (.ref o), some (.int x1), some (.int x2)], [.int (0:Int32)], pv_mm s T)) (by decide +kernel) rfl ?_
        obtain rfl := Option.some.inj h
        exact hJ5
      · rw [if_neg c8] at h
        refine pv_e_bk (ps := [(22, .iconst 1, 1), (23, .goto 4, 3)]) (t' := (0, 0, 27, [some (.ref o), some (.int x1), some (.int x2)], [.int (1:Int32)], pv_mm s T)) (by decide +kernel) rfl ?_
        obtain rfl := Option.some.inj h
        exact hJ5
def f29_sum_b1 (v0 : Nat) (s : pv_F) (st : Int64 × Int32) : Option ((Int64 × Int32) ⊕ (Int64 × Int32)) := match st with
  | (v1, v3) =>
    if (s v0 2) ≤ v3 then
      some (.inr (v1, v3))
    else
      (pv_rd s (v0 + 1) (pv_an (v0 + 1)) v3).bind fun q2 =>
      some (.inl (v1 + q2.toInt64, v3 + (1:Int32)))
def f29_sum_b1_H (xs : Nat → Int32) (L d : Nat) (r : Option Value × pv_M) (T : pv_T) (v0 : Nat) (s : pv_F) (st : Int64 × Int32) : Prop := match st with
  | (v1, v3) => pv_Ev xs L (d + 0) 29 (0, 0, 4, [some (.ref v0), some (.long v1), none, some (.int v3)], [], pv_mm s T) r
def f29_sum_b1_X (xs : Nat → Int32) (L d : Nat) (r : Option Value × pv_M) (T : pv_T) (v0 : Nat) (s : pv_F) (st : Int64 × Int32) : Prop := match st with
  | (v1, v3) => ∀ z3 : Option Value, pv_Ev xs L (d + 0) 29 (0, 0, 28, [some (.ref v0), some (.long v1), none, z3], [], pv_mm s T) r
def f29_sum (o : Nat) (s : pv_F) : Option (Int64) :=
  (pv_lq (f29_sum_b1 o s) 20000 ((0:Int64), (0:Int32))).bind fun (w4, w5) =>
  some w4
theorem f29_sum_b1_ok {xs : Nat → Int32} {L d : Nat} {r : Option Value × pv_M} {T : pv_T} {v0 : Nat} {s : pv_F} (g0 : v0 ∈ pv_rows) (st : Int64 × Int32) (o : (Int64 × Int32) ⊕ (Int64 × Int32)) (h : f29_sum_b1 v0 s st = some o) (hK : pv_Kq (f29_sum_b1_H xs L d r T v0 s) (f29_sum_b1_X xs L d r T v0 s) o) : f29_sum_b1_H xs L d r T v0 s st := by
  obtain ⟨v1, v3⟩ := st
  show pv_Ev xs L (d + 0) 29 (0, 0, 4, [some (.ref v0), some (.long v1), none, some (.int v3)], [], pv_mm s T) r
  unfold f29_sum_b1 at h
  dsimp only at h
  refine pv_e_bk (ps := [(4, .iload_n 3, 1), (5, .aload_n 0, 1)]) (t' := (0, 0, 6, [some (.ref v0), some (.long v1), none, some (.int v3)], [.ref v0, .int v3], pv_mm s T)) (by decide +kernel) rfl ?_
  refine pv_e_gc (i := 15) (ci := 2) (j := 2) (pc' := 9) (by decide +kernel) (by have := (rw_ g0).2.2; omega) (rw_ g0).1 rfl rfl ?_
  refine pv_e_icmpge (off := 19) (b := 28) (pc' := 12) (by decide +kernel) (by decide +kernel) rfl (fun c1 => ?_) (fun c1 => ?_)
  · rw [if_pos c1] at h
    obtain rfl := Option.some.inj h
    exact hK _
  · rw [if_neg c1] at h
    refine pv_e_bk (ps := [(12, .lload_n 1, 1), (13, .aload_n 0, 1)]) (t' := (0, 0, 14, [some (.ref v0), some (.long v1), none, some (.int v3)], [.ref v0, .long v1], pv_mm s T)) (by decide +kernel) rfl ?_
    refine pv_e_gr (i := 19) (ci := 2) (j := 0) (b := v0 + 1) (pc' := 17) (by decide +kernel) (rw_ g0).1 rfl rfl ?_
    refine pv_e_bk (ps := [(17, .iload_n 3, 1)]) (t' := (0, 0, 18, [some (.ref v0), some (.long v1), none, some (.int v3)], [.int v3, .ref (v0 + 1), .long v1], pv_mm s T)) (by decide +kernel) rfl ?_
    obtain ⟨q2, e3, h⟩ := Option.bind_eq_some_iff.mp h
    refine pv_e_rc (pc' := 19) (by decide +kernel) (rw_ g0).2.2 (rw_ g0).2.1 e3 rfl ?_
    refine pv_e_bk (ps := [(19, .i2l, 1), (20, .ladd, 1), (21, .lstore_n 1, 1), (22, .iinc 3 1, 3), (25, .goto (-21), 3)]) (t' := (0, 0, 4, [some (.ref v0), some (.long (v1 + q2.toInt64)), none, some (.int (v3 + (1:Int32)))], [], pv_mm s T)) (by decide +kernel) rfl ?_
    obtain rfl := Option.some.inj h
    exact hK
theorem ee29 {xs : Nat → Int32} {L : Nat} (d : Nat) (o : Nat) {s : pv_F} {T : pv_T} {q : Int64} (g0 : o ∈ pv_rows) (h : f29_sum o s = some q) : pv_Ev xs L (d + 0) 29 (0, 0, 0, [some (.ref o), none, none, none], [], pv_mm s T) (some (.long q), pv_mm s T) := by
  generalize hr : ((some (.long q), pv_mm s T) : Option Value × pv_M) = r
  unfold f29_sum at h
  refine pv_e_bk (ps := [(0, .lconst 0, 1), (1, .lstore_n 1, 1), (2, .iconst 0, 1), (3, .istore_n 3, 1)]) (t' := (0, 0, 4, [some (.ref o), some (.long (0:Int64)), none, some (.int (0:Int32))], [], pv_mm s T)) (by decide +kernel) rfl ?_
  obtain ⟨⟨w4, w5⟩, e7, h⟩ := Option.bind_eq_some_iff.mp h
  dsimp only at h
  have hx6 : f29_sum_b1_X xs L d r T o s (w4, w5) := by
    show ∀ z3 : Option Value, pv_Ev xs L (d + 0) 29 (0, 0, 28, [some (.ref o), some (.long w4), none, z3], [], pv_mm s T) r
    intro z3
    refine pv_e_bk (ps := [(28, .lload_n 1, 1)]) (t' := (0, 0, 29, [some (.ref o), some (.long w4), none, z3], [.long w4], pv_mm s T)) (by decide +kernel) rfl ?_
    obtain rfl := Option.some.inj h
    cases hr
    exact pv_e_rl (by decide +kernel)
  exact pv_lq_ok (H := f29_sum_b1_H xs L d r T o s) (X := f29_sum_b1_X xs L d r T o s) (f29_sum_b1_ok (xs := xs) (L := L) (d := d) (r := r) (T := T) (v0 := o) (s := s) g0) 20000 _ _ e7 hx6
def f30_spelling_b1 (v0 : Nat) (s : pv_F) (st : Int32 × Int32) : Option ((Int32 × Int32) ⊕ (Int32 × Int32)) := match st with
  | (v1, v2) =>
    if (s v0 2) ≤ v2 then
      some (.inr (v1, v2))
    else
      if (6:Int32) ≤ v2 then
        some (.inr (v1, v2))
      else
        (pv_rd s (v0 + 1) (pv_an (v0 + 1)) v2).bind fun q3 =>
        (f221_with v1 (q3 - (96:Int32))).bind fun q6 =>
        some (.inl (q6, v2 + (1:Int32)))
def f30_spelling_b1_H (xs : Nat → Int32) (L d : Nat) (r : Option Value × pv_M) (T : pv_T) (v0 : Nat) (s : pv_F) (st : Int32 × Int32) : Prop := match st with
  | (v1, v2) => pv_Ev xs L (d + 2) 30 (0, 0, 4, [some (.ref v0), some (.int v1), some (.int v2)], [], pv_mm s T) r
def f30_spelling_b1_X (xs : Nat → Int32) (L d : Nat) (r : Option Value × pv_M) (T : pv_T) (v0 : Nat) (s : pv_F) (st : Int32 × Int32) : Prop := match st with
  | (v1, v2) => ∀ z2 : Option Value, pv_Ev xs L (d + 2) 30 (0, 0, 38, [some (.ref v0), some (.int v1), z2], [], pv_mm s T) r
def f30_spelling (o : Nat) (s : pv_F) : Option (Int32) :=
  (pv_lq (f30_spelling_b1 o s) 20000 ((0:Int32), (0:Int32))).bind fun (w7, w8) =>
  some w7
theorem f30_spelling_b1_ok {xs : Nat → Int32} {L d : Nat} {r : Option Value × pv_M} {T : pv_T} {v0 : Nat} {s : pv_F} (g0 : v0 ∈ pv_rows) (st : Int32 × Int32) (o : (Int32 × Int32) ⊕ (Int32 × Int32)) (h : f30_spelling_b1 v0 s st = some o) (hK : pv_Kq (f30_spelling_b1_H xs L d r T v0 s) (f30_spelling_b1_X xs L d r T v0 s) o) : f30_spelling_b1_H xs L d r T v0 s st := by
  obtain ⟨v1, v2⟩ := st
  show pv_Ev xs L (d + 2) 30 (0, 0, 4, [some (.ref v0), some (.int v1), some (.int v2)], [], pv_mm s T) r
  unfold f30_spelling_b1 at h
  dsimp only at h
  refine pv_e_bk (ps := [(4, .iload_n 2, 1), (5, .aload_n 0, 1)]) (t' := (0, 0, 6, [some (.ref v0), some (.int v1), some (.int v2)], [.ref v0, .int v2], pv_mm s T)) (by decide +kernel) rfl ?_
  refine pv_e_gc (i := 15) (ci := 2) (j := 2) (pc' := 9) (by decide +kernel) (by have := (rw_ g0).2.2; omega) (rw_ g0).1 rfl rfl ?_
  refine pv_e_icmpge (off := 29) (b := 38) (pc' := 12) (by decide +kernel) (by decide +kernel) rfl (fun c1 => ?_) (fun c1 => ?_)
  · rw [if_pos c1] at h
    obtain rfl := Option.some.inj h
    exact hK _
  · rw [if_neg c1] at h
    refine pv_e_bk (ps := [(12, .iload_n 2, 1), (13, .bipush 6, 2)]) (t' := (0, 0, 15, [some (.ref v0), some (.int v1), some (.int v2)], [.int (6:Int32), .int v2], pv_mm s T)) (by decide +kernel) rfl ?_
    refine pv_e_icmpge (off := 23) (b := 38) (pc' := 18) (by decide +kernel) (by decide +kernel) rfl (fun c2 => ?_) (fun c2 => ?_)
    · rw [if_pos c2] at h
      obtain rfl := Option.some.inj h
      exact hK _
    · rw [if_neg c2] at h
      refine pv_e_bk (ps := [(18, .iload_n 1, 1), (19, .aload_n 0, 1)]) (t' := (0, 0, 20, [some (.ref v0), some (.int v1), some (.int v2)], [.ref v0, .int v1], pv_mm s T)) (by decide +kernel) rfl ?_
      refine pv_e_gr (i := 19) (ci := 2) (j := 0) (b := v0 + 1) (pc' := 23) (by decide +kernel) (rw_ g0).1 rfl rfl ?_
      refine pv_e_bk (ps := [(23, .iload_n 2, 1)]) (t' := (0, 0, 24, [some (.ref v0), some (.int v1), some (.int v2)], [.int v2, .ref (v0 + 1), .int v1], pv_mm s T)) (by decide +kernel) rfl ?_
      obtain ⟨q3, e4, h⟩ := Option.bind_eq_some_iff.mp h
      refine pv_e_rc (pc' := 25) (by decide +kernel) (rw_ g0).2.2 (rw_ g0).2.1 e4 rfl ?_
      refine pv_e_bk (ps := [(25, .bipush 96, 2), (27, .isub, 1)]) (t' := (0, 0, 28, [some (.ref v0), some (.int v1), some (.int v2)], [.int (q3 - (96:Int32)), .int v1], pv_mm s T)) (by decide +kernel) rfl ?_
      obtain ⟨q6, e5, h⟩ := Option.bind_eq_some_iff.mp h
      refine pv_e_csi (d := d + 1) (i := 23) (z := 221) (np := 2) (ml := 2) (As := [.int v1, .int (q3 - (96:Int32))]) (rs := []) (pc' := 31) (by decide +kernel) rfl rfl rfl (Nat.le_of_ble_eq_true rfl) (Nat.le_of_ble_eq_true rfl) rfl (ee221 (d + 0) v1 (q3 - (96:Int32)) e5) ?_
      refine pv_e_bk (ps := [(31, .istore_n 1, 1), (32, .iinc 2 1, 3), (35, .goto (-31), 3)]) (t' := (0, 0, 4, [some (.ref v0), some (.int q6), some (.int (v2 + (1:Int32)))], [], pv_mm s T)) (by decide +kernel) rfl ?_
      obtain rfl := Option.some.inj h
      exact hK
theorem ee30 {xs : Nat → Int32} {L : Nat} (d : Nat) (o : Nat) {s : pv_F} {T : pv_T} {q : Int32} (g0 : o ∈ pv_rows) (h : f30_spelling o s = some q) : pv_Ev xs L (d + 2) 30 (0, 0, 0, [some (.ref o), none, none], [], pv_mm s T) (some (.int q), pv_mm s T) := by
  generalize hr : ((some (.int q), pv_mm s T) : Option Value × pv_M) = r
  unfold f30_spelling at h
  refine pv_e_bk (ps := [(0, .iconst 0, 1), (1, .istore_n 1, 1), (2, .iconst 0, 1), (3, .istore_n 2, 1)]) (t' := (0, 0, 4, [some (.ref o), some (.int (0:Int32)), some (.int (0:Int32))], [], pv_mm s T)) (by decide +kernel) rfl ?_
  obtain ⟨⟨w7, w8⟩, e10, h⟩ := Option.bind_eq_some_iff.mp h
  dsimp only at h
  have hx9 : f30_spelling_b1_X xs L d r T o s (w7, w8) := by
    show ∀ z2 : Option Value, pv_Ev xs L (d + 2) 30 (0, 0, 38, [some (.ref o), some (.int w7), z2], [], pv_mm s T) r
    intro z2
    refine pv_e_bk (ps := [(38, .iload_n 1, 1)]) (t' := (0, 0, 39, [some (.ref o), some (.int w7), z2], [.int w7], pv_mm s T)) (by decide +kernel) rfl ?_
    obtain rfl := Option.some.inj h
    cases hr
    exact pv_e_ri (by decide +kernel)
  exact pv_lq_ok (H := f30_spelling_b1_H xs L d r T o s) (X := f30_spelling_b1_X xs L d r T o s) (f30_spelling_b1_ok (xs := xs) (L := L) (d := d) (r := r) (T := T) (v0 := o) (s := s) g0) 20000 _ _ e10 hx9
def f31_mixedInto_b1 (v0 : Nat) (s : pv_F) (st : Int64 × Int32) : Option ((Int64 × Int32) ⊕ (Int64 × Int32)) := match st with
  | (v3, v5) =>
    if (s v0 2) ≤ v5 then
      some (.inr (v3, v5))
    else
      (pv_rd s (v0 + 1) (pv_an (v0 + 1)) v5).bind fun q3 =>
      some (.inl (((31:Int64) * v3) + q3.toInt64, v5 + (1:Int32)))
def f31_mixedInto_b1_H (xs : Nat → Int32) (L d : Nat) (r : Option Value × pv_M) (T : pv_T) (v0 : Nat) (s : pv_F) (v1 : Int64) (st : Int64 × Int32) : Prop := match st with
  | (v3, v5) => pv_Ev xs L (d + 0) 31 (0, 0, 30, [some (.ref v0), some (.long v1), none, some (.long v3), none, some (.int v5)], [], pv_mm s T) r
def f31_mixedInto_b1_X (xs : Nat → Int32) (L d : Nat) (r : Option Value × pv_M) (T : pv_T) (v0 : Nat) (s : pv_F) (v1 : Int64) (st : Int64 × Int32) : Prop := match st with
  | (v3, v5) => ∀ z5 : Option Value, pv_Ev xs L (d + 0) 31 (0, 0, 60, [some (.ref v0), some (.long v1), none, some (.long v3), none, z5], [], pv_mm s T) r
def f31_mixedInto (o : Nat) (x1 : Int64) (s : pv_F) : Option (Int64) :=
  if (s o 1) = 0 then
    some (((31:Int64) * x1) - (1:Int64))
  else
    (pv_lq (f31_mixedInto_b1 o s) 20000 (((31:Int64) * x1) + ((s o 2).toInt64), (0:Int32))).bind fun (w5, w6) =>
    some w5
theorem f31_mixedInto_b1_ok {xs : Nat → Int32} {L d : Nat} {r : Option Value × pv_M} {T : pv_T} {v0 : Nat} {s : pv_F} {v1 : Int64} (g0 : v0 ∈ pv_rows) (st : Int64 × Int32) (o : (Int64 × Int32) ⊕ (Int64 × Int32)) (h : f31_mixedInto_b1 v0 s st = some o) (hK : pv_Kq (f31_mixedInto_b1_H xs L d r T v0 s v1) (f31_mixedInto_b1_X xs L d r T v0 s v1) o) : f31_mixedInto_b1_H xs L d r T v0 s v1 st := by
  obtain ⟨v3, v5⟩ := st
  show pv_Ev xs L (d + 0) 31 (0, 0, 30, [some (.ref v0), some (.long v1), none, some (.long v3), none, some (.int v5)], [], pv_mm s T) r
  unfold f31_mixedInto_b1 at h
  dsimp only at h
  refine pv_e_bk (ps := [(30, .iload 5, 2), (32, .aload_n 0, 1)]) (t' := (0, 0, 33, [some (.ref v0), some (.long v1), none, some (.long v3), none, some (.int v5)], [.ref v0, .int v5], pv_mm s T)) (by decide +kernel) rfl ?_
  refine pv_e_gc (i := 15) (ci := 2) (j := 2) (pc' := 36) (by decide +kernel) (by have := (rw_ g0).2.2; omega) (rw_ g0).1 rfl rfl ?_
  refine pv_e_icmpge (off := 24) (b := 60) (pc' := 39) (by decide +kernel) (by decide +kernel) rfl (fun c2 => ?_) (fun c2 => ?_)
  · rw [if_pos c2] at h
    obtain rfl := Option.some.inj h
    exact hK _
  · rw [if_neg c2] at h
    refine pv_e_bk (ps := [(39, .ldc2_w 29, 3), (42, .lload_n 3, 1), (43, .lmul, 1), (44, .aload_n 0, 1)]) (t' := (0, 0, 45, [some (.ref v0), some (.long v1), none, some (.long v3), none, some (.int v5)], [.ref v0, .long ((31:Int64) * v3)], pv_mm s T)) (by decide +kernel) rfl ?_
    refine pv_e_gr (i := 19) (ci := 2) (j := 0) (b := v0 + 1) (pc' := 48) (by decide +kernel) (rw_ g0).1 rfl rfl ?_
    refine pv_e_bk (ps := [(48, .iload 5, 2)]) (t' := (0, 0, 50, [some (.ref v0), some (.long v1), none, some (.long v3), none, some (.int v5)], [.int v5, .ref (v0 + 1), .long ((31:Int64) * v3)], pv_mm s T)) (by decide +kernel) rfl ?_
    obtain ⟨q3, e4, h⟩ := Option.bind_eq_some_iff.mp h
    refine pv_e_rc (pc' := 51) (by decide +kernel) (rw_ g0).2.2 (rw_ g0).2.1 e4 rfl ?_
    refine pv_e_bk (ps := [(51, .i2l, 1), (52, .ladd, 1), (53, .lstore_n 3, 1), (54, .iinc 5 1, 3), (57, .goto (-27), 3)]) (t' := (0, 0, 30, [some (.ref v0), some (.long v1), none, some (.long (((31:Int64) * v3) + q3.toInt64)), none, some (.int (v5 + (1:Int32)))], [], pv_mm s T)) (by decide +kernel) rfl ?_
    obtain rfl := Option.some.inj h
    exact hK
theorem ee31 {xs : Nat → Int32} {L : Nat} (d : Nat) (o : Nat) (x1 : Int64) {s : pv_F} {T : pv_T} {q : Int64} (g0 : o ∈ pv_rows) (h : f31_mixedInto o x1 s = some q) : pv_Ev xs L (d + 0) 31 (0, 0, 0, [some (.ref o), some (.long x1), none, none, none, none], [], pv_mm s T) (some (.long q), pv_mm s T) := by
  generalize hr : ((some (.long q), pv_mm s T) : Option Value × pv_M) = r
  unfold f31_mixedInto at h
  refine pv_e_bk (ps := [(0, .aload_n 0, 1)]) (t' := (0, 0, 1, [some (.ref o), some (.long x1), none, none, none, none], [.ref o], pv_mm s T)) (by decide +kernel) rfl ?_
  refine pv_e_gc (i := 9) (ci := 2) (j := 1) (pc' := 4) (by decide +kernel) (by have := (rw_ g0).2.2; omega) (rw_ g0).1 rfl rfl ?_
  refine pv_e_ifne (off := 11) (b := 15) (pc' := 7) (by decide +kernel) (by decide +kernel) rfl (fun c1 => ?_) (fun c1 => ?_)
  · rw [if_pos c1] at h
    refine pv_e_bk (ps := [(7, .ldc2_w 29, 3), (10, .lload_n 1, 1), (11, .lmul, 1), (12, .lconst 1, 1), (13, .lsub, 1)]) (t' := (0, 0, 14, [some (.ref o), some (.long x1), none, none, none, none], [.long (((31:Int64) * x1) - (1:Int64))], pv_mm s T)) (by decide +kernel) rfl ?_
    obtain rfl := Option.some.inj h
    cases hr
    exact pv_e_rl (by decide +kernel)
  · rw [if_neg c1] at h
    refine pv_e_bk (ps := [(15, .ldc2_w 29, 3), (18, .lload_n 1, 1), (19, .lmul, 1), (20, .aload_n 0, 1)]) (t' := (0, 0, 21, [some (.ref o), some (.long x1), none, none, none, none], [.ref o, .long ((31:Int64) * x1)], pv_mm s T)) (by decide +kernel) rfl ?_
    refine pv_e_gc (i := 15) (ci := 2) (j := 2) (pc' := 24) (by decide +kernel) (by have := (rw_ g0).2.2; omega) (rw_ g0).1 rfl rfl ?_
    refine pv_e_bk (ps := [(24, .i2l, 1), (25, .ladd, 1), (26, .lstore_n 3, 1), (27, .iconst 0, 1), (28, .istore 5, 2)]) (t' := (0, 0, 30, [some (.ref o), some (.long x1), none, some (.long (((31:Int64) * x1) + ((s o 2).toInt64))), none, some (.int (0:Int32))], [], pv_mm s T)) (by decide +kernel) rfl ?_
    obtain ⟨⟨w5, w6⟩, e8, h⟩ := Option.bind_eq_some_iff.mp h
    dsimp only at h
    have hx7 : f31_mixedInto_b1_X xs L d r T o s x1 (w5, w6) := by
      show ∀ z5 : Option Value, pv_Ev xs L (d + 0) 31 (0, 0, 60, [some (.ref o), some (.long x1), none, some (.long w5), none, z5], [], pv_mm s T) r
      intro z5
      refine pv_e_bk (ps := [(60, .lload_n 3, 1)]) (t' := (0, 0, 61, [some (.ref o), some (.long x1), none, some (.long w5), none, z5], [.long w5], pv_mm s T)) (by decide +kernel) rfl ?_
      obtain rfl := Option.some.inj h
      cases hr
      exact pv_e_rl (by decide +kernel)
    exact pv_lq_ok (H := f31_mixedInto_b1_H xs L d r T o s x1) (X := f31_mixedInto_b1_X xs L d r T o s x1) (f31_mixedInto_b1_ok (xs := xs) (L := L) (d := d) (r := r) (T := T) (v0 := o) (s := s) (v1 := x1) g0) 20000 _ _ e8 hx7
def f33_from_b1 (v1 : Nat) (st : Int32 × pv_F) : Option ((Int32 × pv_F) ⊕ (Int32 × pv_F)) := match st with
  | (v3, s) =>
    if (4:Int32) ≤ v3 then
      some (.inr (v3, s))
    else
      (pv_wr s 44 4 v3 (0:Int32)).bind fun s12 =>
      some (.inl (v3 + (1:Int32), s12))
def f33_from_b1_H (xs : Nat → Int32) (L d : Nat) (r : Option Value × pv_M) (T : pv_T) (v1 : Nat) (v2 : Int32) (st : Int32 × pv_F) : Prop := match st with
  | (v3, s) => pv_Ev xs L (d + 2) 33 (0, 0, 30, [some (.ref 40), some (.ref v1), some (.int v2), some (.int v3)], [], pv_mm s T) r
def f33_from_b1_X (xs : Nat → Int32) (L d : Nat) (r : Option Value × pv_M) (T : pv_T) (v1 : Nat) (v2 : Int32) (st : Int32 × pv_F) : Prop := match st with
  | (v3, s) => ∀ z3 : Option Value, pv_Ev xs L (d + 2) 33 (0, 0, 48, [some (.ref 40), some (.ref v1), some (.int v2), z3], [], pv_mm s T) r
def f33_from (x1 : Nat) (x2 : Int32) (s : pv_F) : Option (pv_F) :=
  (pv_pf s 40 4 x2).bind fun s1 =>
  (pv_pf s1 40 5 (0:Int32)).bind fun s3 =>
  (pv_pf s3 40 6 (1000:Int32)).bind fun s5 =>
  (pv_pf s5 40 7 (0:Int32)).bind fun s7 =>
  (pv_pf s7 40 8 (-9:Int32)).bind fun s9 =>
  (pv_lq (f33_from_b1 x1) 20000 ((0:Int32), s9)).bind fun (w14, s15) =>
  (f5_take 45 x1 s15).bind fun s17 =>
  some s17
theorem f33_from_b1_ok {xs : Nat → Int32} {L d : Nat} {r : Option Value × pv_M} {T : pv_T} {v1 : Nat} {v2 : Int32} (g1 : v1 ∈ pv_folks) (st : Int32 × pv_F) (o : (Int32 × pv_F) ⊕ (Int32 × pv_F)) (h : f33_from_b1 v1 st = some o) (hK : pv_Kq (f33_from_b1_H xs L d r T v1 v2) (f33_from_b1_X xs L d r T v1 v2) o) : f33_from_b1_H xs L d r T v1 v2 st := by
  obtain ⟨v3, s⟩ := st
  show pv_Ev xs L (d + 2) 33 (0, 0, 30, [some (.ref 40), some (.ref v1), some (.int v2), some (.int v3)], [], pv_mm s T) r
  unfold f33_from_b1 at h
  dsimp only at h
  refine pv_e_bk (ps := [(30, .iload_n 3, 1), (31, .iconst 4, 1)]) (t' := (0, 0, 32, [some (.ref 40), some (.ref v1), some (.int v2), some (.int v3)], [.int (4:Int32), .int v3], pv_mm s T)) (by decide +kernel) rfl ?_
  refine pv_e_icmpge (off := 16) (b := 48) (pc' := 35) (by decide +kernel) (by decide +kernel) rfl (fun c11 => ?_) (fun c11 => ?_)
  · rw [if_pos c11] at h
    obtain rfl := Option.some.inj h
    exact hK _
  · rw [if_neg c11] at h
    refine pv_e_bk (ps := [(35, .aload_n 0, 1)]) (t' := (0, 0, 36, [some (.ref 40), some (.ref v1), some (.int v2), some (.int v3)], [.ref 40], pv_mm s T)) (by decide +kernel) rfl ?_
    refine pv_e_gr (i := 24) (ci := 3) (j := 3) (b := 44) (pc' := 39) (by decide +kernel) rfl rfl rfl ?_
    refine pv_e_bk (ps := [(39, .iload_n 3, 1), (40, .iconst 0, 1)]) (t' := (0, 0, 41, [some (.ref 40), some (.ref v1), some (.int v2), some (.int v3)], [.int (0:Int32), .int v3, .ref 44], pv_mm s T)) (by decide +kernel) rfl ?_
    obtain ⟨s12, e13, h⟩ := Option.bind_eq_some_iff.mp h
    refine pv_e_wc (pc' := 42) (by decide +kernel) (by decide) rfl e13 rfl ?_
    refine pv_e_bk (ps := [(42, .iinc 3 1, 3), (45, .goto (-15), 3)]) (t' := (0, 0, 30, [some (.ref 40), some (.ref v1), some (.int v2), some (.int (v3 + (1:Int32)))], [], pv_mm s12 T)) (by decide +kernel) rfl ?_
    obtain rfl := Option.some.inj h
    exact hK
theorem ee33 {xs : Nat → Int32} {L : Nat} (d : Nat) (x1 : Nat) (x2 : Int32) {s : pv_F} {T : pv_T} {q : pv_F} (g1 : x1 ∈ pv_folks) (h : f33_from x1 x2 s = some q) : pv_Ev xs L (d + 2) 33 (0, 0, 0, [some (.ref 40), some (.ref x1), some (.int x2), none], [], pv_mm s T) (some (.ref 45), pv_mm q T) := by
  generalize hr : ((some (.ref 45), pv_mm q T) : Option Value × pv_M) = r
  unfold f33_from at h
  refine pv_e_bk (ps := [(0, .aload_n 0, 1), (1, .iload_n 2, 1)]) (t' := (0, 0, 2, [some (.ref 40), some (.ref x1), some (.int x2), none], [.int x2, .ref 40], pv_mm s T)) (by decide +kernel) rfl ?_
  obtain ⟨s1, e2, h⟩ := Option.bind_eq_some_iff.mp h
  refine pv_e_pcs (i := 27) (ci := 3) (j := 4) (pc' := 5) (by decide +kernel) rfl rfl (by decide) rfl rfl e2 rfl ?_
  refine pv_e_bk (ps := [(5, .aload_n 0, 1), (6, .iconst 0, 1)]) (t' := (0, 0, 7, [some (.ref 40), some (.ref x1), some (.int x2), none], [.int (0:Int32), .ref 40], pv_mm s1 T)) (by decide +kernel) rfl ?_
  obtain ⟨s3, e4, h⟩ := Option.bind_eq_some_iff.mp h
  refine pv_e_pcs (i := 31) (ci := 3) (j := 5) (pc' := 10) (by decide +kernel) rfl rfl (by decide) rfl rfl e4 rfl ?_
  refine pv_e_bk (ps := [(10, .aload_n 0, 1), (11, .sipush 1000, 3)]) (t' := (0, 0, 14, [some (.ref 40), some (.ref x1), some (.int x2), none], [.int (1000:Int32), .ref 40], pv_mm s3 T)) (by decide +kernel) rfl ?_
  obtain ⟨s5, e6, h⟩ := Option.bind_eq_some_iff.mp h
  refine pv_e_pcs (i := 34) (ci := 3) (j := 6) (pc' := 17) (by decide +kernel) rfl rfl (by decide) rfl rfl e6 rfl ?_
  refine pv_e_bk (ps := [(17, .aload_n 0, 1), (18, .iconst 0, 1)]) (t' := (0, 0, 19, [some (.ref 40), some (.ref x1), some (.int x2), none], [.int (0:Int32), .ref 40], pv_mm s5 T)) (by decide +kernel) rfl ?_
  obtain ⟨s7, e8, h⟩ := Option.bind_eq_some_iff.mp h
  refine pv_e_pcs (i := 37) (ci := 3) (j := 7) (pc' := 22) (by decide +kernel) rfl rfl (by decide) rfl rfl e8 rfl ?_
  refine pv_e_bk (ps := [(22, .aload_n 0, 1), (23, .bipush (-9), 2)]) (t' := (0, 0, 25, [some (.ref 40), some (.ref x1), some (.int x2), none], [.int (-9:Int32), .ref 40], pv_mm s7 T)) (by decide +kernel) rfl ?_
  obtain ⟨s9, e10, h⟩ := Option.bind_eq_some_iff.mp h
  refine pv_e_pcs (i := 40) (ci := 3) (j := 8) (pc' := 28) (by decide +kernel) rfl rfl (by decide) rfl rfl e10 rfl ?_
  refine pv_e_bk (ps := [(28, .iconst 0, 1), (29, .istore_n 3, 1)]) (t' := (0, 0, 30, [some (.ref 40), some (.ref x1), some (.int x2), some (.int (0:Int32))], [], pv_mm s9 T)) (by decide +kernel) rfl ?_
  obtain ⟨⟨w14, s15⟩, e19, h⟩ := Option.bind_eq_some_iff.mp h
  dsimp only at h
  have hx18 : f33_from_b1_X xs L d r T x1 x2 (w14, s15) := by
    show ∀ z3 : Option Value, pv_Ev xs L (d + 2) 33 (0, 0, 48, [some (.ref 40), some (.ref x1), some (.int x2), z3], [], pv_mm s15 T) r
    intro z3
    refine pv_e_bk (ps := [(48, .aload_n 0, 1)]) (t' := (0, 0, 49, [some (.ref 40), some (.ref x1), some (.int x2), z3], [.ref 40], pv_mm s15 T)) (by decide +kernel) rfl ?_
    refine pv_e_gr (i := 11) (ci := 3) (j := 0) (b := 41) (pc' := 52) (by decide +kernel) rfl rfl rfl ?_
    refine pv_e_bk (ps := [(52, .iconst 0, 1)]) (t' := (0, 0, 53, [some (.ref 40), some (.ref x1), some (.int x2), z3], [.int (0:Int32), .ref 41], pv_mm s15 T)) (by decide +kernel) rfl ?_
    refine pv_e_ra (zz := 7) (q := 45) (pc' := 54) (by decide +kernel) rfl (by decide) (by decide +kernel) rfl ?_
    refine pv_e_bk (ps := [(54, .aload_n 1, 1)]) (t' := (0, 0, 55, [some (.ref 40), some (.ref x1), some (.int x2), z3], [.ref x1, .ref 45], pv_mm s15 T)) (by decide +kernel) rfl ?_
    obtain ⟨s17, e16, h⟩ := Option.bind_eq_some_iff.mp h
    refine pv_e_cvv (d := d + 1) (i := 44) (z := 5) (np := 1) (ml := 2) (ci := 1) (As := [.ref x1]) (rs := []) (pc' := 58) (by decide +kernel) rfl rfl rfl rfl (Nat.le_of_ble_eq_true rfl) (Nat.le_of_ble_eq_true rfl) rfl (ee5 (d + 0) 45 x1 (by decide) g1 e16) ?_
    refine pv_e_bk (ps := [(58, .aload_n 0, 1)]) (t' := (0, 0, 59, [some (.ref 40), some (.ref x1), some (.int x2), z3], [.ref 40], pv_mm s17 T)) (by decide +kernel) rfl ?_
    refine pv_e_gr (i := 11) (ci := 3) (j := 0) (b := 41) (pc' := 62) (by decide +kernel) rfl rfl rfl ?_
    refine pv_e_bk (ps := [(62, .iconst 0, 1)]) (t' := (0, 0, 63, [some (.ref 40), some (.ref x1), some (.int x2), z3], [.int (0:Int32), .ref 41], pv_mm s17 T)) (by decide +kernel) rfl ?_
    refine pv_e_ra (zz := 7) (q := 45) (pc' := 64) (by decide +kernel) rfl (by decide) (by decide +kernel) rfl ?_
    obtain rfl := Option.some.inj h
    cases hr
    exact pv_e_rf (C := "WornNames$Folk") (by decide +kernel)
  exact pv_lq_ok (H := f33_from_b1_H xs L d r T x1 x2) (X := f33_from_b1_X xs L d r T x1 x2) (f33_from_b1_ok (xs := xs) (L := L) (d := d) (r := r) (T := T) (v1 := x1) (v2 := x2) g1) 20000 _ _ e19 hx18
def f34_judgeCalls_b1 (v1 : Nat) (st : Int32 × pv_F) : Option ((Int32 × pv_F) ⊕ ((Int32 × pv_F) ⊕ (Int32 × pv_F))) := match st with
  | (v2, s) =>
    if (s v1 2) ≤ v2 then
      some (.inr (.inl (v2, s)))
    else
      (pv_rd s (v1 + 1) (pv_an (v1 + 1)) v2).bind fun q2 =>
      (pv_dv q2 (100:Int32)).bind fun q4 =>
      (pv_rd s (v1 + 1) (pv_an (v1 + 1)) v2).bind fun q6 =>
      (pv_rmd q6 (100:Int32)).bind fun q8 =>
      (f12_comers 45 q4 q8 s).bind fun q11 =>
      if q11 = 0 then
        some (.inr (.inr (v2, s)))
      else
        (f224_bitCount q11).bind fun q14 =>
        (pv_pf s 40 5 ((s 40 5) + (q14 - (1:Int32)))).bind fun s15 =>
        (f15_wearBy 45 q4 q11 (s15 40 4) s15).bind fun s18 =>
        some (.inl (v2 + (1:Int32), s18))
def f34_judgeCalls_b1_H (xs : Nat → Int32) (L d : Nat) (r : Option Value × pv_M) (T : pv_T) (v1 : Nat) (st : Int32 × pv_F) : Prop := match st with
  | (v2, s) => ∀ z3 : Option Value, ∀ z4 : Option Value, ∀ z5 : Option Value, pv_Ev xs L (d + 4) 34 (0, 0, 2, [some (.ref 40), some (.ref v1), some (.int v2), z3, z4, z5], [], pv_mm s T) r
def f34_judgeCalls_b1_X (xs : Nat → Int32) (L d : Nat) (r : Option Value × pv_M) (T : pv_T) (v1 : Nat) (st : Int32 × pv_F) : Prop := match st with
  | (v2, s) => ∀ z2 : Option Value, ∀ z3 : Option Value, ∀ z4 : Option Value, ∀ z5 : Option Value, pv_Ev xs L (d + 4) 34 (0, 0, 90, [some (.ref 40), some (.ref v1), z2, z3, z4, z5], [], pv_mm s T) r
def f34_judgeCalls (x1 : Nat) (s : pv_F) : Option (Int32 × pv_F) :=
  (pv_lp (f34_judgeCalls_b1 x1) 20000 ((0:Int32), s)).bind fun o23 => match o23 with
    | .inl (w19, s20) =>
      some (s20 x1 2, s20)
    | .inr q => some q
theorem f34_judgeCalls_b1_ok {xs : Nat → Int32} {L d : Nat} {r : Option Value × pv_M} {T : pv_T} {v1 : Nat} (g1 : v1 ∈ pv_rows) (st : Int32 × pv_F) (o : (Int32 × pv_F) ⊕ ((Int32 × pv_F) ⊕ (Int32 × pv_F))) (h : f34_judgeCalls_b1 v1 st = some o) (hK : pv_Kp (f34_judgeCalls_b1_H xs L d r T v1) (f34_judgeCalls_b1_X xs L d r T v1) (fun q => (some (.int q.1), pv_mm q.2 T) = r) o) : f34_judgeCalls_b1_H xs L d r T v1 st := by
  obtain ⟨v2, s⟩ := st
  show ∀ z3 : Option Value, ∀ z4 : Option Value, ∀ z5 : Option Value, pv_Ev xs L (d + 4) 34 (0, 0, 2, [some (.ref 40), some (.ref v1), some (.int v2), z3, z4, z5], [], pv_mm s T) r
  intro z3 z4 z5
  unfold f34_judgeCalls_b1 at h
  dsimp only at h
  refine pv_e_bk (ps := [(2, .iload_n 2, 1), (3, .aload_n 1, 1)]) (t' := (0, 0, 4, [some (.ref 40), some (.ref v1), some (.int v2), z3, z4, z5], [.ref v1, .int v2], pv_mm s T)) (by decide +kernel) rfl ?_
  refine pv_e_gc (i := 48) (ci := 2) (j := 2) (pc' := 7) (by decide +kernel) (by have := (rw_ g1).2.2; omega) (rw_ g1).1 rfl rfl ?_
  refine pv_e_icmpge (off := 83) (b := 90) (pc' := 10) (by decide +kernel) (by decide +kernel) rfl (fun c1 => ?_) (fun c1 => ?_)
  · rw [if_pos c1] at h
    obtain rfl := Option.some.inj h
    exact hK _ _ _ _
  · rw [if_neg c1] at h
    refine pv_e_bk (ps := [(10, .aload_n 1, 1)]) (t' := (0, 0, 11, [some (.ref 40), some (.ref v1), some (.int v2), z3, z4, z5], [.ref v1], pv_mm s T)) (by decide +kernel) rfl ?_
    refine pv_e_gr (i := 53) (ci := 2) (j := 0) (b := v1 + 1) (pc' := 14) (by decide +kernel) (rw_ g1).1 rfl rfl ?_
    refine pv_e_bk (ps := [(14, .iload_n 2, 1)]) (t' := (0, 0, 15, [some (.ref 40), some (.ref v1), some (.int v2), z3, z4, z5], [.int v2, .ref (v1 + 1)], pv_mm s T)) (by decide +kernel) rfl ?_
    obtain ⟨q2, e3, h⟩ := Option.bind_eq_some_iff.mp h
    refine pv_e_rc (pc' := 16) (by decide +kernel) (rw_ g1).2.2 (rw_ g1).2.1 e3 rfl ?_
    refine pv_e_bk (ps := [(16, .bipush 100, 2)]) (t' := (0, 0, 18, [some (.ref 40), some (.ref v1), some (.int v2), z3, z4, z5], [.int (100:Int32), .int q2], pv_mm s T)) (by decide +kernel) rfl ?_
    obtain ⟨q4, e5, h⟩ := Option.bind_eq_some_iff.mp h
    refine pv_e_dv (pc' := 19) (by decide +kernel) e5 rfl ?_
    refine pv_e_bk (ps := [(19, .istore_n 3, 1), (20, .aload_n 1, 1)]) (t' := (0, 0, 21, [some (.ref 40), some (.ref v1), some (.int v2), some (.int q4), z4, z5], [.ref v1], pv_mm s T)) (by decide +kernel) rfl ?_
    refine pv_e_gr (i := 53) (ci := 2) (j := 0) (b := v1 + 1) (pc' := 24) (by decide +kernel) (rw_ g1).1 rfl rfl ?_
    refine pv_e_bk (ps := [(24, .iload_n 2, 1)]) (t' := (0, 0, 25, [some (.ref 40), some (.ref v1), some (.int v2), some (.int q4), z4, z5], [.int v2, .ref (v1 + 1)], pv_mm s T)) (by decide +kernel) rfl ?_
    obtain ⟨q6, e7, h⟩ := Option.bind_eq_some_iff.mp h
    refine pv_e_rc (pc' := 26) (by decide +kernel) (rw_ g1).2.2 (rw_ g1).2.1 e7 rfl ?_
    refine pv_e_bk (ps := [(26, .bipush 100, 2)]) (t' := (0, 0, 28, [some (.ref 40), some (.ref v1), some (.int v2), some (.int q4), z4, z5], [.int (100:Int32), .int q6], pv_mm s T)) (by decide +kernel) rfl ?_
    obtain ⟨q8, e9, h⟩ := Option.bind_eq_some_iff.mp h
    refine pv_e_rm_ (pc' := 29) (by decide +kernel) e9 rfl ?_
    refine pv_e_bk (ps := [(29, .istore 4, 2), (31, .aload_n 0, 1)]) (t' := (0, 0, 32, [some (.ref 40), some (.ref v1), some (.int v2), some (.int q4), some (.int q8), z5], [.ref 40], pv_mm s T)) (by decide +kernel) rfl ?_
    refine pv_e_gr (i := 11) (ci := 3) (j := 0) (b := 41) (pc' := 35) (by decide +kernel) rfl rfl rfl ?_
    refine pv_e_bk (ps := [(35, .iconst 0, 1)]) (t' := (0, 0, 36, [some (.ref 40), some (.ref v1), some (.int v2), some (.int q4), some (.int q8), z5], [.int (0:Int32), .ref 41], pv_mm s T)) (by decide +kernel) rfl ?_
    refine pv_e_ra (zz := 7) (q := 45) (pc' := 37) (by decide +kernel) rfl (by decide) (by decide +kernel) rfl ?_
    refine pv_e_bk (ps := [(37, .iload_n 3, 1), (38, .iload 4, 2)]) (t' := (0, 0, 40, [some (.ref 40), some (.ref v1), some (.int v2), some (.int q4), some (.int q8), z5], [.int q8, .int q4, .ref 45], pv_mm s T)) (by decide +kernel) rfl ?_
    obtain ⟨q11, e10, h⟩ := Option.bind_eq_some_iff.mp h
    refine pv_e_cvi (d := d + 3) (i := 56) (z := 12) (np := 2) (ml := 4) (ci := 1) (As := [.int q4, .int q8]) (rs := []) (pc' := 43) (by decide +kernel) rfl rfl rfl rfl (Nat.le_of_ble_eq_true rfl) (Nat.le_of_ble_eq_true rfl) rfl (ee12 (d + 1) 45 q4 q8 (by decide) e10) ?_
    refine pv_e_bk (ps := [(43, .istore 5, 2), (45, .iload 5, 2)]) (t' := (0, 0, 47, [some (.ref 40), some (.ref v1), some (.int v2), some (.int q4), some (.int q8), some (.int q11)], [.int q11], pv_mm s T)) (by decide +kernel) rfl ?_
    refine pv_e_ifne (off := 5) (b := 52) (pc' := 50) (by decide +kernel) (by decide +kernel) rfl (fun c12 => ?_) (fun c12 => ?_)
    · rw [if_pos c12] at h
      refine pv_e_bk (ps := [(50, .iload_n 2, 1)]) (t' := (0, 0, 51, [some (.ref 40), some (.ref v1), some (.int v2), some (.int q4), some (.int q8), some (.int q11)], [.int v2], pv_mm s T)) (by decide +kernel) rfl ?_
      obtain rfl := Option.some.inj h
      cases hK
      exact pv_e_ri (by decide +kernel)
    · rw [if_neg c12] at h
      refine pv_e_bk (ps := [(52, .aload_n 0, 1), (53, .dup, 1)]) (t' := (0, 0, 54, [some (.ref 40), some (.ref v1), some (.int v2), some (.int q4), some (.int q8), some (.int q11)], [.ref 40, .ref 40], pv_mm s T)) (by decide +kernel) rfl ?_
      refine pv_e_gc (i := 31) (ci := 3) (j := 5) (pc' := 57) (by decide +kernel) (by decide) rfl rfl rfl ?_
      refine pv_e_bk (ps := [(57, .iload 5, 2)]) (t' := (0, 0, 59, [some (.ref 40), some (.ref v1), some (.int v2), some (.int q4), some (.int q8), some (.int q11)], [.int q11, .int (s 40 5), .ref 40], pv_mm s T)) (by decide +kernel) rfl ?_
      obtain ⟨q14, e13, h⟩ := Option.bind_eq_some_iff.mp h
      refine pv_e_csi (d := d + 3) (i := 60) (z := 224) (np := 1) (ml := 1) (As := [.int q11]) (rs := [.int (s 40 5), .ref 40]) (pc' := 62) (by decide +kernel) rfl rfl rfl (Nat.le_of_ble_eq_true rfl) (Nat.le_of_ble_eq_true rfl) rfl (ee224 (d + 3) q11 e13) ?_
      refine pv_e_bk (ps := [(62, .iconst 1, 1), (63, .isub, 1), (64, .iadd, 1)]) (t' := (0, 0, 65, [some (.ref 40), some (.ref v1), some (.int v2), some (.int q4), some (.int q8), some (.int q11)], [.int ((s 40 5) + (q14 - (1:Int32))), .ref 40], pv_mm s T)) (by decide +kernel) rfl ?_
      obtain ⟨s15, e16, h⟩ := Option.bind_eq_some_iff.mp h
      refine pv_e_pcs (i := 31) (ci := 3) (j := 5) (pc' := 68) (by decide +kernel) rfl rfl (by decide) rfl rfl e16 rfl ?_
      refine pv_e_bk (ps := [(68, .aload_n 0, 1)]) (t' := (0, 0, 69, [some (.ref 40), some (.ref v1), some (.int v2), some (.int q4), some (.int q8), some (.int q11)], [.ref 40], pv_mm s15 T)) (by decide +kernel) rfl ?_
      refine pv_e_gr (i := 11) (ci := 3) (j := 0) (b := 41) (pc' := 72) (by decide +kernel) rfl rfl rfl ?_
      refine pv_e_bk (ps := [(72, .iconst 0, 1)]) (t' := (0, 0, 73, [some (.ref 40), some (.ref v1), some (.int v2), some (.int q4), some (.int q8), some (.int q11)], [.int (0:Int32), .ref 41], pv_mm s15 T)) (by decide +kernel) rfl ?_
      refine pv_e_ra (zz := 7) (q := 45) (pc' := 74) (by decide +kernel) rfl (by decide) (by decide +kernel) rfl ?_
      refine pv_e_bk (ps := [(74, .iload_n 3, 1), (75, .iload 5, 2), (77, .aload_n 0, 1)]) (t' := (0, 0, 78, [some (.ref 40), some (.ref v1), some (.int v2), some (.int q4), some (.int q8), some (.int q11)], [.ref 40, .int q11, .int q4, .ref 45], pv_mm s15 T)) (by decide +kernel) rfl ?_
      refine pv_e_gc (i := 27) (ci := 3) (j := 4) (pc' := 81) (by decide +kernel) (by decide) rfl rfl rfl ?_
      obtain ⟨s18, e17, h⟩ := Option.bind_eq_some_iff.mp h
      refine pv_e_cvv (d := d + 3) (i := 66) (z := 15) (np := 3) (ml := 4) (ci := 1) (As := [.int q4, .int q11, .int (s15 40 4)]) (rs := []) (pc' := 84) (by decide +kernel) rfl rfl rfl rfl (Nat.le_of_ble_eq_true rfl) (Nat.le_of_ble_eq_true rfl) rfl (ee15 (d + 0) 45 q4 q11 (s15 40 4) (by decide) e17) ?_
      refine pv_e_bk (ps := [(84, .iinc 2 1, 3), (87, .goto (-85), 3)]) (t' := (0, 0, 2, [some (.ref 40), some (.ref v1), some (.int (v2 + (1:Int32))), some (.int q4), some (.int q8), some (.int q11)], [], pv_mm s18 T)) (by decide +kernel) rfl ?_
      obtain rfl := Option.some.inj h
      exact hK _ _ _
theorem ee34 {xs : Nat → Int32} {L : Nat} (d : Nat) (x1 : Nat) {s : pv_F} {T : pv_T} {q : Int32 × pv_F} (g1 : x1 ∈ pv_rows) (h : f34_judgeCalls x1 s = some q) : pv_Ev xs L (d + 4) 34 (0, 0, 0, [some (.ref 40), some (.ref x1), none, none, none, none], [], pv_mm s T) (some (.int q.1), pv_mm q.2 T) := by
  generalize hr : ((some (.int q.1), pv_mm q.2 T) : Option Value × pv_M) = r
  unfold f34_judgeCalls at h
  refine pv_e_bk (ps := [(0, .iconst 0, 1), (1, .istore_n 2, 1)]) (t' := (0, 0, 2, [some (.ref 40), some (.ref x1), some (.int (0:Int32)), none, none, none], [], pv_mm s T)) (by decide +kernel) rfl ?_
  obtain ⟨o23, e22, h⟩ := Option.bind_eq_some_iff.mp h
  refine pv_lp_ok (H := f34_judgeCalls_b1_H xs L d r T x1) (X := f34_judgeCalls_b1_X xs L d r T x1) (Z := (fun q => (some (.int q.1), pv_mm q.2 T) = r)) (f34_judgeCalls_b1_ok (xs := xs) (L := L) (d := d) (r := r) (T := T) (v1 := x1) g1) 20000 _ _ e22 ?_ _ _ _
  rcases o23 with ⟨w19, s20⟩ | q
  · dsimp only at h ⊢
    show ∀ z2 : Option Value, ∀ z3 : Option Value, ∀ z4 : Option Value, ∀ z5 : Option Value, pv_Ev xs L (d + 4) 34 (0, 0, 90, [some (.ref 40), some (.ref x1), z2, z3, z4, z5], [], pv_mm s20 T) r
    intro z2 z3 z4 z5
    refine pv_e_bk (ps := [(90, .aload_n 1, 1)]) (t' := (0, 0, 91, [some (.ref 40), some (.ref x1), z2, z3, z4, z5], [.ref x1], pv_mm s20 T)) (by decide +kernel) rfl ?_
    refine pv_e_gc (i := 48) (ci := 2) (j := 2) (pc' := 94) (by decide +kernel) (by have := (rw_ g1).2.2; omega) (rw_ g1).1 rfl rfl ?_
    obtain rfl := Option.some.inj h
    cases hr
    exact pv_e_ri (by decide +kernel)
  · dsimp only at h ⊢
    obtain rfl := Option.some.inj h
    exact hr
def f35_goOn (x1 : Int32) (x2 : Int32) (x3 : Int32) (s : pv_F) : Option (pv_F) :=
  (pv_ra 41 7 (x1 + (1:Int32))).bind fun o1 =>
  (pv_ra 41 7 x1).bind fun o4 =>
  (f5_take o1 o4 s).bind fun s8 =>
  (pv_ra 41 7 (x1 + (1:Int32))).bind fun o9 =>
  (f15_wearBy o9 x2 x3 (s8 40 4) s8).bind fun s13 =>
  some s13
theorem ee35 {xs : Nat → Int32} {L : Nat} (d : Nat) (x1 : Int32) (x2 : Int32) (x3 : Int32) {s : pv_F} {T : pv_T} {q : pv_F}  (h : f35_goOn x1 x2 x3 s = some q) : pv_Ev xs L (d + 4) 35 (0, 0, 0, [some (.ref 40), some (.int x1), some (.int x2), some (.int x3)], [], pv_mm s T) (none, pv_mm q T) := by
  generalize hr : ((none, pv_mm q T) : Option Value × pv_M) = r
  unfold f35_goOn at h
  refine pv_e_bk (ps := [(0, .aload_n 0, 1)]) (t' := (0, 0, 1, [some (.ref 40), some (.int x1), some (.int x2), some (.int x3)], [.ref 40], pv_mm s T)) (by decide +kernel) rfl ?_
  refine pv_e_gr (i := 11) (ci := 3) (j := 0) (b := 41) (pc' := 4) (by decide +kernel) rfl rfl rfl ?_
  refine pv_e_bk (ps := [(4, .iload_n 1, 1), (5, .iconst 1, 1), (6, .iadd, 1)]) (t' := (0, 0, 7, [some (.ref 40), some (.int x1), some (.int x2), some (.int x3)], [.int (x1 + (1:Int32)), .ref 41], pv_mm s T)) (by decide +kernel) rfl ?_
  obtain ⟨o1, e2, h⟩ := Option.bind_eq_some_iff.mp h
  have g3 := ra_levels e2
  refine pv_e_ra (zz := 7) (pc' := 8) (by decide +kernel) rfl (by decide) e2 rfl ?_
  refine pv_e_bk (ps := [(8, .aload_n 0, 1)]) (t' := (0, 0, 9, [some (.ref 40), some (.int x1), some (.int x2), some (.int x3)], [.ref 40, .ref o1], pv_mm s T)) (by decide +kernel) rfl ?_
  refine pv_e_gr (i := 11) (ci := 3) (j := 0) (b := 41) (pc' := 12) (by decide +kernel) rfl rfl rfl ?_
  refine pv_e_bk (ps := [(12, .iload_n 1, 1)]) (t' := (0, 0, 13, [some (.ref 40), some (.int x1), some (.int x2), some (.int x3)], [.int x1, .ref 41, .ref o1], pv_mm s T)) (by decide +kernel) rfl ?_
  obtain ⟨o4, e5, h⟩ := Option.bind_eq_some_iff.mp h
  have g6 := ra_levels e5
  refine pv_e_ra (zz := 7) (pc' := 14) (by decide +kernel) rfl (by decide) e5 rfl ?_
  obtain ⟨s8, e7, h⟩ := Option.bind_eq_some_iff.mp h
  refine pv_e_cvv (d := d + 3) (i := 44) (z := 5) (np := 1) (ml := 2) (ci := 1) (As := [.ref o4]) (rs := []) (pc' := 17) (by decide +kernel) (fk g3).1 rfl rfl rfl (Nat.le_of_ble_eq_true rfl) (Nat.le_of_ble_eq_true rfl) rfl (ee5 (d + 2) o1 o4 g3 g6 e7) ?_
  refine pv_e_bk (ps := [(17, .aload_n 0, 1)]) (t' := (0, 0, 18, [some (.ref 40), some (.int x1), some (.int x2), some (.int x3)], [.ref 40], pv_mm s8 T)) (by decide +kernel) rfl ?_
  refine pv_e_gr (i := 11) (ci := 3) (j := 0) (b := 41) (pc' := 21) (by decide +kernel) rfl rfl rfl ?_
  refine pv_e_bk (ps := [(21, .iload_n 1, 1), (22, .iconst 1, 1), (23, .iadd, 1)]) (t' := (0, 0, 24, [some (.ref 40), some (.int x1), some (.int x2), some (.int x3)], [.int (x1 + (1:Int32)), .ref 41], pv_mm s8 T)) (by decide +kernel) rfl ?_
  obtain ⟨o9, e10, h⟩ := Option.bind_eq_some_iff.mp h
  have g11 := ra_levels e10
  refine pv_e_ra (zz := 7) (pc' := 25) (by decide +kernel) rfl (by decide) e10 rfl ?_
  refine pv_e_bk (ps := [(25, .iload_n 2, 1), (26, .iload_n 3, 1), (27, .aload_n 0, 1)]) (t' := (0, 0, 28, [some (.ref 40), some (.int x1), some (.int x2), some (.int x3)], [.ref 40, .int x3, .int x2, .ref o9], pv_mm s8 T)) (by decide +kernel) rfl ?_
  refine pv_e_gc (i := 27) (ci := 3) (j := 4) (pc' := 31) (by decide +kernel) (by decide) rfl rfl rfl ?_
  obtain ⟨s13, e12, h⟩ := Option.bind_eq_some_iff.mp h
  refine pv_e_cvv (d := d + 3) (i := 66) (z := 15) (np := 3) (ml := 4) (ci := 1) (As := [.int x2, .int x3, .int (s8 40 4)]) (rs := []) (pc' := 34) (by decide +kernel) (fk g11).1 rfl rfl rfl (Nat.le_of_ble_eq_true rfl) (Nat.le_of_ble_eq_true rfl) rfl (ee15 (d + 0) o9 x2 x3 (s8 40 4) g11 e12) ?_
  obtain rfl := Option.some.inj h
  cases hr
  exact pv_e_rv (by decide +kernel)
def f36_takeTrial (x1 : Int32) (x2 : Int32) (s : pv_F) : Option (pv_F) :=
  (pv_pf s 40 6 x2).bind fun s1 =>
  (pv_cy s1 42 6 43 6 (0:Int32) (0:Int32) x1).bind fun s3 =>
  some s3
theorem ee36 {xs : Nat → Int32} {L : Nat} (d : Nat) (x1 : Int32) (x2 : Int32) {s : pv_F} {T : pv_T} {q : pv_F}  (h : f36_takeTrial x1 x2 s = some q) : pv_Ev xs L (d + 1) 36 (0, 0, 0, [some (.ref 40), some (.int x1), some (.int x2)], [], pv_mm s T) (none, pv_mm q T) := by
  generalize hr : ((none, pv_mm q T) : Option Value × pv_M) = r
  unfold f36_takeTrial at h
  refine pv_e_bk (ps := [(0, .aload_n 0, 1), (1, .iload_n 2, 1)]) (t' := (0, 0, 2, [some (.ref 40), some (.int x1), some (.int x2)], [.int x2, .ref 40], pv_mm s T)) (by decide +kernel) rfl ?_
  obtain ⟨s1, e2, h⟩ := Option.bind_eq_some_iff.mp h
  refine pv_e_pcs (i := 34) (ci := 3) (j := 6) (pc' := 5) (by decide +kernel) rfl rfl (by decide) rfl rfl e2 rfl ?_
  refine pv_e_bk (ps := [(5, .aload_n 0, 1)]) (t' := (0, 0, 6, [some (.ref 40), some (.int x1), some (.int x2)], [.ref 40], pv_mm s1 T)) (by decide +kernel) rfl ?_
  refine pv_e_gr (i := 17) (ci := 3) (j := 1) (b := 42) (pc' := 9) (by decide +kernel) rfl rfl rfl ?_
  refine pv_e_bk (ps := [(9, .iconst 0, 1), (10, .aload_n 0, 1)]) (t' := (0, 0, 11, [some (.ref 40), some (.int x1), some (.int x2)], [.ref 40, .int (0:Int32), .ref 42], pv_mm s1 T)) (by decide +kernel) rfl ?_
  refine pv_e_gr (i := 21) (ci := 3) (j := 2) (b := 43) (pc' := 14) (by decide +kernel) rfl rfl rfl ?_
  refine pv_e_bk (ps := [(14, .iconst 0, 1), (15, .iload_n 1, 1)]) (t' := (0, 0, 16, [some (.ref 40), some (.int x1), some (.int x2)], [.int x1, .int (0:Int32), .ref 43, .int (0:Int32), .ref 42], pv_mm s1 T)) (by decide +kernel) rfl ?_
  obtain ⟨s3, e4, h⟩ := Option.bind_eq_some_iff.mp h
  refine pv_e_cy (i := 70) (pc' := 19) (by decide +kernel) (Nat.le_add_left 1 _) (by decide) (by decide) rfl rfl (Nat.le_of_ble_eq_true rfl) e4 rfl ?_
  obtain rfl := Option.some.inj h
  cases hr
  exact pv_e_rv (by decide +kernel)
def f37_seekOrder_b1 (rec : Nat → Int32 → Int32 → Int32 → pv_F → Option (pv_F)) (v1 : Nat) (v2 : Int32) (v3 : Int32) (v4 : Int32) (st : Int32 × pv_F) : Option ((Int32 × pv_F) ⊕ (Int32 × pv_F)) := match st with
  | (v5, s) =>
    if (s v1 2) ≤ v5 then
      some (.inr (v5, s))
    else
      (pv_rd s (v1 + 1) (pv_an (v1 + 1)) v5).bind fun q6 =>
      (pv_dv q6 (100:Int32)).bind fun q8 =>
      ((
        if ((pv_ush v3 v5) &&& (1:Int32)) = 0 then
          some (1:Int32)
        else
          some (0:Int32)) : Option (Int32)).bind fun t10 =>
      ((
        if t10 = 0 then
          some (0:Int32)
        else
          (pv_ra 41 7 v2).bind fun o28 =>
          (pv_rd s (v1 + 1) (pv_an (v1 + 1)) v5).bind fun q31 =>
          (pv_rmd q31 (100:Int32)).bind fun q33 =>
          (f12_comers o28 q8 q33 s).bind fun q36 =>
          some q36) : Option (Int32)).bind fun t11 =>
      (f224_bitCount t11).bind fun q13 =>
      ((
        if t11 = 0 then
          some s
        else
          if (s 40 6) ≤ ((v4 + q13) - (1:Int32)) then
            some s
          else
            (pv_wr s 42 6 v2 v5).bind fun s19 =>
            (f35_goOn v2 q8 t11 s19).bind fun s22 =>
            (rec v1 (v2 + (1:Int32)) (v3 ||| ((1:Int32) <<< (v5 &&& 31))) ((v4 + q13) - (1:Int32)) s22).bind fun s24 =>
            some s24) : Option (pv_F)).bind fun s14 =>
      some (.inl (v5 + (1:Int32), s14))
def f37_seekOrder_b1_H (xs : Nat → Int32) (L d : Nat) (r : Option Value × pv_M) (T : pv_T) (v1 : Nat) (v2 : Int32) (v3 : Int32) (v4 : Int32) (st : Int32 × pv_F) : Prop := match st with
  | (v5, s) => ∀ z6 : Option Value, ∀ z7 : Option Value, ∀ z8 : Option Value, ∀ z9 : Option Value, pv_Ev xs L (d + 6) 37 (0, 0, 25, [some (.ref 40), some (.ref v1), some (.int v2), some (.int v3), some (.int v4), some (.int v5), z6, z7, z8, z9], [], pv_mm s T) r
def f37_seekOrder_b1_X (xs : Nat → Int32) (L d : Nat) (r : Option Value × pv_M) (T : pv_T) (v1 : Nat) (v2 : Int32) (v3 : Int32) (v4 : Int32) (st : Int32 × pv_F) : Prop := match st with
  | (v5, s) => ∀ z5 : Option Value, ∀ z6 : Option Value, ∀ z7 : Option Value, ∀ z8 : Option Value, ∀ z9 : Option Value, pv_Ev xs L (d + 6) 37 (0, 0, 159, [some (.ref 40), some (.ref v1), some (.int v2), some (.int v3), some (.int v4), z5, z6, z7, z8, z9], [], pv_mm s T) r
def f37_seekOrder_s (rec : Nat → Int32 → Int32 → Int32 → pv_F → Option (pv_F)) (x1 : Nat) (x2 : Int32) (x3 : Int32) (x4 : Int32) (s : pv_F) : Option (pv_F) :=
  if (s x1 2) ≤ x2 then
    (f36_takeTrial x2 x4 s).bind fun s3 =>
    some s3
  else
    if x2 < (6:Int32) then
      (pv_lq (f37_seekOrder_b1 rec x1 x2 x3 x4) 20000 ((0:Int32), s)).bind fun (w40, s41) =>
      some s41
    else
      (f36_takeTrial x2 x4 s).bind fun s45 =>
      some s45
def f37_seekOrder : Nat → Nat → Int32 → Int32 → Int32 → pv_F → Option (pv_F)
  | 0 => fun _ _ _ _ _ => none
  | n + 1 => fun x1 x2 x3 x4 s => f37_seekOrder_s (f37_seekOrder n) x1 x2 x3 x4 s
theorem f37_seekOrder_b1_ok {xs : Nat → Int32} {L d : Nat} {r : Option Value × pv_M} {rec : Nat → Int32 → Int32 → Int32 → pv_F → Option (pv_F)} {T : pv_T} {v1 : Nat} {v2 : Int32} {v3 : Int32} {v4 : Int32} (hrec : ∀ (x1 : Nat) (x2 : Int32) (x3 : Int32) (x4 : Int32) (s : pv_F) (q : pv_F), x1 ∈ pv_rows → rec x1 x2 x3 x4 s = some q → pv_Ev xs L (d + 5) 37 (0, 0, 0, [some (.ref 40), some (.ref x1), some (.int x2), some (.int x3), some (.int x4), none, none, none, none, none], [], pv_mm s T) (none, pv_mm q T)) (g1 : v1 ∈ pv_rows) (st : Int32 × pv_F) (o : (Int32 × pv_F) ⊕ (Int32 × pv_F)) (h : f37_seekOrder_b1 rec v1 v2 v3 v4 st = some o) (hK : pv_Kq (f37_seekOrder_b1_H xs L d r T v1 v2 v3 v4) (f37_seekOrder_b1_X xs L d r T v1 v2 v3 v4) o) : f37_seekOrder_b1_H xs L d r T v1 v2 v3 v4 st := by
  obtain ⟨v5, s⟩ := st
  show ∀ z6 : Option Value, ∀ z7 : Option Value, ∀ z8 : Option Value, ∀ z9 : Option Value, pv_Ev xs L (d + 6) 37 (0, 0, 25, [some (.ref 40), some (.ref v1), some (.int v2), some (.int v3), some (.int v4), some (.int v5), z6, z7, z8, z9], [], pv_mm s T) r
  intro z6 z7 z8 z9
  unfold f37_seekOrder_b1 at h
  dsimp only at h
  refine pv_e_bk (ps := [(25, .iload 5, 2), (27, .aload_n 1, 1)]) (t' := (0, 0, 28, [some (.ref 40), some (.ref v1), some (.int v2), some (.int v3), some (.int v4), some (.int v5), z6, z7, z8, z9], [.ref v1, .int v5], pv_mm s T)) (by decide +kernel) rfl ?_
  refine pv_e_gc (i := 48) (ci := 2) (j := 2) (pc' := 31) (by decide +kernel) (by have := (rw_ g1).2.2; omega) (rw_ g1).1 rfl rfl ?_
  refine pv_e_icmpge (off := 128) (b := 159) (pc' := 34) (by decide +kernel) (by decide +kernel) rfl (fun c5 => ?_) (fun c5 => ?_)
  · rw [if_pos c5] at h
    obtain rfl := Option.some.inj h
    exact hK _ _ _ _ _
  · rw [if_neg c5] at h
    refine pv_e_bk (ps := [(34, .aload_n 1, 1)]) (t' := (0, 0, 35, [some (.ref 40), some (.ref v1), some (.int v2), some (.int v3), some (.int v4), some (.int v5), z6, z7, z8, z9], [.ref v1], pv_mm s T)) (by decide +kernel) rfl ?_
    refine pv_e_gr (i := 53) (ci := 2) (j := 0) (b := v1 + 1) (pc' := 38) (by decide +kernel) (rw_ g1).1 rfl rfl ?_
    refine pv_e_bk (ps := [(38, .iload 5, 2)]) (t' := (0, 0, 40, [some (.ref 40), some (.ref v1), some (.int v2), some (.int v3), some (.int v4), some (.int v5), z6, z7, z8, z9], [.int v5, .ref (v1 + 1)], pv_mm s T)) (by decide +kernel) rfl ?_
    obtain ⟨q6, e7, h⟩ := Option.bind_eq_some_iff.mp h
    refine pv_e_rc (pc' := 41) (by decide +kernel) (rw_ g1).2.2 (rw_ g1).2.1 e7 rfl ?_
    refine pv_e_bk (ps := [(41, .bipush 100, 2)]) (t' := (0, 0, 43, [some (.ref 40), some (.ref v1), some (.int v2), some (.int v3), some (.int v4), some (.int v5), z6, z7, z8, z9], [.int (100:Int32), .int q6], pv_mm s T)) (by decide +kernel) rfl ?_
    obtain ⟨q8, e9, h⟩ := Option.bind_eq_some_iff.mp h
    refine pv_e_dv (pc' := 44) (by decide +kernel) e9 rfl ?_
    refine pv_e_bk (ps := [(44, .istore 6, 2), (46, .iload_n 3, 1), (47, .iload 5, 2), (49, .iushr, 1), (50, .iconst 1, 1), (51, .iand, 1)]) (t' := (0, 0, 52, [some (.ref 40), some (.ref v1), some (.int v2), some (.int v3), some (.int v4), some (.int v5), some (.int q8), z7, z8, z9], [.int ((pv_ush v3 v5) &&& (1:Int32))], pv_mm s T)) (by decide +kernel) rfl ?_
    obtain ⟨t10, hv37, h⟩ := Option.bind_eq_some_iff.mp h
    have hJ38 : pv_Ev xs L (d + 6) 37 (0, 0, 60, [some (.ref 40), some (.ref v1), some (.int v2), some (.int v3), some (.int v4), some (.int v5), some (.int q8), z7, z8, z9], [.int t10], pv_mm s T) r := by
      refine pv_e_bk (ps := [(60, .istore 7, 2), (62, .iload 7, 2)]) (t' := (0, 0, 64, [some (.ref 40), some (.ref v1), some (.int v2), some (.int v3), some (.int v4), some (.int v5), some (.int q8), some (.int t10), z8, z9], [.int t10], pv_mm s T)) (by decide +kernel) rfl ?_
      obtain ⟨t11, hv25, h⟩ := Option.bind_eq_some_iff.mp h
      have hJ26 : pv_Ev xs L (d + 6) 37 (0, 0, 92, [some (.ref 40), some (.ref v1), some (.int v2), some (.int v3), some (.int v4), some (.int v5), some (.int q8), some (.int t10), z8, z9], [.int t11], pv_mm s T) r := by
        refine pv_e_bk (ps := [(92, .istore 8, 2), (94, .iload 4, 2), (96, .iload 8, 2)]) (t' := (0, 0, 98, [some (.ref 40), some (.ref v1), some (.int v2), some (.int v3), some (.int v4), some (.int v5), some (.int q8), some (.int t10), some (.int t11), z9], [.int t11, .int v4], pv_mm s T)) (by decide +kernel) rfl ?_
        obtain ⟨q13, e12, h⟩ := Option.bind_eq_some_iff.mp h
        refine pv_e_csi (d := d + 5) (i := 60) (z := 224) (np := 1) (ml := 1) (As := [.int t11]) (rs := [.int v4]) (pc' := 101) (by decide +kernel) rfl rfl rfl (Nat.le_of_ble_eq_true rfl) (Nat.le_of_ble_eq_true rfl) rfl (ee224 (d + 5) t11 e12) ?_
        refine pv_e_bk (ps := [(101, .iadd, 1), (102, .iconst 1, 1), (103, .isub, 1), (104, .istore 9, 2), (106, .iload 8, 2)]) (t' := (0, 0, 108, [some (.ref 40), some (.ref v1), some (.int v2), some (.int v3), some (.int v4), some (.int v5), some (.int q8), some (.int t10), some (.int t11), some (.int ((v4 + q13) - (1:Int32)))], [.int t11], pv_mm s T)) (by decide +kernel) rfl ?_
        obtain ⟨s14, hv15, h⟩ := Option.bind_eq_some_iff.mp h
        have hJ16 : pv_Ev xs L (d + 6) 37 (0, 0, 153, [some (.ref 40), some (.ref v1), some (.int v2), some (.int v3), some (.int v4), some (.int v5), some (.int q8), some (.int t10), some (.int t11), some (.int ((v4 + q13) - (1:Int32)))], [], pv_mm s14 T) r := by
          refine pv_e_bk (ps := [(153, .iinc 5 1, 3), (156, .goto (-131), 3)]) (t' := (0, 0, 25, [some (.ref 40), some (.ref v1), some (.int v2), some (.int v3), some (.int v4), some (.int (v5 + (1:Int32))), some (.int q8), some (.int t10), some (.int t11), some (.int ((v4 + q13) - (1:Int32)))], [], pv_mm s14 T)) (by decide +kernel) rfl ?_
          obtain rfl := Option.some.inj h
          exact hK _ _ _ _
        clear h
        have h := hv15
        clear hv15
        refine pv_e_ifeq (off := 45) (b := 153) (pc' := 111) (by decide +kernel) (by decide +kernel) rfl (fun c17 => ?_) (fun c17 => ?_)
        · rw [if_pos c17] at h
          obtain rfl := Option.some.inj h
          exact hJ16
        · rw [if_neg c17] at h
          refine pv_e_bk (ps := [(111, .iload 9, 2), (113, .aload_n 0, 1)]) (t' := (0, 0, 114, [some (.ref 40), some (.ref v1), some (.int v2), some (.int v3), some (.int v4), some (.int v5), some (.int q8), some (.int t10), some (.int t11), some (.int ((v4 + q13) - (1:Int32)))], [.ref 40, .int ((v4 + q13) - (1:Int32))], pv_mm s T)) (by decide +kernel) rfl ?_
          refine pv_e_gc (i := 34) (ci := 3) (j := 6) (pc' := 117) (by decide +kernel) (by decide) rfl rfl rfl ?_
          refine pv_e_icmpge (off := 36) (b := 153) (pc' := 120) (by decide +kernel) (by decide +kernel) rfl (fun c18 => ?_) (fun c18 => ?_)
          · rw [if_pos c18] at h
            obtain rfl := Option.some.inj h
            exact hJ16
          · rw [if_neg c18] at h
            refine pv_e_bk (ps := [(120, .aload_n 0, 1)]) (t' := (0, 0, 121, [some (.ref 40), some (.ref v1), some (.int v2), some (.int v3), some (.int v4), some (.int v5), some (.int q8), some (.int t10), some (.int t11), some (.int ((v4 + q13) - (1:Int32)))], [.ref 40], pv_mm s T)) (by decide +kernel) rfl ?_
            refine pv_e_gr (i := 17) (ci := 3) (j := 1) (b := 42) (pc' := 124) (by decide +kernel) rfl rfl rfl ?_
            refine pv_e_bk (ps := [(124, .iload_n 2, 1), (125, .iload 5, 2)]) (t' := (0, 0, 127, [some (.ref 40), some (.ref v1), some (.int v2), some (.int v3), some (.int v4), some (.int v5), some (.int q8), some (.int t10), some (.int t11), some (.int ((v4 + q13) - (1:Int32)))], [.int v5, .int v2, .ref 42], pv_mm s T)) (by decide +kernel) rfl ?_
            obtain ⟨s19, e20, h⟩ := Option.bind_eq_some_iff.mp h
            refine pv_e_wc (pc' := 128) (by decide +kernel) (by decide) rfl e20 rfl ?_
            refine pv_e_bk (ps := [(128, .aload_n 0, 1), (129, .iload_n 2, 1), (130, .iload 6, 2), (132, .iload 8, 2)]) (t' := (0, 0, 134, [some (.ref 40), some (.ref v1), some (.int v2), some (.int v3), some (.int v4), some (.int v5), some (.int q8), some (.int t10), some (.int t11), some (.int ((v4 + q13) - (1:Int32)))], [.int t11, .int q8, .int v2, .ref 40], pv_mm s19 T)) (by decide +kernel) rfl ?_
            obtain ⟨s22, e21, h⟩ := Option.bind_eq_some_iff.mp h
            refine pv_e_cvv (d := d + 5) (i := 80) (z := 35) (np := 3) (ml := 4) (ci := 3) (As := [.int v2, .int q8, .int t11]) (rs := []) (pc' := 137) (by decide +kernel) rfl rfl rfl rfl (Nat.le_of_ble_eq_true rfl) (Nat.le_of_ble_eq_true rfl) rfl (ee35 (d + 1) v2 q8 t11 e21) ?_
            refine pv_e_bk (ps := [(137, .aload_n 0, 1), (138, .aload_n 1, 1), (139, .iload_n 2, 1), (140, .iconst 1, 1), (141, .iadd, 1), (142, .iload_n 3, 1), (143, .iconst 1, 1), (144, .iload 5, 2), (146, .ishl, 1), (147, .ior, 1), (148, .iload 9, 2)]) (t' := (0, 0, 150, [some (.ref 40), some (.ref v1), some (.int v2), some (.int v3), some (.int v4), some (.int v5), some (.int q8), some (.int t10), some (.int t11), some (.int ((v4 + q13) - (1:Int32)))], [.int ((v4 + q13) - (1:Int32)), .int (v3 ||| ((1:Int32) <<< (v5 &&& 31))), .int (v2 + (1:Int32)), .ref v1, .ref 40], pv_mm s22 T)) (by decide +kernel) rfl ?_
            obtain ⟨s24, e23, h⟩ := Option.bind_eq_some_iff.mp h
            refine pv_e_cvv (d := d + 5) (i := 83) (z := 37) (np := 4) (ml := 10) (ci := 3) (As := [.ref v1, .int (v2 + (1:Int32)), .int (v3 ||| ((1:Int32) <<< (v5 &&& 31))), .int ((v4 + q13) - (1:Int32))]) (rs := []) (pc' := 153) (by decide +kernel) rfl rfl rfl rfl (Nat.le_of_ble_eq_true rfl) (Nat.le_of_ble_eq_true rfl) rfl (hrec v1 (v2 + (1:Int32)) (v3 ||| ((1:Int32) <<< (v5 &&& 31))) ((v4 + q13) - (1:Int32)) s22 _ g1 e23) ?_
            obtain rfl := Option.some.inj h
            exact hJ16
      clear h
      have h := hv25
      clear hv25
      refine pv_e_ifeq (off := 27) (b := 91) (pc' := 67) (by decide +kernel) (by decide +kernel) rfl (fun c27 => ?_) (fun c27 => ?_)
      · rw [if_pos c27] at h
        refine pv_e_bk (ps := [(91, .iconst 0, 1)]) (t' := (0, 0, 92, [some (.ref 40), some (.ref v1), some (.int v2), some (.int v3), some (.int v4), some (.int v5), some (.int q8), some (.int t10), z8, z9], [.int (0:Int32)], pv_mm s T)) (by decide +kernel) rfl ?_
        obtain rfl := Option.some.inj h
        exact hJ26
      · rw [if_neg c27] at h
        refine pv_e_bk (ps := [(67, .aload_n 0, 1)]) (t' := (0, 0, 68, [some (.ref 40), some (.ref v1), some (.int v2), some (.int v3), some (.int v4), some (.int v5), some (.int q8), some (.int t10), z8, z9], [.ref 40], pv_mm s T)) (by decide +kernel) rfl ?_
        refine pv_e_gr (i := 11) (ci := 3) (j := 0) (b := 41) (pc' := 71) (by decide +kernel) rfl rfl rfl ?_
        refine pv_e_bk (ps := [(71, .iload_n 2, 1)]) (t' := (0, 0, 72, [some (.ref 40), some (.ref v1), some (.int v2), some (.int v3), some (.int v4), some (.int v5), some (.int q8), some (.int t10), z8, z9], [.int v2, .ref 41], pv_mm s T)) (by decide +kernel) rfl ?_
        obtain ⟨o28, e29, h⟩ := Option.bind_eq_some_iff.mp h
        have g30 := ra_levels e29
        refine pv_e_ra (zz := 7) (pc' := 73) (by decide +kernel) rfl (by decide) e29 rfl ?_
        refine pv_e_bk (ps := [(73, .iload 6, 2), (75, .aload_n 1, 1)]) (t' := (0, 0, 76, [some (.ref 40), some (.ref v1), some (.int v2), some (.int v3), some (.int v4), some (.int v5), some (.int q8), some (.int t10), z8, z9], [.ref v1, .int q8, .ref o28], pv_mm s T)) (by decide +kernel) rfl ?_
        refine pv_e_gr (i := 53) (ci := 2) (j := 0) (b := v1 + 1) (pc' := 79) (by decide +kernel) (rw_ g1).1 rfl rfl ?_
        refine pv_e_bk (ps := [(79, .iload 5, 2)]) (t' := (0, 0, 81, [some (.ref 40), some (.ref v1), some (.int v2), some (.int v3), some (.int v4), some (.int v5), some (.int q8), some (.int t10), z8, z9], [.int v5, .ref (v1 + 1), .int q8, .ref o28], pv_mm s T)) (by decide +kernel) rfl ?_
        obtain ⟨q31, e32, h⟩ := Option.bind_eq_some_iff.mp h
        refine pv_e_rc (pc' := 82) (by decide +kernel) (rw_ g1).2.2 (rw_ g1).2.1 e32 rfl ?_
        refine pv_e_bk (ps := [(82, .bipush 100, 2)]) (t' := (0, 0, 84, [some (.ref 40), some (.ref v1), some (.int v2), some (.int v3), some (.int v4), some (.int v5), some (.int q8), some (.int t10), z8, z9], [.int (100:Int32), .int q31, .int q8, .ref o28], pv_mm s T)) (by decide +kernel) rfl ?_
        obtain ⟨q33, e34, h⟩ := Option.bind_eq_some_iff.mp h
        refine pv_e_rm_ (pc' := 85) (by decide +kernel) e34 rfl ?_
        obtain ⟨q36, e35, h⟩ := Option.bind_eq_some_iff.mp h
        refine pv_e_cvi (d := d + 5) (i := 56) (z := 12) (np := 2) (ml := 4) (ci := 1) (As := [.int q8, .int q33]) (rs := []) (pc' := 88) (by decide +kernel) (fk g30).1 rfl rfl rfl (Nat.le_of_ble_eq_true rfl) (Nat.le_of_ble_eq_true rfl) rfl (ee12 (d + 3) o28 q8 q33 g30 e35) ?_
        refine pv_e_bk (ps := [(88, .goto 4, 3)]) (t' := (0, 0, 92, [some (.ref 40), some (.ref v1), some (.int v2), some (.int v3), some (.int v4), some (.int v5), some (.int q8), some (.int t10), z8, z9], [.int q36], pv_mm s T)) (by decide +kernel) rfl ?_
        obtain rfl := Option.some.inj h
        exact hJ26
    clear h
    have h := hv37
    clear hv37
    refine pv_e_ifne (off := 7) (b := 59) (pc' := 55) (by decide +kernel) (by decide +kernel) rfl (fun c39 => ?_) (fun c39 => ?_)
    · rw [if_pos c39] at h
      refine pv_e_bk (ps := [(55, .iconst 1, 1), (56, .goto 4, 3)]) (t' := (0, 0, 60, [some (.ref 40), some (.ref v1), some (.int v2), some (.int v3), some (.int v4), some (.int v5), some (.int q8), z7, z8, z9], [.int (1:Int32)], pv_mm s T)) (by decide +kernel) rfl ?_
      obtain rfl := Option.some.inj h
      exact hJ38
    · rw [if_neg c39] at h
      refine pv_e_bk (ps := [(59, .iconst 0, 1)]) (t' := (0, 0, 60, [some (.ref 40), some (.ref v1), some (.int v2), some (.int v3), some (.int v4), some (.int v5), some (.int q8), z7, z8, z9], [.int (0:Int32)], pv_mm s T)) (by decide +kernel) rfl ?_
      obtain rfl := Option.some.inj h
      exact hJ38
theorem ee37_s {xs : Nat → Int32} {L d : Nat} {rec : Nat → Int32 → Int32 → Int32 → pv_F → Option (pv_F)} {x1 : Nat} {x2 : Int32} {x3 : Int32} {x4 : Int32} {s : pv_F} {T : pv_T} {q : pv_F} (hrec : ∀ (x1 : Nat) (x2 : Int32) (x3 : Int32) (x4 : Int32) (s : pv_F) (q : pv_F), x1 ∈ pv_rows → rec x1 x2 x3 x4 s = some q → pv_Ev xs L (d + 5) 37 (0, 0, 0, [some (.ref 40), some (.ref x1), some (.int x2), some (.int x3), some (.int x4), none, none, none, none, none], [], pv_mm s T) (none, pv_mm q T)) (g1 : x1 ∈ pv_rows) (h : f37_seekOrder_s rec x1 x2 x3 x4 s = some q) : pv_Ev xs L (d + 6) 37 (0, 0, 0, [some (.ref 40), some (.ref x1), some (.int x2), some (.int x3), some (.int x4), none, none, none, none, none], [], pv_mm s T) (none, pv_mm q T) := by
  generalize hr : ((none, pv_mm q T) : Option Value × pv_M) = r
  unfold f37_seekOrder_s at h
  refine pv_e_bk (ps := [(0, .iload_n 2, 1), (1, .aload_n 1, 1)]) (t' := (0, 0, 2, [some (.ref 40), some (.ref x1), some (.int x2), some (.int x3), some (.int x4), none, none, none, none, none], [.ref x1, .int x2], pv_mm s T)) (by decide +kernel) rfl ?_
  refine pv_e_gc (i := 48) (ci := 2) (j := 2) (pc' := 5) (by decide +kernel) (by have := (rw_ g1).2.2; omega) (rw_ g1).1 rfl rfl ?_
  refine pv_e_icmpge (off := 9) (b := 14) (pc' := 8) (by decide +kernel) (by decide +kernel) rfl (fun c1 => ?_) (fun c1 => ?_)
  · rw [if_pos c1] at h
    refine pv_e_bk (ps := [(14, .aload_n 0, 1), (15, .iload_n 2, 1), (16, .iload 4, 2)]) (t' := (0, 0, 18, [some (.ref 40), some (.ref x1), some (.int x2), some (.int x3), some (.int x4), none, none, none, none, none], [.int x4, .int x2, .ref 40], pv_mm s T)) (by decide +kernel) rfl ?_
    obtain ⟨s3, e2, h⟩ := Option.bind_eq_some_iff.mp h
    refine pv_e_cvv (d := d + 5) (i := 76) (z := 36) (np := 2) (ml := 3) (ci := 3) (As := [.int x2, .int x4]) (rs := []) (pc' := 21) (by decide +kernel) rfl rfl rfl rfl (Nat.le_of_ble_eq_true rfl) (Nat.le_of_ble_eq_true rfl) rfl (ee36 (d + 4) x2 x4 e2) ?_
    obtain rfl := Option.some.inj h
    cases hr
    exact pv_e_rv (by decide +kernel)
  · rw [if_neg c1] at h
    refine pv_e_bk (ps := [(8, .iload_n 2, 1), (9, .bipush 6, 2)]) (t' := (0, 0, 11, [some (.ref 40), some (.ref x1), some (.int x2), some (.int x3), some (.int x4), none, none, none, none, none], [.int (6:Int32), .int x2], pv_mm s T)) (by decide +kernel) rfl ?_
    refine pv_e_icmplt (off := 11) (b := 22) (pc' := 14) (by decide +kernel) (by decide +kernel) rfl (fun c4 => ?_) (fun c4 => ?_)
    · rw [if_pos c4] at h
      refine pv_e_bk (ps := [(22, .iconst 0, 1), (23, .istore 5, 2)]) (t' := (0, 0, 25, [some (.ref 40), some (.ref x1), some (.int x2), some (.int x3), some (.int x4), some (.int (0:Int32)), none, none, none, none], [], pv_mm s T)) (by decide +kernel) rfl ?_
      obtain ⟨⟨w40, s41⟩, e43, h⟩ := Option.bind_eq_some_iff.mp h
      dsimp only at h
      have hx42 : f37_seekOrder_b1_X xs L d r T x1 x2 x3 x4 (w40, s41) := by
        show ∀ z5 : Option Value, ∀ z6 : Option Value, ∀ z7 : Option Value, ∀ z8 : Option Value, ∀ z9 : Option Value, pv_Ev xs L (d + 6) 37 (0, 0, 159, [some (.ref 40), some (.ref x1), some (.int x2), some (.int x3), some (.int x4), z5, z6, z7, z8, z9], [], pv_mm s41 T) r
        intro z5 z6 z7 z8 z9
        obtain rfl := Option.some.inj h
        cases hr
        exact pv_e_rv (by decide +kernel)
      exact pv_lq_ok (H := f37_seekOrder_b1_H xs L d r T x1 x2 x3 x4) (X := f37_seekOrder_b1_X xs L d r T x1 x2 x3 x4) (f37_seekOrder_b1_ok (xs := xs) (L := L) (d := d) (r := r) (T := T) (v1 := x1) (v2 := x2) (v3 := x3) (v4 := x4) hrec g1) 20000 _ _ e43 hx42 _ _ _ _
    · rw [if_neg c4] at h
      refine pv_e_bk (ps := [(14, .aload_n 0, 1), (15, .iload_n 2, 1), (16, .iload 4, 2)]) (t' := (0, 0, 18, [some (.ref 40), some (.ref x1), some (.int x2), some (.int x3), some (.int x4), none, none, none, none, none], [.int x4, .int x2, .ref 40], pv_mm s T)) (by decide +kernel) rfl ?_
      obtain ⟨s45, e44, h⟩ := Option.bind_eq_some_iff.mp h
      refine pv_e_cvv (d := d + 5) (i := 76) (z := 36) (np := 2) (ml := 3) (ci := 3) (As := [.int x2, .int x4]) (rs := []) (pc' := 21) (by decide +kernel) rfl rfl rfl rfl (Nat.le_of_ble_eq_true rfl) (Nat.le_of_ble_eq_true rfl) rfl (ee36 (d + 4) x2 x4 e44) ?_
      obtain rfl := Option.some.inj h
      cases hr
      exact pv_e_rv (by decide +kernel)
theorem ee37 {xs : Nat → Int32} {L : Nat} (d : Nat) : ∀ (n : Nat) (x1 : Nat) (x2 : Int32) (x3 : Int32) (x4 : Int32) {s : pv_F} {T : pv_T} {q : pv_F} (g1 : x1 ∈ pv_rows) (h : f37_seekOrder n x1 x2 x3 x4 s = some q), pv_Ev xs L (d + n + 5) 37 (0, 0, 0, [some (.ref 40), some (.ref x1), some (.int x2), some (.int x3), some (.int x4), none, none, none, none, none], [], pv_mm s T) (none, pv_mm q T) := by
  intro n
  induction n with
  | zero => intros; next h => cases h
  | succ n ih =>
    intro x1 x2 x3 x4 s T q g1 h
    exact ee37_s (d := d + n) (fun x1 x2 x3 x4 s q k0 h => ih x1 x2 x3 x4 k0 h) g1 h
