-- printed by wip/whole/gen/parts.py: methods as functions over the ints of the memory, and that the pure machine runs so
def f1_hasRoomFor (o : Nat) (x1 : Int32) (s : pv_F) : Option (Int32) :=
  ((
    if (60:Int32) < ((s o 4) + x1) then
      some (0:Int32)
    else
      some (1:Int32)) : Option (Int32)).bind fun t1 =>
  (pv_bl t1).bind fun q2 => some q2
theorem ee1 {xs : Nat → Int32} {L : Nat} (d : Nat) (o : Nat) (x1 : Int32) {s : pv_F} {T : pv_T} {q : Int32} (g0 : o ∈ pv_deeds) (h : f1_hasRoomFor o x1 s = some q) : pv_Ev xs L (d + 0) 1 (0, 0, 0, [some (.ref o), some (.int x1)], [], pv_mm s T) (some (.int q), pv_mm s T) := by
  generalize hr : ((some (.int q), pv_mm s T) : Option Value × pv_M) = r
  unfold f1_hasRoomFor at h
  refine pv_e_bk (ps := [(0, .aload_n 0, 1)]) (t' := (0, 0, 1, [some (.ref o), some (.int x1)], [.ref o], pv_mm s T)) (by decide +kernel) rfl ?_
  refine pv_e_gc (i := 24) (ci := 0) (j := 4) (pc' := 4) (by decide +kernel) (by have := (dd g0).2.2.2.2.2; omega) (dd g0).1 rfl rfl ?_
  refine pv_e_bk (ps := [(4, .iload_n 1, 1), (5, .iadd, 1), (6, .bipush 60, 2)]) (t' := (0, 0, 8, [some (.ref o), some (.int x1)], [.int (60:Int32), .int ((s o 4) + x1)], pv_mm s T)) (by decide +kernel) rfl ?_
  obtain ⟨t1, hv4, h⟩ := Option.bind_eq_some_iff.mp h
  have hJ5 : pv_Ev xs L (d + 0) 1 (0, 0, 16, [some (.ref o), some (.int x1)], [.int t1], pv_mm s T) r := by
    obtain ⟨q2, e3, h⟩ := Option.bind_eq_some_iff.mp h
    obtain rfl := Option.some.inj h
    cases hr
    exact pv_e_rz (by decide +kernel) e3
  clear h
  have h := hv4
  clear hv4
  refine pv_e_icmpgt (off := 7) (b := 15) (pc' := 11) (by decide +kernel) (by decide +kernel) rfl (fun c6 => ?_) (fun c6 => ?_)
  · rw [if_pos c6] at h
    refine pv_e_bk (ps := [(15, .iconst 0, 1)]) (t' := (0, 0, 16, [some (.ref o), some (.int x1)], [.int (0:Int32)], pv_mm s T)) (by decide +kernel) rfl ?_
    obtain rfl := Option.some.inj h
    exact hJ5
  · rw [if_neg c6] at h
    refine pv_e_bk (ps := [(11, .iconst 1, 1), (12, .goto 4, 3)]) (t' := (0, 0, 16, [some (.ref o), some (.int x1)], [.int (1:Int32)], pv_mm s T)) (by decide +kernel) rfl ?_
    obtain rfl := Option.some.inj h
    exact hJ5
def f2_add (o : Nat) (x1 : Int32) (x2 : Int32) (x3 : Int32) (x4 : Int32) (s : pv_F) : Option (pv_F) :=
  (f1_hasRoomFor o (1:Int32) s).bind fun q2 =>
  ((
    if q2 = 0 then
      some s
    else
      (pv_wr s (o + 1) 60 (s o 4) x1).bind fun s7 =>
      (pv_wr s7 (o + 2) 60 (s7 o 4) x2).bind fun s9 =>
      (pv_wr s9 (o + 3) 60 (s9 o 4) x3).bind fun s11 =>
      (pv_wr s11 (o + 4) 60 (s11 o 4) x4).bind fun s13 =>
      (pv_pf s13 o 4 ((s13 o 4) + (1:Int32))).bind fun s15 =>
      some s15) : Option (pv_F)).bind fun s3 =>
  some s3
theorem ee2 {xs : Nat → Int32} {L : Nat} (d : Nat) (o : Nat) (x1 : Int32) (x2 : Int32) (x3 : Int32) (x4 : Int32) {s : pv_F} {T : pv_T} {q : pv_F} (g0 : o ∈ pv_deeds) (h : f2_add o x1 x2 x3 x4 s = some q) : pv_Ev xs L (d + 1) 2 (0, 0, 0, [some (.ref o), some (.int x1), some (.int x2), some (.int x3), some (.int x4)], [], pv_mm s T) (none, pv_mm q T) := by
  generalize hr : ((none, pv_mm q T) : Option Value × pv_M) = r
  unfold f2_add at h
  refine pv_e_bk (ps := [(0, .aload_n 0, 1), (1, .iconst 1, 1)]) (t' := (0, 0, 2, [some (.ref o), some (.int x1), some (.int x2), some (.int x3), some (.int x4)], [.int (1:Int32), .ref o], pv_mm s T)) (by decide +kernel) rfl ?_
  obtain ⟨q2, e1, h⟩ := Option.bind_eq_some_iff.mp h
  refine pv_e_cvi (d := d + 0) (i := 32) (z := 1) (np := 1) (ml := 2) (ci := 0) (As := [.int (1:Int32)]) (rs := []) (pc' := 5) (by decide +kernel) (dd g0).1 rfl rfl rfl (Nat.le_of_ble_eq_true rfl) (Nat.le_of_ble_eq_true rfl) rfl (ee1 (d + 0) o (1:Int32) g0 e1) ?_
  obtain ⟨s3, hv4, h⟩ := Option.bind_eq_some_iff.mp h
  have hJ5 : pv_Ev xs L (d + 1) 2 (0, 0, 59, [some (.ref o), some (.int x1), some (.int x2), some (.int x3), some (.int x4)], [], pv_mm s3 T) r := by
    obtain rfl := Option.some.inj h
    cases hr
    exact pv_e_rv (by decide +kernel)
  clear h
  have h := hv4
  clear hv4
  refine pv_e_ifeq (off := 54) (b := 59) (pc' := 8) (by decide +kernel) (by decide +kernel) rfl (fun c6 => ?_) (fun c6 => ?_)
  · rw [if_pos c6] at h
    obtain rfl := Option.some.inj h
    exact hJ5
  · rw [if_neg c6] at h
    refine pv_e_bk (ps := [(8, .aload_n 0, 1)]) (t' := (0, 0, 9, [some (.ref o), some (.int x1), some (.int x2), some (.int x3), some (.int x4)], [.ref o], pv_mm s T)) (by decide +kernel) rfl ?_
    refine pv_e_gr (i := 9) (ci := 0) (j := 0) (b := o + 1) (pc' := 12) (by decide +kernel) (dd g0).1 rfl rfl ?_
    refine pv_e_bk (ps := [(12, .aload_n 0, 1)]) (t' := (0, 0, 13, [some (.ref o), some (.int x1), some (.int x2), some (.int x3), some (.int x4)], [.ref o, .ref (o + 1)], pv_mm s T)) (by decide +kernel) rfl ?_
    refine pv_e_gc (i := 24) (ci := 0) (j := 4) (pc' := 16) (by decide +kernel) (by have := (dd g0).2.2.2.2.2; omega) (dd g0).1 rfl rfl ?_
    refine pv_e_bk (ps := [(16, .iload_n 1, 1)]) (t' := (0, 0, 17, [some (.ref o), some (.int x1), some (.int x2), some (.int x3), some (.int x4)], [.int x1, .int (s o 4), .ref (o + 1)], pv_mm s T)) (by decide +kernel) rfl ?_
    obtain ⟨s7, e8, h⟩ := Option.bind_eq_some_iff.mp h
    refine pv_e_wc (pc' := 18) (by decide +kernel) (by have := (dd g0).2.2.2.2.2; omega) (dd g0).2.1 e8 rfl ?_
    refine pv_e_bk (ps := [(18, .aload_n 0, 1)]) (t' := (0, 0, 19, [some (.ref o), some (.int x1), some (.int x2), some (.int x3), some (.int x4)], [.ref o], pv_mm s7 T)) (by decide +kernel) rfl ?_
    refine pv_e_gr (i := 15) (ci := 0) (j := 1) (b := o + 2) (pc' := 22) (by decide +kernel) (dd g0).1 rfl rfl ?_
    refine pv_e_bk (ps := [(22, .aload_n 0, 1)]) (t' := (0, 0, 23, [some (.ref o), some (.int x1), some (.int x2), some (.int x3), some (.int x4)], [.ref o, .ref (o + 2)], pv_mm s7 T)) (by decide +kernel) rfl ?_
    refine pv_e_gc (i := 24) (ci := 0) (j := 4) (pc' := 26) (by decide +kernel) (by have := (dd g0).2.2.2.2.2; omega) (dd g0).1 rfl rfl ?_
    refine pv_e_bk (ps := [(26, .iload_n 2, 1)]) (t' := (0, 0, 27, [some (.ref o), some (.int x1), some (.int x2), some (.int x3), some (.int x4)], [.int x2, .int (s7 o 4), .ref (o + 2)], pv_mm s7 T)) (by decide +kernel) rfl ?_
    obtain ⟨s9, e10, h⟩ := Option.bind_eq_some_iff.mp h
    refine pv_e_wc (pc' := 28) (by decide +kernel) (by have := (dd g0).2.2.2.2.2; omega) (dd g0).2.2.1 e10 rfl ?_
    refine pv_e_bk (ps := [(28, .aload_n 0, 1)]) (t' := (0, 0, 29, [some (.ref o), some (.int x1), some (.int x2), some (.int x3), some (.int x4)], [.ref o], pv_mm s9 T)) (by decide +kernel) rfl ?_
    refine pv_e_gr (i := 18) (ci := 0) (j := 2) (b := o + 3) (pc' := 32) (by decide +kernel) (dd g0).1 rfl rfl ?_
    refine pv_e_bk (ps := [(32, .aload_n 0, 1)]) (t' := (0, 0, 33, [some (.ref o), some (.int x1), some (.int x2), some (.int x3), some (.int x4)], [.ref o, .ref (o + 3)], pv_mm s9 T)) (by decide +kernel) rfl ?_
    refine pv_e_gc (i := 24) (ci := 0) (j := 4) (pc' := 36) (by decide +kernel) (by have := (dd g0).2.2.2.2.2; omega) (dd g0).1 rfl rfl ?_
    refine pv_e_bk (ps := [(36, .iload_n 3, 1)]) (t' := (0, 0, 37, [some (.ref o), some (.int x1), some (.int x2), some (.int x3), some (.int x4)], [.int x3, .int (s9 o 4), .ref (o + 3)], pv_mm s9 T)) (by decide +kernel) rfl ?_
    obtain ⟨s11, e12, h⟩ := Option.bind_eq_some_iff.mp h
    refine pv_e_wc (pc' := 38) (by decide +kernel) (by have := (dd g0).2.2.2.2.2; omega) (dd g0).2.2.2.1 e12 rfl ?_
    refine pv_e_bk (ps := [(38, .aload_n 0, 1)]) (t' := (0, 0, 39, [some (.ref o), some (.int x1), some (.int x2), some (.int x3), some (.int x4)], [.ref o], pv_mm s11 T)) (by decide +kernel) rfl ?_
    refine pv_e_gr (i := 21) (ci := 0) (j := 3) (b := o + 4) (pc' := 42) (by decide +kernel) (dd g0).1 rfl rfl ?_
    refine pv_e_bk (ps := [(42, .aload_n 0, 1)]) (t' := (0, 0, 43, [some (.ref o), some (.int x1), some (.int x2), some (.int x3), some (.int x4)], [.ref o, .ref (o + 4)], pv_mm s11 T)) (by decide +kernel) rfl ?_
    refine pv_e_gc (i := 24) (ci := 0) (j := 4) (pc' := 46) (by decide +kernel) (by have := (dd g0).2.2.2.2.2; omega) (dd g0).1 rfl rfl ?_
    refine pv_e_bk (ps := [(46, .iload 4, 2)]) (t' := (0, 0, 48, [some (.ref o), some (.int x1), some (.int x2), some (.int x3), some (.int x4)], [.int x4, .int (s11 o 4), .ref (o + 4)], pv_mm s11 T)) (by decide +kernel) rfl ?_
    obtain ⟨s13, e14, h⟩ := Option.bind_eq_some_iff.mp h
    refine pv_e_wc (pc' := 49) (by decide +kernel) (by have := (dd g0).2.2.2.2.2; omega) (dd g0).2.2.2.2.1 e14 rfl ?_
    refine pv_e_bk (ps := [(49, .aload_n 0, 1), (50, .dup, 1)]) (t' := (0, 0, 51, [some (.ref o), some (.int x1), some (.int x2), some (.int x3), some (.int x4)], [.ref o, .ref o], pv_mm s13 T)) (by decide +kernel) rfl ?_
    refine pv_e_gc (i := 24) (ci := 0) (j := 4) (pc' := 54) (by decide +kernel) (by have := (dd g0).2.2.2.2.2; omega) (dd g0).1 rfl rfl ?_
    refine pv_e_bk (ps := [(54, .iconst 1, 1), (55, .iadd, 1)]) (t' := (0, 0, 56, [some (.ref o), some (.int x1), some (.int x2), some (.int x3), some (.int x4)], [.int ((s13 o 4) + (1:Int32)), .ref o], pv_mm s13 T)) (by decide +kernel) rfl ?_
    obtain ⟨s15, e16, h⟩ := Option.bind_eq_some_iff.mp h
    refine pv_e_pcs (i := 24) (ci := 0) (j := 4) (pc' := 59) (by decide +kernel) rfl rfl (by have := (dd g0).2.2.2.2.2; omega) (dd g0).1 rfl e16 rfl ?_
    obtain rfl := Option.some.inj h
    exact hJ5
def f3_take (o : Nat) (x1 : Nat) (s : pv_F) : Option (pv_F) :=
  (pv_pf s o 4 (s x1 4)).bind fun s1 =>
  (pv_cy s1 (x1 + 1) 60 (o + 1) 60 (0:Int32) (0:Int32) (s1 o 4)).bind fun s3 =>
  (pv_cy s3 (x1 + 2) 60 (o + 2) 60 (0:Int32) (0:Int32) (s3 o 4)).bind fun s5 =>
  (pv_cy s5 (x1 + 3) 60 (o + 3) 60 (0:Int32) (0:Int32) (s5 o 4)).bind fun s7 =>
  (pv_cy s7 (x1 + 4) 60 (o + 4) 60 (0:Int32) (0:Int32) (s7 o 4)).bind fun s9 =>
  some s9
theorem ee3 {xs : Nat → Int32} {L : Nat} (d : Nat) (o : Nat) (x1 : Nat) {s : pv_F} {T : pv_T} {q : pv_F} (g0 : o ∈ pv_deeds) (g1 : x1 ∈ pv_deeds) (h : f3_take o x1 s = some q) : pv_Ev xs L (d + 1) 3 (0, 0, 0, [some (.ref o), some (.ref x1)], [], pv_mm s T) (none, pv_mm q T) := by
  generalize hr : ((none, pv_mm q T) : Option Value × pv_M) = r
  unfold f3_take at h
  refine pv_e_bk (ps := [(0, .aload_n 0, 1), (1, .aload_n 1, 1)]) (t' := (0, 0, 2, [some (.ref o), some (.ref x1)], [.ref x1, .ref o], pv_mm s T)) (by decide +kernel) rfl ?_
  refine pv_e_gc (i := 24) (ci := 0) (j := 4) (pc' := 5) (by decide +kernel) (by have := (dd g1).2.2.2.2.2; omega) (dd g1).1 rfl rfl ?_
  obtain ⟨s1, e2, h⟩ := Option.bind_eq_some_iff.mp h
  refine pv_e_pcs (i := 24) (ci := 0) (j := 4) (pc' := 8) (by decide +kernel) rfl rfl (by have := (dd g0).2.2.2.2.2; omega) (dd g0).1 rfl e2 rfl ?_
  refine pv_e_bk (ps := [(8, .aload_n 1, 1)]) (t' := (0, 0, 9, [some (.ref o), some (.ref x1)], [.ref x1], pv_mm s1 T)) (by decide +kernel) rfl ?_
  refine pv_e_gr (i := 9) (ci := 0) (j := 0) (b := x1 + 1) (pc' := 12) (by decide +kernel) (dd g1).1 rfl rfl ?_
  refine pv_e_bk (ps := [(12, .iconst 0, 1), (13, .aload_n 0, 1)]) (t' := (0, 0, 14, [some (.ref o), some (.ref x1)], [.ref o, .int (0:Int32), .ref (x1 + 1)], pv_mm s1 T)) (by decide +kernel) rfl ?_
  refine pv_e_gr (i := 9) (ci := 0) (j := 0) (b := o + 1) (pc' := 17) (by decide +kernel) (dd g0).1 rfl rfl ?_
  refine pv_e_bk (ps := [(17, .iconst 0, 1), (18, .aload_n 0, 1)]) (t' := (0, 0, 19, [some (.ref o), some (.ref x1)], [.ref o, .int (0:Int32), .ref (o + 1), .int (0:Int32), .ref (x1 + 1)], pv_mm s1 T)) (by decide +kernel) rfl ?_
  refine pv_e_gc (i := 24) (ci := 0) (j := 4) (pc' := 22) (by decide +kernel) (by have := (dd g0).2.2.2.2.2; omega) (dd g0).1 rfl rfl ?_
  obtain ⟨s3, e4, h⟩ := Option.bind_eq_some_iff.mp h
  refine pv_e_cy (i := 36) (pc' := 25) (by decide +kernel) (Nat.le_add_left 1 _) (by have := (dd g1).2.2.2.2.2; omega) (by have := (dd g0).2.2.2.2.2; omega) (dd g1).2.1 (dd g0).2.1 (Nat.le_of_ble_eq_true rfl) e4 rfl ?_
  refine pv_e_bk (ps := [(25, .aload_n 1, 1)]) (t' := (0, 0, 26, [some (.ref o), some (.ref x1)], [.ref x1], pv_mm s3 T)) (by decide +kernel) rfl ?_
  refine pv_e_gr (i := 15) (ci := 0) (j := 1) (b := x1 + 2) (pc' := 29) (by decide +kernel) (dd g1).1 rfl rfl ?_
  refine pv_e_bk (ps := [(29, .iconst 0, 1), (30, .aload_n 0, 1)]) (t' := (0, 0, 31, [some (.ref o), some (.ref x1)], [.ref o, .int (0:Int32), .ref (x1 + 2)], pv_mm s3 T)) (by decide +kernel) rfl ?_
  refine pv_e_gr (i := 15) (ci := 0) (j := 1) (b := o + 2) (pc' := 34) (by decide +kernel) (dd g0).1 rfl rfl ?_
  refine pv_e_bk (ps := [(34, .iconst 0, 1), (35, .aload_n 0, 1)]) (t' := (0, 0, 36, [some (.ref o), some (.ref x1)], [.ref o, .int (0:Int32), .ref (o + 2), .int (0:Int32), .ref (x1 + 2)], pv_mm s3 T)) (by decide +kernel) rfl ?_
  refine pv_e_gc (i := 24) (ci := 0) (j := 4) (pc' := 39) (by decide +kernel) (by have := (dd g0).2.2.2.2.2; omega) (dd g0).1 rfl rfl ?_
  obtain ⟨s5, e6, h⟩ := Option.bind_eq_some_iff.mp h
  refine pv_e_cy (i := 36) (pc' := 42) (by decide +kernel) (Nat.le_add_left 1 _) (by have := (dd g1).2.2.2.2.2; omega) (by have := (dd g0).2.2.2.2.2; omega) (dd g1).2.2.1 (dd g0).2.2.1 (Nat.le_of_ble_eq_true rfl) e6 rfl ?_
  refine pv_e_bk (ps := [(42, .aload_n 1, 1)]) (t' := (0, 0, 43, [some (.ref o), some (.ref x1)], [.ref x1], pv_mm s5 T)) (by decide +kernel) rfl ?_
  refine pv_e_gr (i := 18) (ci := 0) (j := 2) (b := x1 + 3) (pc' := 46) (by decide +kernel) (dd g1).1 rfl rfl ?_
  refine pv_e_bk (ps := [(46, .iconst 0, 1), (47, .aload_n 0, 1)]) (t' := (0, 0, 48, [some (.ref o), some (.ref x1)], [.ref o, .int (0:Int32), .ref (x1 + 3)], pv_mm s5 T)) (by decide +kernel) rfl ?_
  refine pv_e_gr (i := 18) (ci := 0) (j := 2) (b := o + 3) (pc' := 51) (by decide +kernel) (dd g0).1 rfl rfl ?_
  refine pv_e_bk (ps := [(51, .iconst 0, 1), (52, .aload_n 0, 1)]) (t' := (0, 0, 53, [some (.ref o), some (.ref x1)], [.ref o, .int (0:Int32), .ref (o + 3), .int (0:Int32), .ref (x1 + 3)], pv_mm s5 T)) (by decide +kernel) rfl ?_
  refine pv_e_gc (i := 24) (ci := 0) (j := 4) (pc' := 56) (by decide +kernel) (by have := (dd g0).2.2.2.2.2; omega) (dd g0).1 rfl rfl ?_
  obtain ⟨s7, e8, h⟩ := Option.bind_eq_some_iff.mp h
  refine pv_e_cy (i := 36) (pc' := 59) (by decide +kernel) (Nat.le_add_left 1 _) (by have := (dd g1).2.2.2.2.2; omega) (by have := (dd g0).2.2.2.2.2; omega) (dd g1).2.2.2.1 (dd g0).2.2.2.1 (Nat.le_of_ble_eq_true rfl) e8 rfl ?_
  refine pv_e_bk (ps := [(59, .aload_n 1, 1)]) (t' := (0, 0, 60, [some (.ref o), some (.ref x1)], [.ref x1], pv_mm s7 T)) (by decide +kernel) rfl ?_
  refine pv_e_gr (i := 21) (ci := 0) (j := 3) (b := x1 + 4) (pc' := 63) (by decide +kernel) (dd g1).1 rfl rfl ?_
  refine pv_e_bk (ps := [(63, .iconst 0, 1), (64, .aload_n 0, 1)]) (t' := (0, 0, 65, [some (.ref o), some (.ref x1)], [.ref o, .int (0:Int32), .ref (x1 + 4)], pv_mm s7 T)) (by decide +kernel) rfl ?_
  refine pv_e_gr (i := 21) (ci := 0) (j := 3) (b := o + 4) (pc' := 68) (by decide +kernel) (dd g0).1 rfl rfl ?_
  refine pv_e_bk (ps := [(68, .iconst 0, 1), (69, .aload_n 0, 1)]) (t' := (0, 0, 70, [some (.ref o), some (.ref x1)], [.ref o, .int (0:Int32), .ref (o + 4), .int (0:Int32), .ref (x1 + 4)], pv_mm s7 T)) (by decide +kernel) rfl ?_
  refine pv_e_gc (i := 24) (ci := 0) (j := 4) (pc' := 73) (by decide +kernel) (by have := (dd g0).2.2.2.2.2; omega) (dd g0).1 rfl rfl ?_
  obtain ⟨s9, e10, h⟩ := Option.bind_eq_some_iff.mp h
  refine pv_e_cy (i := 36) (pc' := 76) (by decide +kernel) (Nat.le_add_left 1 _) (by have := (dd g1).2.2.2.2.2; omega) (by have := (dd g0).2.2.2.2.2; omega) (dd g1).2.2.2.2.1 (dd g0).2.2.2.2.1 (Nat.le_of_ble_eq_true rfl) e10 rfl ?_
  obtain rfl := Option.some.inj h
  cases hr
  exact pv_e_rv (by decide +kernel)
def f5_take (o : Nat) (x1 : Nat) (s : pv_F) : Option (pv_F) :=
  (pv_pf s o 3 (s x1 3)).bind fun s1 =>
  (pv_cy s1 (x1 + 1) 7 (o + 1) 7 (0:Int32) (0:Int32) (s1 o 3)).bind fun s3 =>
  (pv_cy s3 (x1 + 2) 7 (o + 2) 7 (0:Int32) (0:Int32) (s3 o 3)).bind fun s5 =>
  (pv_cy s5 (x1 + 3) 7 (o + 3) 7 (0:Int32) (0:Int32) (s5 o 3)).bind fun s7 =>
  some s7
theorem ee5 {xs : Nat → Int32} {L : Nat} (d : Nat) (o : Nat) (x1 : Nat) {s : pv_F} {T : pv_T} {q : pv_F} (g0 : o ∈ pv_folks) (g1 : x1 ∈ pv_folks) (h : f5_take o x1 s = some q) : pv_Ev xs L (d + 1) 5 (0, 0, 0, [some (.ref o), some (.ref x1)], [], pv_mm s T) (none, pv_mm q T) := by
  generalize hr : ((none, pv_mm q T) : Option Value × pv_M) = r
  unfold f5_take at h
  refine pv_e_bk (ps := [(0, .aload_n 0, 1), (1, .aload_n 1, 1)]) (t' := (0, 0, 2, [some (.ref o), some (.ref x1)], [.ref x1, .ref o], pv_mm s T)) (by decide +kernel) rfl ?_
  refine pv_e_gc (i := 21) (ci := 1) (j := 3) (pc' := 5) (by decide +kernel) (by have := (fk g1).2.2.2.2; omega) (fk g1).1 rfl rfl ?_
  obtain ⟨s1, e2, h⟩ := Option.bind_eq_some_iff.mp h
  refine pv_e_pcs (i := 21) (ci := 1) (j := 3) (pc' := 8) (by decide +kernel) rfl rfl (by have := (fk g0).2.2.2.2; omega) (fk g0).1 rfl e2 rfl ?_
  refine pv_e_bk (ps := [(8, .aload_n 1, 1)]) (t' := (0, 0, 9, [some (.ref o), some (.ref x1)], [.ref x1], pv_mm s1 T)) (by decide +kernel) rfl ?_
  refine pv_e_gr (i := 9) (ci := 1) (j := 0) (b := x1 + 1) (pc' := 12) (by decide +kernel) (fk g1).1 rfl rfl ?_
  refine pv_e_bk (ps := [(12, .iconst 0, 1), (13, .aload_n 0, 1)]) (t' := (0, 0, 14, [some (.ref o), some (.ref x1)], [.ref o, .int (0:Int32), .ref (x1 + 1)], pv_mm s1 T)) (by decide +kernel) rfl ?_
  refine pv_e_gr (i := 9) (ci := 1) (j := 0) (b := o + 1) (pc' := 17) (by decide +kernel) (fk g0).1 rfl rfl ?_
  refine pv_e_bk (ps := [(17, .iconst 0, 1), (18, .aload_n 0, 1)]) (t' := (0, 0, 19, [some (.ref o), some (.ref x1)], [.ref o, .int (0:Int32), .ref (o + 1), .int (0:Int32), .ref (x1 + 1)], pv_mm s1 T)) (by decide +kernel) rfl ?_
  refine pv_e_gc (i := 21) (ci := 1) (j := 3) (pc' := 22) (by decide +kernel) (by have := (fk g0).2.2.2.2; omega) (fk g0).1 rfl rfl ?_
  obtain ⟨s3, e4, h⟩ := Option.bind_eq_some_iff.mp h
  refine pv_e_cy (i := 25) (pc' := 25) (by decide +kernel) (Nat.le_add_left 1 _) (by have := (fk g1).2.2.2.2; omega) (by have := (fk g0).2.2.2.2; omega) (fk g1).2.1 (fk g0).2.1 (Nat.le_of_ble_eq_true rfl) e4 rfl ?_
  refine pv_e_bk (ps := [(25, .aload_n 1, 1)]) (t' := (0, 0, 26, [some (.ref o), some (.ref x1)], [.ref x1], pv_mm s3 T)) (by decide +kernel) rfl ?_
  refine pv_e_gr (i := 15) (ci := 1) (j := 1) (b := x1 + 2) (pc' := 29) (by decide +kernel) (fk g1).1 rfl rfl ?_
  refine pv_e_bk (ps := [(29, .iconst 0, 1), (30, .aload_n 0, 1)]) (t' := (0, 0, 31, [some (.ref o), some (.ref x1)], [.ref o, .int (0:Int32), .ref (x1 + 2)], pv_mm s3 T)) (by decide +kernel) rfl ?_
  refine pv_e_gr (i := 15) (ci := 1) (j := 1) (b := o + 2) (pc' := 34) (by decide +kernel) (fk g0).1 rfl rfl ?_
  refine pv_e_bk (ps := [(34, .iconst 0, 1), (35, .aload_n 0, 1)]) (t' := (0, 0, 36, [some (.ref o), some (.ref x1)], [.ref o, .int (0:Int32), .ref (o + 2), .int (0:Int32), .ref (x1 + 2)], pv_mm s3 T)) (by decide +kernel) rfl ?_
  refine pv_e_gc (i := 21) (ci := 1) (j := 3) (pc' := 39) (by decide +kernel) (by have := (fk g0).2.2.2.2; omega) (fk g0).1 rfl rfl ?_
  obtain ⟨s5, e6, h⟩ := Option.bind_eq_some_iff.mp h
  refine pv_e_cy (i := 25) (pc' := 42) (by decide +kernel) (Nat.le_add_left 1 _) (by have := (fk g1).2.2.2.2; omega) (by have := (fk g0).2.2.2.2; omega) (fk g1).2.2.1 (fk g0).2.2.1 (Nat.le_of_ble_eq_true rfl) e6 rfl ?_
  refine pv_e_bk (ps := [(42, .aload_n 1, 1)]) (t' := (0, 0, 43, [some (.ref o), some (.ref x1)], [.ref x1], pv_mm s5 T)) (by decide +kernel) rfl ?_
  refine pv_e_gr (i := 18) (ci := 1) (j := 2) (b := x1 + 3) (pc' := 46) (by decide +kernel) (fk g1).1 rfl rfl ?_
  refine pv_e_bk (ps := [(46, .iconst 0, 1), (47, .aload_n 0, 1)]) (t' := (0, 0, 48, [some (.ref o), some (.ref x1)], [.ref o, .int (0:Int32), .ref (x1 + 3)], pv_mm s5 T)) (by decide +kernel) rfl ?_
  refine pv_e_gr (i := 18) (ci := 1) (j := 2) (b := o + 3) (pc' := 51) (by decide +kernel) (fk g0).1 rfl rfl ?_
  refine pv_e_bk (ps := [(51, .iconst 0, 1), (52, .aload_n 0, 1)]) (t' := (0, 0, 53, [some (.ref o), some (.ref x1)], [.ref o, .int (0:Int32), .ref (o + 3), .int (0:Int32), .ref (x1 + 3)], pv_mm s5 T)) (by decide +kernel) rfl ?_
  refine pv_e_gc (i := 21) (ci := 1) (j := 3) (pc' := 56) (by decide +kernel) (by have := (fk g0).2.2.2.2; omega) (fk g0).1 rfl rfl ?_
  obtain ⟨s7, e8, h⟩ := Option.bind_eq_some_iff.mp h
  refine pv_e_cy (i := 25) (pc' := 59) (by decide +kernel) (Nat.le_add_left 1 _) (by have := (fk g1).2.2.2.2; omega) (by have := (fk g0).2.2.2.2; omega) (fk g1).2.2.2.1 (fk g0).2.2.2.1 (Nat.le_of_ble_eq_true rfl) e8 rfl ?_
  obtain rfl := Option.some.inj h
  cases hr
  exact pv_e_rv (by decide +kernel)
def f216_isLetter (x0 : Int32) : Option (Int32) :=
  ((
    if x0 ≤ (96:Int32) then
      some (0:Int32)
    else
      if (122:Int32) < x0 then
        some (0:Int32)
      else
        some (1:Int32)) : Option (Int32)).bind fun t1 =>
  (pv_bl t1).bind fun q2 => some q2
theorem ee216 {xs : Nat → Int32} {L : Nat} (d : Nat) (x0 : Int32) {M : pv_M} {q : Int32}  (h : f216_isLetter x0 = some q) : pv_Ev xs L (d + 0) 216 (0, 0, 0, [some (.int x0)], [], M) (some (.int q), M) := by
  generalize hr : ((some (.int q), M) : Option Value × pv_M) = r
  unfold f216_isLetter at h
  refine pv_e_bk (ps := [(0, .iload_n 0, 1), (1, .bipush 96, 2)]) (t' := (0, 0, 3, [some (.int x0)], [.int (96:Int32), .int x0], M)) (by decide +kernel) rfl ?_
  obtain ⟨t1, hv4, h⟩ := Option.bind_eq_some_iff.mp h
  have hJ5 : pv_Ev xs L (d + 0) 216 (0, 0, 17, [some (.int x0)], [.int t1], M) r := by
    obtain ⟨q2, e3, h⟩ := Option.bind_eq_some_iff.mp h
    obtain rfl := Option.some.inj h
    cases hr
    exact pv_e_rz (by decide +kernel) e3
  clear h
  have h := hv4
  clear hv4
  refine pv_e_icmple (off := 13) (b := 16) (pc' := 6) (by decide +kernel) (by decide +kernel) rfl (fun c6 => ?_) (fun c6 => ?_)
  · rw [if_pos c6] at h
    refine pv_e_bk (ps := [(16, .iconst 0, 1)]) (t' := (0, 0, 17, [some (.int x0)], [.int (0:Int32)], M)) (by decide +kernel) rfl ?_
    obtain rfl := Option.some.inj h
    exact hJ5
  · rw [if_neg c6] at h
    refine pv_e_bk (ps := [(6, .iload_n 0, 1), (7, .bipush 122, 2)]) (t' := (0, 0, 9, [some (.int x0)], [.int (122:Int32), .int x0], M)) (by decide +kernel) rfl ?_
    refine pv_e_icmpgt (off := 7) (b := 16) (pc' := 12) (by decide +kernel) (by decide +kernel) rfl (fun c7 => ?_) (fun c7 => ?_)
    · rw [if_pos c7] at h
      refine pv_e_bk (ps := [(16, .iconst 0, 1)]) (t' := (0, 0, 17, [some (.int x0)], [.int (0:Int32)], M)) (by decide +kernel) rfl ?_
      obtain rfl := Option.some.inj h
      exact hJ5
    · rw [if_neg c7] at h
      refine pv_e_bk (ps := [(12, .iconst 1, 1), (13, .goto 4, 3)]) (t' := (0, 0, 17, [some (.int x0)], [.int (1:Int32)], M)) (by decide +kernel) rfl ?_
      obtain rfl := Option.some.inj h
      exact hJ5
def f218_size_b1 (v0 : Int32) (st : Int32) : Option (Int32 ⊕ Int32) := match st with
  | v1 =>
    if v1 ≤ 0 then
      some (.inr v1)
    else
      if ((pv_ush v0 ((30:Int32) - ((5:Int32) * v1))) &&& (31:Int32)) = 0 then
        some (.inl (v1 + (-1:Int32)))
      else
        some (.inr v1)
def f218_size_b1_H (xs : Nat → Int32) (L d : Nat) (r : Option Value × pv_M) (M : pv_M) (v0 : Int32) (st : Int32) : Prop := match st with
  | v1 => pv_Ev xs L (d + 0) 218 (0, 0, 3, [some (.int v0), some (.int v1)], [], M) r
def f218_size_b1_X (xs : Nat → Int32) (L d : Nat) (r : Option Value × pv_M) (M : pv_M) (v0 : Int32) (st : Int32) : Prop := match st with
  | v1 => pv_Ev xs L (d + 0) 218 (0, 0, 27, [some (.int v0), some (.int v1)], [], M) r
def f218_size (x0 : Int32) : Option (Int32) :=
  (pv_lq (f218_size_b1 x0) 20000 (6:Int32)).bind fun w3 =>
  some w3
theorem f218_size_b1_ok {xs : Nat → Int32} {L d : Nat} {r : Option Value × pv_M} {M : pv_M} {v0 : Int32} (st : Int32) (o : Int32 ⊕ Int32) (h : f218_size_b1 v0 st = some o) (hK : pv_Kq (f218_size_b1_H xs L d r M v0) (f218_size_b1_X xs L d r M v0) o) : f218_size_b1_H xs L d r M v0 st := by
  obtain ⟨v1, rfl⟩ : ∃ z, z = st := ⟨st, rfl⟩
  show pv_Ev xs L (d + 0) 218 (0, 0, 3, [some (.int v0), some (.int v1)], [], M) r
  unfold f218_size_b1 at h
  dsimp only at h
  refine pv_e_bk (ps := [(3, .iload_n 1, 1)]) (t' := (0, 0, 4, [some (.int v0), some (.int v1)], [.int v1], M)) (by decide +kernel) rfl ?_
  refine pv_e_ifle (off := 23) (b := 27) (pc' := 7) (by decide +kernel) (by decide +kernel) rfl (fun c1 => ?_) (fun c1 => ?_)
  · rw [if_pos c1] at h
    obtain rfl := Option.some.inj h
    exact hK
  · rw [if_neg c1] at h
    refine pv_e_bk (ps := [(7, .iload_n 0, 1), (8, .bipush 30, 2), (10, .iconst 5, 1), (11, .iload_n 1, 1), (12, .imul, 1), (13, .isub, 1), (14, .iushr, 1), (15, .bipush 31, 2), (17, .iand, 1)]) (t' := (0, 0, 18, [some (.int v0), some (.int v1)], [.int ((pv_ush v0 ((30:Int32) - ((5:Int32) * v1))) &&& (31:Int32))], M)) (by decide +kernel) rfl ?_
    refine pv_e_ifne (off := 9) (b := 27) (pc' := 21) (by decide +kernel) (by decide +kernel) rfl (fun c2 => ?_) (fun c2 => ?_)
    · rw [if_pos c2] at h
      refine pv_e_bk (ps := [(21, .iinc 1 (-1), 3), (24, .goto (-21), 3)]) (t' := (0, 0, 3, [some (.int v0), some (.int (v1 + (-1:Int32)))], [], M)) (by decide +kernel) rfl ?_
      obtain rfl := Option.some.inj h
      exact hK
    · rw [if_neg c2] at h
      obtain rfl := Option.some.inj h
      exact hK
theorem ee218 {xs : Nat → Int32} {L : Nat} (d : Nat) (x0 : Int32) {M : pv_M} {q : Int32}  (h : f218_size x0 = some q) : pv_Ev xs L (d + 0) 218 (0, 0, 0, [some (.int x0), none], [], M) (some (.int q), M) := by
  generalize hr : ((some (.int q), M) : Option Value × pv_M) = r
  unfold f218_size at h
  refine pv_e_bk (ps := [(0, .bipush 6, 2), (2, .istore_n 1, 1)]) (t' := (0, 0, 3, [some (.int x0), some (.int (6:Int32))], [], M)) (by decide +kernel) rfl ?_
  obtain ⟨w3, e5, h⟩ := Option.bind_eq_some_iff.mp h
  have hx4 : f218_size_b1_X xs L d r M x0 w3 := by
    show pv_Ev xs L (d + 0) 218 (0, 0, 27, [some (.int x0), some (.int w3)], [], M) r
    refine pv_e_bk (ps := [(27, .iload_n 1, 1)]) (t' := (0, 0, 28, [some (.int x0), some (.int w3)], [.int w3], M)) (by decide +kernel) rfl ?_
    obtain rfl := Option.some.inj h
    cases hr
    exact pv_e_ri (by decide +kernel)
  exact pv_lq_ok (H := f218_size_b1_H xs L d r M x0) (X := f218_size_b1_X xs L d r M x0) (f218_size_b1_ok (xs := xs) (L := L) (d := d) (r := r) (M := M) (v0 := x0)) 20000 _ _ e5 hx4
def f221_with (x0 : Int32) (x1 : Int32) : Option (Int32) :=
  (f218_size x0).bind fun q2 =>
  some (x0 ||| (x1 <<< (((30:Int32) - ((5:Int32) * (q2 + (1:Int32)))) &&& 31)))
theorem ee221 {xs : Nat → Int32} {L : Nat} (d : Nat) (x0 : Int32) (x1 : Int32) {M : pv_M} {q : Int32}  (h : f221_with x0 x1 = some q) : pv_Ev xs L (d + 1) 221 (0, 0, 0, [some (.int x0), some (.int x1)], [], M) (some (.int q), M) := by
  generalize hr : ((some (.int q), M) : Option Value × pv_M) = r
  unfold f221_with at h
  refine pv_e_bk (ps := [(0, .iload_n 0, 1), (1, .iload_n 1, 1), (2, .bipush 30, 2), (4, .iconst 5, 1), (5, .iload_n 0, 1)]) (t' := (0, 0, 6, [some (.int x0), some (.int x1)], [.int x0, .int (5:Int32), .int (30:Int32), .int x1, .int x0], M)) (by decide +kernel) rfl ?_
  obtain ⟨q2, e1, h⟩ := Option.bind_eq_some_iff.mp h
  refine pv_e_csi (d := d + 0) (i := 12) (z := 218) (np := 1) (ml := 2) (As := [.int x0]) (rs := [.int (5:Int32), .int (30:Int32), .int x1, .int x0]) (pc' := 9) (by decide +kernel) rfl rfl rfl (Nat.le_of_ble_eq_true rfl) (Nat.le_of_ble_eq_true rfl) rfl (ee218 (d + 0) x0 e1) ?_
  refine pv_e_bk (ps := [(9, .iconst 1, 1), (10, .iadd, 1), (11, .imul, 1), (12, .isub, 1), (13, .ishl, 1), (14, .ior, 1)]) (t' := (0, 0, 15, [some (.int x0), some (.int x1)], [.int (x0 ||| (x1 <<< (((30:Int32) - ((5:Int32) * (q2 + (1:Int32)))) &&& 31)))], M)) (by decide +kernel) rfl ?_
  obtain rfl := Option.some.inj h
  cases hr
  exact pv_e_ri (by decide +kernel)
def f7_add (o : Nat) (x1 : Int32) (s : pv_F) : Option (Int32 × pv_F) :=
  if x1 < 0 then
    some ((0:Int32), s)
  else
    if (5:Int32) < x1 then
      some ((0:Int32), s)
    else
      if (s o 3) = (7:Int32) then
        some ((0:Int32), s)
      else
        (pv_wr s (o + 1) 7 (s o 3) x1).bind fun s4 =>
        (pv_wr s4 (o + 2) 7 (s4 o 3) (0:Int32)).bind fun s6 =>
        (pv_wr s6 (o + 3) 7 (s6 o 3) (0:Int32)).bind fun s8 =>
        (pv_pf s8 o 3 ((s8 o 3) + (1:Int32))).bind fun s10 =>
        some ((1:Int32), s10)
theorem ee7 {xs : Nat → Int32} {L : Nat} (d : Nat) (o : Nat) (x1 : Int32) {s : pv_F} {T : pv_T} {q : Int32 × pv_F} (g0 : o ∈ pv_folks) (h : f7_add o x1 s = some q) : pv_Ev xs L (d + 0) 7 (0, 0, 0, [some (.ref o), some (.int x1)], [], pv_mm s T) (some (.int q.1), pv_mm q.2 T) := by
  generalize hr : ((some (.int q.1), pv_mm q.2 T) : Option Value × pv_M) = r
  unfold f7_add at h
  refine pv_e_bk (ps := [(0, .iload_n 1, 1)]) (t' := (0, 0, 1, [some (.ref o), some (.int x1)], [.int x1], pv_mm s T)) (by decide +kernel) rfl ?_
  refine pv_e_iflt (off := 17) (b := 18) (pc' := 4) (by decide +kernel) (by decide +kernel) rfl (fun c1 => ?_) (fun c1 => ?_)
  · rw [if_pos c1] at h
    refine pv_e_bk (ps := [(18, .iconst 0, 1)]) (t' := (0, 0, 19, [some (.ref o), some (.int x1)], [.int (0:Int32)], pv_mm s T)) (by decide +kernel) rfl ?_
    obtain rfl := Option.some.inj h
    cases hr
    exact pv_e_rz (by decide +kernel) pv_bl0
  · rw [if_neg c1] at h
    refine pv_e_bk (ps := [(4, .iload_n 1, 1), (5, .iconst 5, 1)]) (t' := (0, 0, 6, [some (.ref o), some (.int x1)], [.int (5:Int32), .int x1], pv_mm s T)) (by decide +kernel) rfl ?_
    refine pv_e_icmpgt (off := 12) (b := 18) (pc' := 9) (by decide +kernel) (by decide +kernel) rfl (fun c2 => ?_) (fun c2 => ?_)
    · rw [if_pos c2] at h
      refine pv_e_bk (ps := [(18, .iconst 0, 1)]) (t' := (0, 0, 19, [some (.ref o), some (.int x1)], [.int (0:Int32)], pv_mm s T)) (by decide +kernel) rfl ?_
      obtain rfl := Option.some.inj h
      cases hr
      exact pv_e_rz (by decide +kernel) pv_bl0
    · rw [if_neg c2] at h
      refine pv_e_bk (ps := [(9, .aload_n 0, 1)]) (t' := (0, 0, 10, [some (.ref o), some (.int x1)], [.ref o], pv_mm s T)) (by decide +kernel) rfl ?_
      refine pv_e_gc (i := 21) (ci := 1) (j := 3) (pc' := 13) (by decide +kernel) (by have := (fk g0).2.2.2.2; omega) (fk g0).1 rfl rfl ?_
      refine pv_e_bk (ps := [(13, .bipush 7, 2)]) (t' := (0, 0, 15, [some (.ref o), some (.int x1)], [.int (7:Int32), .int (s o 3)], pv_mm s T)) (by decide +kernel) rfl ?_
      refine pv_e_icmpne (off := 5) (b := 20) (pc' := 18) (by decide +kernel) (by decide +kernel) rfl (fun c3 => ?_) (fun c3 => ?_)
      · rw [if_pos c3] at h
        refine pv_e_bk (ps := [(18, .iconst 0, 1)]) (t' := (0, 0, 19, [some (.ref o), some (.int x1)], [.int (0:Int32)], pv_mm s T)) (by decide +kernel) rfl ?_
        obtain rfl := Option.some.inj h
        cases hr
        exact pv_e_rz (by decide +kernel) pv_bl0
      · rw [if_neg c3] at h
        refine pv_e_bk (ps := [(20, .aload_n 0, 1)]) (t' := (0, 0, 21, [some (.ref o), some (.int x1)], [.ref o], pv_mm s T)) (by decide +kernel) rfl ?_
        refine pv_e_gr (i := 9) (ci := 1) (j := 0) (b := o + 1) (pc' := 24) (by decide +kernel) (fk g0).1 rfl rfl ?_
        refine pv_e_bk (ps := [(24, .aload_n 0, 1)]) (t' := (0, 0, 25, [some (.ref o), some (.int x1)], [.ref o, .ref (o + 1)], pv_mm s T)) (by decide +kernel) rfl ?_
        refine pv_e_gc (i := 21) (ci := 1) (j := 3) (pc' := 28) (by decide +kernel) (by have := (fk g0).2.2.2.2; omega) (fk g0).1 rfl rfl ?_
        refine pv_e_bk (ps := [(28, .iload_n 1, 1)]) (t' := (0, 0, 29, [some (.ref o), some (.int x1)], [.int x1, .int (s o 3), .ref (o + 1)], pv_mm s T)) (by decide +kernel) rfl ?_
        obtain ⟨s4, e5, h⟩ := Option.bind_eq_some_iff.mp h
        refine pv_e_wc (pc' := 30) (by decide +kernel) (by have := (fk g0).2.2.2.2; omega) (fk g0).2.1 e5 rfl ?_
        refine pv_e_bk (ps := [(30, .aload_n 0, 1)]) (t' := (0, 0, 31, [some (.ref o), some (.int x1)], [.ref o], pv_mm s4 T)) (by decide +kernel) rfl ?_
        refine pv_e_gr (i := 15) (ci := 1) (j := 1) (b := o + 2) (pc' := 34) (by decide +kernel) (fk g0).1 rfl rfl ?_
        refine pv_e_bk (ps := [(34, .aload_n 0, 1)]) (t' := (0, 0, 35, [some (.ref o), some (.int x1)], [.ref o, .ref (o + 2)], pv_mm s4 T)) (by decide +kernel) rfl ?_
        refine pv_e_gc (i := 21) (ci := 1) (j := 3) (pc' := 38) (by decide +kernel) (by have := (fk g0).2.2.2.2; omega) (fk g0).1 rfl rfl ?_
        refine pv_e_bk (ps := [(38, .iconst 0, 1)]) (t' := (0, 0, 39, [some (.ref o), some (.int x1)], [.int (0:Int32), .int (s4 o 3), .ref (o + 2)], pv_mm s4 T)) (by decide +kernel) rfl ?_
        obtain ⟨s6, e7, h⟩ := Option.bind_eq_some_iff.mp h
        refine pv_e_wc (pc' := 40) (by decide +kernel) (by have := (fk g0).2.2.2.2; omega) (fk g0).2.2.1 e7 rfl ?_
        refine pv_e_bk (ps := [(40, .aload_n 0, 1)]) (t' := (0, 0, 41, [some (.ref o), some (.int x1)], [.ref o], pv_mm s6 T)) (by decide +kernel) rfl ?_
        refine pv_e_gr (i := 18) (ci := 1) (j := 2) (b := o + 3) (pc' := 44) (by decide +kernel) (fk g0).1 rfl rfl ?_
        refine pv_e_bk (ps := [(44, .aload_n 0, 1)]) (t' := (0, 0, 45, [some (.ref o), some (.int x1)], [.ref o, .ref (o + 3)], pv_mm s6 T)) (by decide +kernel) rfl ?_
        refine pv_e_gc (i := 21) (ci := 1) (j := 3) (pc' := 48) (by decide +kernel) (by have := (fk g0).2.2.2.2; omega) (fk g0).1 rfl rfl ?_
        refine pv_e_bk (ps := [(48, .iconst 0, 1)]) (t' := (0, 0, 49, [some (.ref o), some (.int x1)], [.int (0:Int32), .int (s6 o 3), .ref (o + 3)], pv_mm s6 T)) (by decide +kernel) rfl ?_
        obtain ⟨s8, e9, h⟩ := Option.bind_eq_some_iff.mp h
        refine pv_e_wc (pc' := 50) (by decide +kernel) (by have := (fk g0).2.2.2.2; omega) (fk g0).2.2.2.1 e9 rfl ?_
        refine pv_e_bk (ps := [(50, .aload_n 0, 1), (51, .dup, 1)]) (t' := (0, 0, 52, [some (.ref o), some (.int x1)], [.ref o, .ref o], pv_mm s8 T)) (by decide +kernel) rfl ?_
        refine pv_e_gc (i := 21) (ci := 1) (j := 3) (pc' := 55) (by decide +kernel) (by have := (fk g0).2.2.2.2; omega) (fk g0).1 rfl rfl ?_
        refine pv_e_bk (ps := [(55, .iconst 1, 1), (56, .iadd, 1)]) (t' := (0, 0, 57, [some (.ref o), some (.int x1)], [.int ((s8 o 3) + (1:Int32)), .ref o], pv_mm s8 T)) (by decide +kernel) rfl ?_
        obtain ⟨s10, e11, h⟩ := Option.bind_eq_some_iff.mp h
        refine pv_e_pcs (i := 21) (ci := 1) (j := 3) (pc' := 60) (by decide +kernel) rfl rfl (by have := (fk g0).2.2.2.2; omega) (fk g0).1 rfl e11 rfl ?_
        refine pv_e_bk (ps := [(60, .iconst 1, 1)]) (t' := (0, 0, 61, [some (.ref o), some (.int x1)], [.int (1:Int32)], pv_mm s10 T)) (by decide +kernel) rfl ?_
        obtain rfl := Option.some.inj h
        cases hr
        exact pv_e_rz (by decide +kernel) pv_bl1
def f6_read_b1 (v0 : Nat) (v1 : Nat) (st : Int32 × Int32 × pv_F) : Option ((Int32 × Int32 × pv_F) ⊕ ((Int32 × Int32 × pv_F) ⊕ (Int32 × pv_F))) := match st with
  | (v2, v3, s) =>
    if (s v1 2) ≤ v3 then
      some (.inr (.inl (v2, v3, s)))
    else
      (pv_rd s (v1 + 1) (pv_an (v1 + 1)) v3).bind fun q4 =>
      ((
        if v2 = 0 then
          some (0:Int32)
        else
          (pv_rd s (v0 + 2) 7 ((s v0 3) - (1:Int32))).bind fun q39 =>
          if q39 = 0 then
            some (1:Int32)
          else
            some (0:Int32)) : Option (Int32)).bind fun t6 =>
      (f216_isLetter q4).bind fun q8 =>
      if q8 = 0 then
        if t6 = 0 then
          if q4 = (32:Int32) then
            ((
              if q4 = (32:Int32) then
                some (0:Int32)
              else
                some (1:Int32)) : Option (Int32)).bind fun t12 =>
            some (.inl (t12, v3 + (1:Int32), s))
          else
            (f7_add v0 (q4 - (49:Int32)) s).bind fun (q17, s18) =>
            if q17 = 0 then
              some (.inr (.inr (v3, s18)))
            else
              ((
                if q4 = (32:Int32) then
                  some (0:Int32)
                else
                  some (1:Int32)) : Option (Int32)).bind fun t20 =>
              some (.inl (t20, v3 + (1:Int32), s18))
        else
          some (.inr (.inr (v3, s)))
      else
        if v2 = 0 then
          some (.inr (.inr (v3, s)))
        else
          (pv_rd s (v0 + 2) 7 ((s v0 3) - (1:Int32))).bind fun q25 =>
          (f218_size q25).bind fun q28 =>
          if q28 = (6:Int32) then
            some (.inr (.inr (v3, s)))
          else
            (pv_rd s (v0 + 2) 7 ((s v0 3) - (1:Int32))).bind fun q30 =>
            (f221_with q30 (q4 - (96:Int32))).bind fun q33 =>
            (pv_wr s (v0 + 2) 7 ((s v0 3) - (1:Int32)) q33).bind fun s34 =>
            some (.inl (v2, v3 + (1:Int32), s34))
def f6_read_b1_H (xs : Nat → Int32) (L d : Nat) (r : Option Value × pv_M) (T : pv_T) (v0 : Nat) (v1 : Nat) (st : Int32 × Int32 × pv_F) : Prop := match st with
  | (v2, v3, s) => ∀ z4 : Option Value, ∀ z5 : Option Value, pv_Ev xs L (d + 2) 6 (0, 0, 9, [some (.ref v0), some (.ref v1), some (.int v2), some (.int v3), z4, z5], [], pv_mm s T) r
def f6_read_b1_X (xs : Nat → Int32) (L d : Nat) (r : Option Value × pv_M) (T : pv_T) (v0 : Nat) (v1 : Nat) (st : Int32 × Int32 × pv_F) : Prop := match st with
  | (v2, v3, s) => ∀ z3 : Option Value, ∀ z4 : Option Value, ∀ z5 : Option Value, pv_Ev xs L (d + 2) 6 (0, 0, 161, [some (.ref v0), some (.ref v1), some (.int v2), z3, z4, z5], [], pv_mm s T) r
def f6_read (o : Nat) (x1 : Nat) (s : pv_F) : Option (Int32 × pv_F) :=
  (pv_pf s o 3 (0:Int32)).bind fun s1 =>
  (pv_lp (f6_read_b1 o x1) 20000 ((0:Int32), (0:Int32), s1)).bind fun o54 => match o54 with
    | .inl (w42, w43, s44) =>
      ((
        if w42 = 0 then
          some (-9:Int32)
        else
          (pv_rd s44 (o + 2) 7 ((s44 o 3) - (1:Int32))).bind fun q49 =>
          if q49 = 0 then
            some (s44 x1 2)
          else
            some (-9:Int32)) : Option (Int32)).bind fun t45 =>
      some (t45, s44)
    | .inr q => some q
theorem f6_read_b1_ok {xs : Nat → Int32} {L d : Nat} {r : Option Value × pv_M} {T : pv_T} {v0 : Nat} {v1 : Nat} (g0 : v0 ∈ pv_folks) (g1 : v1 ∈ pv_rows) (st : Int32 × Int32 × pv_F) (o : (Int32 × Int32 × pv_F) ⊕ ((Int32 × Int32 × pv_F) ⊕ (Int32 × pv_F))) (h : f6_read_b1 v0 v1 st = some o) (hK : pv_Kp (f6_read_b1_H xs L d r T v0 v1) (f6_read_b1_X xs L d r T v0 v1) (fun q => (some (.int q.1), pv_mm q.2 T) = r) o) : f6_read_b1_H xs L d r T v0 v1 st := by
  obtain ⟨v2, v3, s⟩ := st
  show ∀ z4 : Option Value, ∀ z5 : Option Value, pv_Ev xs L (d + 2) 6 (0, 0, 9, [some (.ref v0), some (.ref v1), some (.int v2), some (.int v3), z4, z5], [], pv_mm s T) r
  intro z4 z5
  unfold f6_read_b1 at h
  dsimp only at h
  refine pv_e_bk (ps := [(9, .iload_n 3, 1), (10, .aload_n 1, 1)]) (t' := (0, 0, 11, [some (.ref v0), some (.ref v1), some (.int v2), some (.int v3), z4, z5], [.ref v1, .int v3], pv_mm s T)) (by decide +kernel) rfl ?_
  refine pv_e_gc (i := 31) (ci := 2) (j := 2) (pc' := 14) (by decide +kernel) (by have := (rw_ g1).2.2; omega) (rw_ g1).1 rfl rfl ?_
  refine pv_e_icmpge (off := 147) (b := 161) (pc' := 17) (by decide +kernel) (by decide +kernel) rfl (fun c3 => ?_) (fun c3 => ?_)
  · rw [if_pos c3] at h
    obtain rfl := Option.some.inj h
    exact hK _ _ _
  · rw [if_neg c3] at h
    refine pv_e_bk (ps := [(17, .aload_n 1, 1)]) (t' := (0, 0, 18, [some (.ref v0), some (.ref v1), some (.int v2), some (.int v3), z4, z5], [.ref v1], pv_mm s T)) (by decide +kernel) rfl ?_
    refine pv_e_gr (i := 34) (ci := 2) (j := 0) (b := v1 + 1) (pc' := 21) (by decide +kernel) (rw_ g1).1 rfl rfl ?_
    refine pv_e_bk (ps := [(21, .iload_n 3, 1)]) (t' := (0, 0, 22, [some (.ref v0), some (.ref v1), some (.int v2), some (.int v3), z4, z5], [.int v3, .ref (v1 + 1)], pv_mm s T)) (by decide +kernel) rfl ?_
    obtain ⟨q4, e5, h⟩ := Option.bind_eq_some_iff.mp h
    refine pv_e_rc (pc' := 23) (by decide +kernel) (rw_ g1).2.2 (rw_ g1).2.1 e5 rfl ?_
    refine pv_e_bk (ps := [(23, .istore 4, 2), (25, .iload_n 2, 1)]) (t' := (0, 0, 26, [some (.ref v0), some (.ref v1), some (.int v2), some (.int v3), some (.int q4), z5], [.int v2], pv_mm s T)) (by decide +kernel) rfl ?_
    obtain ⟨t6, hv36, h⟩ := Option.bind_eq_some_iff.mp h
    have hJ37 : pv_Ev xs L (d + 2) 6 (0, 0, 48, [some (.ref v0), some (.ref v1), some (.int v2), some (.int v3), some (.int q4), z5], [.int t6], pv_mm s T) r := by
      refine pv_e_bk (ps := [(48, .istore 5, 2), (50, .iload 4, 2)]) (t' := (0, 0, 52, [some (.ref v0), some (.ref v1), some (.int v2), some (.int v3), some (.int q4), some (.int t6)], [.int q4], pv_mm s T)) (by decide +kernel) rfl ?_
      obtain ⟨q8, e7, h⟩ := Option.bind_eq_some_iff.mp h
      refine pv_e_csi (d := d + 1) (i := 37) (z := 216) (np := 1) (ml := 1) (As := [.int q4]) (rs := []) (pc' := 55) (by decide +kernel) rfl rfl rfl (Nat.le_of_ble_eq_true rfl) (Nat.le_of_ble_eq_true rfl) rfl (ee216 (d + 1) q4 e7) ?_
      refine pv_e_ifeq (off := 61) (b := 116) (pc' := 58) (by decide +kernel) (by decide +kernel) rfl (fun c9 => ?_) (fun c9 => ?_)
      · rw [if_pos c9] at h
        refine pv_e_bk (ps := [(116, .iload 5, 2)]) (t' := (0, 0, 118, [some (.ref v0), some (.ref v1), some (.int v2), some (.int v3), some (.int q4), some (.int t6)], [.int t6], pv_mm s T)) (by decide +kernel) rfl ?_
        refine pv_e_ifne (off := 22) (b := 140) (pc' := 121) (by decide +kernel) (by decide +kernel) rfl (fun c10 => ?_) (fun c10 => ?_)
        · rw [if_pos c10] at h
          refine pv_e_bk (ps := [(121, .iload 4, 2), (123, .bipush 32, 2)]) (t' := (0, 0, 125, [some (.ref v0), some (.ref v1), some (.int v2), some (.int v3), some (.int q4), some (.int t6)], [.int (32:Int32), .int q4], pv_mm s T)) (by decide +kernel) rfl ?_
          refine pv_e_icmpeq (off := 17) (b := 142) (pc' := 128) (by decide +kernel) (by decide +kernel) rfl (fun c11 => ?_) (fun c11 => ?_)
          · rw [if_pos c11] at h
            refine pv_e_bk (ps := [(142, .iload 4, 2), (144, .bipush 32, 2)]) (t' := (0, 0, 146, [some (.ref v0), some (.ref v1), some (.int v2), some (.int v3), some (.int q4), some (.int t6)], [.int (32:Int32), .int q4], pv_mm s T)) (by decide +kernel) rfl ?_
            obtain ⟨t12, hv13, h⟩ := Option.bind_eq_some_iff.mp h
            have hJ14 : pv_Ev xs L (d + 2) 6 (0, 0, 154, [some (.ref v0), some (.ref v1), some (.int v2), some (.int v3), some (.int q4), some (.int t6)], [.int t12], pv_mm s T) r := by
              refine pv_e_bk (ps := [(154, .istore_n 2, 1), (155, .iinc 3 1, 3), (158, .goto (-149), 3)]) (t' := (0, 0, 9, [some (.ref v0), some (.ref v1), some (.int t12), some (.int (v3 + (1:Int32))), some (.int q4), some (.int t6)], [], pv_mm s T)) (by decide +kernel) rfl ?_
              obtain rfl := Option.some.inj h
              exact hK _ _
            clear h
            have h := hv13
            clear hv13
            refine pv_e_icmpeq (off := 7) (b := 153) (pc' := 149) (by decide +kernel) (by decide +kernel) rfl (fun c15 => ?_) (fun c15 => ?_)
            · rw [if_pos c15] at h
              refine pv_e_bk (ps := [(153, .iconst 0, 1)]) (t' := (0, 0, 154, [some (.ref v0), some (.ref v1), some (.int v2), some (.int v3), some (.int q4), some (.int t6)], [.int (0:Int32)], pv_mm s T)) (by decide +kernel) rfl ?_
              obtain rfl := Option.some.inj h
              exact hJ14
            · rw [if_neg c15] at h
              refine pv_e_bk (ps := [(149, .iconst 1, 1), (150, .goto 4, 3)]) (t' := (0, 0, 154, [some (.ref v0), some (.ref v1), some (.int v2), some (.int v3), some (.int q4), some (.int t6)], [.int (1:Int32)], pv_mm s T)) (by decide +kernel) rfl ?_
              obtain rfl := Option.some.inj h
              exact hJ14
          · rw [if_neg c11] at h
            refine pv_e_bk (ps := [(128, .aload_n 0, 1), (129, .iload 4, 2), (131, .bipush 49, 2), (133, .isub, 1)]) (t' := (0, 0, 134, [some (.ref v0), some (.ref v1), some (.int v2), some (.int v3), some (.int q4), some (.int t6)], [.int (q4 - (49:Int32)), .ref v0], pv_mm s T)) (by decide +kernel) rfl ?_
            obtain ⟨⟨q17, s18⟩, e16, h⟩ := Option.bind_eq_some_iff.mp h
            dsimp only at h
            refine pv_e_cvi (d := d + 1) (i := 50) (z := 7) (np := 1) (ml := 2) (ci := 1) (As := [.int (q4 - (49:Int32))]) (rs := []) (pc' := 137) (by decide +kernel) (fk g0).1 rfl rfl rfl (Nat.le_of_ble_eq_true rfl) (Nat.le_of_ble_eq_true rfl) rfl (ee7 (d + 1) v0 (q4 - (49:Int32)) g0 e16) ?_
            refine pv_e_ifne (off := 5) (b := 142) (pc' := 140) (by decide +kernel) (by decide +kernel) rfl (fun c19 => ?_) (fun c19 => ?_)
            · rw [if_pos c19] at h
              refine pv_e_bk (ps := [(140, .iload_n 3, 1)]) (t' := (0, 0, 141, [some (.ref v0), some (.ref v1), some (.int v2), some (.int v3), some (.int q4), some (.int t6)], [.int v3], pv_mm s18 T)) (by decide +kernel) rfl ?_
              obtain rfl := Option.some.inj h
              cases hK
              exact pv_e_ri (by decide +kernel)
            · rw [if_neg c19] at h
              refine pv_e_bk (ps := [(142, .iload 4, 2), (144, .bipush 32, 2)]) (t' := (0, 0, 146, [some (.ref v0), some (.ref v1), some (.int v2), some (.int v3), some (.int q4), some (.int t6)], [.int (32:Int32), .int q4], pv_mm s18 T)) (by decide +kernel) rfl ?_
              obtain ⟨t20, hv21, h⟩ := Option.bind_eq_some_iff.mp h
              have hJ22 : pv_Ev xs L (d + 2) 6 (0, 0, 154, [some (.ref v0), some (.ref v1), some (.int v2), some (.int v3), some (.int q4), some (.int t6)], [.int t20], pv_mm s18 T) r := by
                refine pv_e_bk (ps := [(154, .istore_n 2, 1), (155, .iinc 3 1, 3), (158, .goto (-149), 3)]) (t' := (0, 0, 9, [some (.ref v0), some (.ref v1), some (.int t20), some (.int (v3 + (1:Int32))), some (.int q4), some (.int t6)], [], pv_mm s18 T)) (by decide +kernel) rfl ?_
                obtain rfl := Option.some.inj h
                exact hK _ _
              clear h
              have h := hv21
              clear hv21
              refine pv_e_icmpeq (off := 7) (b := 153) (pc' := 149) (by decide +kernel) (by decide +kernel) rfl (fun c23 => ?_) (fun c23 => ?_)
              · rw [if_pos c23] at h
                refine pv_e_bk (ps := [(153, .iconst 0, 1)]) (t' := (0, 0, 154, [some (.ref v0), some (.ref v1), some (.int v2), some (.int v3), some (.int q4), some (.int t6)], [.int (0:Int32)], pv_mm s18 T)) (by decide +kernel) rfl ?_
                obtain rfl := Option.some.inj h
                exact hJ22
              · rw [if_neg c23] at h
                refine pv_e_bk (ps := [(149, .iconst 1, 1), (150, .goto 4, 3)]) (t' := (0, 0, 154, [some (.ref v0), some (.ref v1), some (.int v2), some (.int v3), some (.int q4), some (.int t6)], [.int (1:Int32)], pv_mm s18 T)) (by decide +kernel) rfl ?_
                obtain rfl := Option.some.inj h
                exact hJ22
        · rw [if_neg c10] at h
          refine pv_e_bk (ps := [(140, .iload_n 3, 1)]) (t' := (0, 0, 141, [some (.ref v0), some (.ref v1), some (.int v2), some (.int v3), some (.int q4), some (.int t6)], [.int v3], pv_mm s T)) (by decide +kernel) rfl ?_
          obtain rfl := Option.some.inj h
          cases hK
          exact pv_e_ri (by decide +kernel)
      · rw [if_neg c9] at h
        refine pv_e_bk (ps := [(58, .iload_n 2, 1)]) (t' := (0, 0, 59, [some (.ref v0), some (.ref v1), some (.int v2), some (.int v3), some (.int q4), some (.int t6)], [.int v2], pv_mm s T)) (by decide +kernel) rfl ?_
        refine pv_e_ifeq (off := 22) (b := 81) (pc' := 62) (by decide +kernel) (by decide +kernel) rfl (fun c24 => ?_) (fun c24 => ?_)
        · rw [if_pos c24] at h
          refine pv_e_bk (ps := [(81, .iload_n 3, 1)]) (t' := (0, 0, 82, [some (.ref v0), some (.ref v1), some (.int v2), some (.int v3), some (.int q4), some (.int t6)], [.int v3], pv_mm s T)) (by decide +kernel) rfl ?_
          obtain rfl := Option.some.inj h
          cases hK
          exact pv_e_ri (by decide +kernel)
        · rw [if_neg c24] at h
          refine pv_e_bk (ps := [(62, .aload_n 0, 1)]) (t' := (0, 0, 63, [some (.ref v0), some (.ref v1), some (.int v2), some (.int v3), some (.int q4), some (.int t6)], [.ref v0], pv_mm s T)) (by decide +kernel) rfl ?_
          refine pv_e_gr (i := 15) (ci := 1) (j := 1) (b := v0 + 2) (pc' := 66) (by decide +kernel) (fk g0).1 rfl rfl ?_
          refine pv_e_bk (ps := [(66, .aload_n 0, 1)]) (t' := (0, 0, 67, [some (.ref v0), some (.ref v1), some (.int v2), some (.int v3), some (.int q4), some (.int t6)], [.ref v0, .ref (v0 + 2)], pv_mm s T)) (by decide +kernel) rfl ?_
          refine pv_e_gc (i := 21) (ci := 1) (j := 3) (pc' := 70) (by decide +kernel) (by have := (fk g0).2.2.2.2; omega) (fk g0).1 rfl rfl ?_
          refine pv_e_bk (ps := [(70, .iconst 1, 1), (71, .isub, 1)]) (t' := (0, 0, 72, [some (.ref v0), some (.ref v1), some (.int v2), some (.int v3), some (.int q4), some (.int t6)], [.int ((s v0 3) - (1:Int32)), .ref (v0 + 2)], pv_mm s T)) (by decide +kernel) rfl ?_
          obtain ⟨q25, e26, h⟩ := Option.bind_eq_some_iff.mp h
          refine pv_e_rc (pc' := 73) (by decide +kernel) (by have := (fk g0).2.2.2.2; omega) (fk g0).2.2.1 e26 rfl ?_
          obtain ⟨q28, e27, h⟩ := Option.bind_eq_some_iff.mp h
          refine pv_e_csi (d := d + 1) (i := 43) (z := 218) (np := 1) (ml := 2) (As := [.int q25]) (rs := []) (pc' := 76) (by decide +kernel) rfl rfl rfl (Nat.le_of_ble_eq_true rfl) (Nat.le_of_ble_eq_true rfl) rfl (ee218 (d + 1) q25 e27) ?_
          refine pv_e_bk (ps := [(76, .bipush 6, 2)]) (t' := (0, 0, 78, [some (.ref v0), some (.ref v1), some (.int v2), some (.int v3), some (.int q4), some (.int t6)], [.int (6:Int32), .int q28], pv_mm s T)) (by decide +kernel) rfl ?_
          refine pv_e_icmpne (off := 5) (b := 83) (pc' := 81) (by decide +kernel) (by decide +kernel) rfl (fun c29 => ?_) (fun c29 => ?_)
          · rw [if_pos c29] at h
            refine pv_e_bk (ps := [(81, .iload_n 3, 1)]) (t' := (0, 0, 82, [some (.ref v0), some (.ref v1), some (.int v2), some (.int v3), some (.int q4), some (.int t6)], [.int v3], pv_mm s T)) (by decide +kernel) rfl ?_
            obtain rfl := Option.some.inj h
            cases hK
            exact pv_e_ri (by decide +kernel)
          · rw [if_neg c29] at h
            refine pv_e_bk (ps := [(83, .aload_n 0, 1)]) (t' := (0, 0, 84, [some (.ref v0), some (.ref v1), some (.int v2), some (.int v3), some (.int q4), some (.int t6)], [.ref v0], pv_mm s T)) (by decide +kernel) rfl ?_
            refine pv_e_gr (i := 15) (ci := 1) (j := 1) (b := v0 + 2) (pc' := 87) (by decide +kernel) (fk g0).1 rfl rfl ?_
            refine pv_e_bk (ps := [(87, .aload_n 0, 1)]) (t' := (0, 0, 88, [some (.ref v0), some (.ref v1), some (.int v2), some (.int v3), some (.int q4), some (.int t6)], [.ref v0, .ref (v0 + 2)], pv_mm s T)) (by decide +kernel) rfl ?_
            refine pv_e_gc (i := 21) (ci := 1) (j := 3) (pc' := 91) (by decide +kernel) (by have := (fk g0).2.2.2.2; omega) (fk g0).1 rfl rfl ?_
            refine pv_e_bk (ps := [(91, .iconst 1, 1), (92, .isub, 1), (93, .aload_n 0, 1)]) (t' := (0, 0, 94, [some (.ref v0), some (.ref v1), some (.int v2), some (.int v3), some (.int q4), some (.int t6)], [.ref v0, .int ((s v0 3) - (1:Int32)), .ref (v0 + 2)], pv_mm s T)) (by decide +kernel) rfl ?_
            refine pv_e_gr (i := 15) (ci := 1) (j := 1) (b := v0 + 2) (pc' := 97) (by decide +kernel) (fk g0).1 rfl rfl ?_
            refine pv_e_bk (ps := [(97, .aload_n 0, 1)]) (t' := (0, 0, 98, [some (.ref v0), some (.ref v1), some (.int v2), some (.int v3), some (.int q4), some (.int t6)], [.ref v0, .ref (v0 + 2), .int ((s v0 3) - (1:Int32)), .ref (v0 + 2)], pv_mm s T)) (by decide +kernel) rfl ?_
            refine pv_e_gc (i := 21) (ci := 1) (j := 3) (pc' := 101) (by decide +kernel) (by have := (fk g0).2.2.2.2; omega) (fk g0).1 rfl rfl ?_
            refine pv_e_bk (ps := [(101, .iconst 1, 1), (102, .isub, 1)]) (t' := (0, 0, 103, [some (.ref v0), some (.ref v1), some (.int v2), some (.int v3), some (.int q4), some (.int t6)], [.int ((s v0 3) - (1:Int32)), .ref (v0 + 2), .int ((s v0 3) - (1:Int32)), .ref (v0 + 2)], pv_mm s T)) (by decide +kernel) rfl ?_
            obtain ⟨q30, e31, h⟩ := Option.bind_eq_some_iff.mp h
            refine pv_e_rc (pc' := 104) (by decide +kernel) (by have := (fk g0).2.2.2.2; omega) (fk g0).2.2.1 e31 rfl ?_
            refine pv_e_bk (ps := [(104, .iload 4, 2), (106, .bipush 96, 2), (108, .isub, 1)]) (t' := (0, 0, 109, [some (.ref v0), some (.ref v1), some (.int v2), some (.int v3), some (.int q4), some (.int t6)], [.int (q4 - (96:Int32)), .int q30, .int ((s v0 3) - (1:Int32)), .ref (v0 + 2)], pv_mm s T)) (by decide +kernel) rfl ?_
            obtain ⟨q33, e32, h⟩ := Option.bind_eq_some_iff.mp h
            refine pv_e_csi (d := d + 1) (i := 46) (z := 221) (np := 2) (ml := 2) (As := [.int q30, .int (q4 - (96:Int32))]) (rs := [.int ((s v0 3) - (1:Int32)), .ref (v0 + 2)]) (pc' := 112) (by decide +kernel) rfl rfl rfl (Nat.le_of_ble_eq_true rfl) (Nat.le_of_ble_eq_true rfl) rfl (ee221 (d + 0) q30 (q4 - (96:Int32)) e32) ?_
            obtain ⟨s34, e35, h⟩ := Option.bind_eq_some_iff.mp h
            refine pv_e_wc (pc' := 113) (by decide +kernel) (by have := (fk g0).2.2.2.2; omega) (fk g0).2.2.1 e35 rfl ?_
            refine pv_e_bk (ps := [(113, .goto 42, 3), (155, .iinc 3 1, 3), (158, .goto (-149), 3)]) (t' := (0, 0, 9, [some (.ref v0), some (.ref v1), some (.int v2), some (.int (v3 + (1:Int32))), some (.int q4), some (.int t6)], [], pv_mm s34 T)) (by decide +kernel) rfl ?_
            obtain rfl := Option.some.inj h
            exact hK _ _
    clear h
    have h := hv36
    clear hv36
    refine pv_e_ifeq (off := 21) (b := 47) (pc' := 29) (by decide +kernel) (by decide +kernel) rfl (fun c38 => ?_) (fun c38 => ?_)
    · rw [if_pos c38] at h
      refine pv_e_bk (ps := [(47, .iconst 0, 1)]) (t' := (0, 0, 48, [some (.ref v0), some (.ref v1), some (.int v2), some (.int v3), some (.int q4), z5], [.int (0:Int32)], pv_mm s T)) (by decide +kernel) rfl ?_
      obtain rfl := Option.some.inj h
      exact hJ37
    · rw [if_neg c38] at h
      refine pv_e_bk (ps := [(29, .aload_n 0, 1)]) (t' := (0, 0, 30, [some (.ref v0), some (.ref v1), some (.int v2), some (.int v3), some (.int q4), z5], [.ref v0], pv_mm s T)) (by decide +kernel) rfl ?_
      refine pv_e_gr (i := 15) (ci := 1) (j := 1) (b := v0 + 2) (pc' := 33) (by decide +kernel) (fk g0).1 rfl rfl ?_
      refine pv_e_bk (ps := [(33, .aload_n 0, 1)]) (t' := (0, 0, 34, [some (.ref v0), some (.ref v1), some (.int v2), some (.int v3), some (.int q4), z5], [.ref v0, .ref (v0 + 2)], pv_mm s T)) (by decide +kernel) rfl ?_
      refine pv_e_gc (i := 21) (ci := 1) (j := 3) (pc' := 37) (by decide +kernel) (by have := (fk g0).2.2.2.2; omega) (fk g0).1 rfl rfl ?_
      refine pv_e_bk (ps := [(37, .iconst 1, 1), (38, .isub, 1)]) (t' := (0, 0, 39, [some (.ref v0), some (.ref v1), some (.int v2), some (.int v3), some (.int q4), z5], [.int ((s v0 3) - (1:Int32)), .ref (v0 + 2)], pv_mm s T)) (by decide +kernel) rfl ?_
      obtain ⟨q39, e40, h⟩ := Option.bind_eq_some_iff.mp h
      refine pv_e_rc (pc' := 40) (by decide +kernel) (by have := (fk g0).2.2.2.2; omega) (fk g0).2.2.1 e40 rfl ?_
      refine pv_e_ifne (off := 7) (b := 47) (pc' := 43) (by decide +kernel) (by decide +kernel) rfl (fun c41 => ?_) (fun c41 => ?_)
      · rw [if_pos c41] at h
        refine pv_e_bk (ps := [(43, .iconst 1, 1), (44, .goto 4, 3)]) (t' := (0, 0, 48, [some (.ref v0), some (.ref v1), some (.int v2), some (.int v3), some (.int q4), z5], [.int (1:Int32)], pv_mm s T)) (by decide +kernel) rfl ?_
        obtain rfl := Option.some.inj h
        exact hJ37
      · rw [if_neg c41] at h
        refine pv_e_bk (ps := [(47, .iconst 0, 1)]) (t' := (0, 0, 48, [some (.ref v0), some (.ref v1), some (.int v2), some (.int v3), some (.int q4), z5], [.int (0:Int32)], pv_mm s T)) (by decide +kernel) rfl ?_
        obtain rfl := Option.some.inj h
        exact hJ37
theorem ee6 {xs : Nat → Int32} {L : Nat} (d : Nat) (o : Nat) (x1 : Nat) {s : pv_F} {T : pv_T} {q : Int32 × pv_F} (g0 : o ∈ pv_folks) (g1 : x1 ∈ pv_rows) (h : f6_read o x1 s = some q) : pv_Ev xs L (d + 2) 6 (0, 0, 0, [some (.ref o), some (.ref x1), none, none, none, none], [], pv_mm s T) (some (.int q.1), pv_mm q.2 T) := by
  generalize hr : ((some (.int q.1), pv_mm q.2 T) : Option Value × pv_M) = r
  unfold f6_read at h
  refine pv_e_bk (ps := [(0, .aload_n 0, 1), (1, .iconst 0, 1)]) (t' := (0, 0, 2, [some (.ref o), some (.ref x1), none, none, none, none], [.int (0:Int32), .ref o], pv_mm s T)) (by decide +kernel) rfl ?_
  obtain ⟨s1, e2, h⟩ := Option.bind_eq_some_iff.mp h
  refine pv_e_pcs (i := 21) (ci := 1) (j := 3) (pc' := 5) (by decide +kernel) rfl rfl (by have := (fk g0).2.2.2.2; omega) (fk g0).1 rfl e2 rfl ?_
  refine pv_e_bk (ps := [(5, .iconst 0, 1), (6, .istore_n 2, 1), (7, .iconst 0, 1), (8, .istore_n 3, 1)]) (t' := (0, 0, 9, [some (.ref o), some (.ref x1), some (.int (0:Int32)), some (.int (0:Int32)), none, none], [], pv_mm s1 T)) (by decide +kernel) rfl ?_
  obtain ⟨o54, e53, h⟩ := Option.bind_eq_some_iff.mp h
  refine pv_lp_ok (H := f6_read_b1_H xs L d r T o x1) (X := f6_read_b1_X xs L d r T o x1) (Z := (fun q => (some (.int q.1), pv_mm q.2 T) = r)) (f6_read_b1_ok (xs := xs) (L := L) (d := d) (r := r) (T := T) (v0 := o) (v1 := x1) g0 g1) 20000 _ _ e53 ?_ _ _
  rcases o54 with ⟨w42, w43, s44⟩ | q
  · dsimp only at h ⊢
    show ∀ z3 : Option Value, ∀ z4 : Option Value, ∀ z5 : Option Value, pv_Ev xs L (d + 2) 6 (0, 0, 161, [some (.ref o), some (.ref x1), some (.int w42), z3, z4, z5], [], pv_mm s44 T) r
    intro z3 z4 z5
    refine pv_e_bk (ps := [(161, .iload_n 2, 1)]) (t' := (0, 0, 162, [some (.ref o), some (.ref x1), some (.int w42), z3, z4, z5], [.int w42], pv_mm s44 T)) (by decide +kernel) rfl ?_
    obtain ⟨t45, hv46, h⟩ := Option.bind_eq_some_iff.mp h
    have hJ47 : pv_Ev xs L (d + 2) 6 (0, 0, 188, [some (.ref o), some (.ref x1), some (.int w42), z3, z4, z5], [.int t45], pv_mm s44 T) r := by
      obtain rfl := Option.some.inj h
      cases hr
      exact pv_e_ri (by decide +kernel)
    clear h
    have h := hv46
    clear hv46
    refine pv_e_ifeq (off := 24) (b := 186) (pc' := 165) (by decide +kernel) (by decide +kernel) rfl (fun c48 => ?_) (fun c48 => ?_)
    · rw [if_pos c48] at h
      refine pv_e_bk (ps := [(186, .bipush (-9), 2)]) (t' := (0, 0, 188, [some (.ref o), some (.ref x1), some (.int w42), z3, z4, z5], [.int (-9:Int32)], pv_mm s44 T)) (by decide +kernel) rfl ?_
      obtain rfl := Option.some.inj h
      exact hJ47
    · rw [if_neg c48] at h
      refine pv_e_bk (ps := [(165, .aload_n 0, 1)]) (t' := (0, 0, 166, [some (.ref o), some (.ref x1), some (.int w42), z3, z4, z5], [.ref o], pv_mm s44 T)) (by decide +kernel) rfl ?_
      refine pv_e_gr (i := 15) (ci := 1) (j := 1) (b := o + 2) (pc' := 169) (by decide +kernel) (fk g0).1 rfl rfl ?_
      refine pv_e_bk (ps := [(169, .aload_n 0, 1)]) (t' := (0, 0, 170, [some (.ref o), some (.ref x1), some (.int w42), z3, z4, z5], [.ref o, .ref (o + 2)], pv_mm s44 T)) (by decide +kernel) rfl ?_
      refine pv_e_gc (i := 21) (ci := 1) (j := 3) (pc' := 173) (by decide +kernel) (by have := (fk g0).2.2.2.2; omega) (fk g0).1 rfl rfl ?_
      refine pv_e_bk (ps := [(173, .iconst 1, 1), (174, .isub, 1)]) (t' := (0, 0, 175, [some (.ref o), some (.ref x1), some (.int w42), z3, z4, z5], [.int ((s44 o 3) - (1:Int32)), .ref (o + 2)], pv_mm s44 T)) (by decide +kernel) rfl ?_
      obtain ⟨q49, e50, h⟩ := Option.bind_eq_some_iff.mp h
      refine pv_e_rc (pc' := 176) (by decide +kernel) (by have := (fk g0).2.2.2.2; omega) (fk g0).2.2.1 e50 rfl ?_
      refine pv_e_ifne (off := 10) (b := 186) (pc' := 179) (by decide +kernel) (by decide +kernel) rfl (fun c51 => ?_) (fun c51 => ?_)
      · rw [if_pos c51] at h
        refine pv_e_bk (ps := [(179, .aload_n 1, 1)]) (t' := (0, 0, 180, [some (.ref o), some (.ref x1), some (.int w42), z3, z4, z5], [.ref x1], pv_mm s44 T)) (by decide +kernel) rfl ?_
        refine pv_e_gc (i := 31) (ci := 2) (j := 2) (pc' := 183) (by decide +kernel) (by have := (rw_ g1).2.2; omega) (rw_ g1).1 rfl rfl ?_
        refine pv_e_bk (ps := [(183, .goto 5, 3)]) (t' := (0, 0, 188, [some (.ref o), some (.ref x1), some (.int w42), z3, z4, z5], [.int (s44 x1 2)], pv_mm s44 T)) (by decide +kernel) rfl ?_
        obtain rfl := Option.some.inj h
        exact hJ47
      · rw [if_neg c51] at h
        refine pv_e_bk (ps := [(186, .bipush (-9), 2)]) (t' := (0, 0, 188, [some (.ref o), some (.ref x1), some (.int w42), z3, z4, z5], [.int (-9:Int32)], pv_mm s44 T)) (by decide +kernel) rfl ?_
        obtain rfl := Option.some.inj h
        exact hJ47
  · dsimp only at h ⊢
    obtain rfl := Option.some.inj h
    exact hr
def f8_is (o : Nat) (x1 : Int32) (x2 : Int32) (s : pv_F) : Option (Int32) :=
  (pv_rd s (o + 1) 7 x1).bind fun q1 =>
  ((
    if q1 = x2 then
      some (1:Int32)
    else
      if x2 = (1:Int32) then
        (pv_rd s (o + 1) 7 x1).bind fun q10 =>
        if q10 = (5:Int32) then
          some (1:Int32)
        else
          some (0:Int32)
      else
        some (0:Int32)) : Option (Int32)).bind fun t3 =>
  (pv_bl t3).bind fun q4 => some q4
theorem ee8 {xs : Nat → Int32} {L : Nat} (d : Nat) (o : Nat) (x1 : Int32) (x2 : Int32) {s : pv_F} {T : pv_T} {q : Int32} (g0 : o ∈ pv_folks) (h : f8_is o x1 x2 s = some q) : pv_Ev xs L (d + 0) 8 (0, 0, 0, [some (.ref o), some (.int x1), some (.int x2)], [], pv_mm s T) (some (.int q), pv_mm s T) := by
  generalize hr : ((some (.int q), pv_mm s T) : Option Value × pv_M) = r
  unfold f8_is at h
  refine pv_e_bk (ps := [(0, .aload_n 0, 1)]) (t' := (0, 0, 1, [some (.ref o), some (.int x1), some (.int x2)], [.ref o], pv_mm s T)) (by decide +kernel) rfl ?_
  refine pv_e_gr (i := 9) (ci := 1) (j := 0) (b := o + 1) (pc' := 4) (by decide +kernel) (fk g0).1 rfl rfl ?_
  refine pv_e_bk (ps := [(4, .iload_n 1, 1)]) (t' := (0, 0, 5, [some (.ref o), some (.int x1), some (.int x2)], [.int x1, .ref (o + 1)], pv_mm s T)) (by decide +kernel) rfl ?_
  obtain ⟨q1, e2, h⟩ := Option.bind_eq_some_iff.mp h
  refine pv_e_rc (pc' := 6) (by decide +kernel) (by have := (fk g0).2.2.2.2; omega) (fk g0).2.1 e2 rfl ?_
  refine pv_e_bk (ps := [(6, .iload_n 2, 1)]) (t' := (0, 0, 7, [some (.ref o), some (.int x1), some (.int x2)], [.int x2, .int q1], pv_mm s T)) (by decide +kernel) rfl ?_
  obtain ⟨t3, hv6, h⟩ := Option.bind_eq_some_iff.mp h
  have hJ7 : pv_Ev xs L (d + 0) 8 (0, 0, 30, [some (.ref o), some (.int x1), some (.int x2)], [.int t3], pv_mm s T) r := by
    obtain ⟨q4, e5, h⟩ := Option.bind_eq_some_iff.mp h
    obtain rfl := Option.some.inj h
    cases hr
    exact pv_e_rz (by decide +kernel) e5
  clear h
  have h := hv6
  clear hv6
  refine pv_e_icmpeq (off := 18) (b := 25) (pc' := 10) (by decide +kernel) (by decide +kernel) rfl (fun c8 => ?_) (fun c8 => ?_)
  · rw [if_pos c8] at h
    refine pv_e_bk (ps := [(25, .iconst 1, 1), (26, .goto 4, 3)]) (t' := (0, 0, 30, [some (.ref o), some (.int x1), some (.int x2)], [.int (1:Int32)], pv_mm s T)) (by decide +kernel) rfl ?_
    obtain rfl := Option.some.inj h
    exact hJ7
  · rw [if_neg c8] at h
    refine pv_e_bk (ps := [(10, .iload_n 2, 1), (11, .iconst 1, 1)]) (t' := (0, 0, 12, [some (.ref o), some (.int x1), some (.int x2)], [.int (1:Int32), .int x2], pv_mm s T)) (by decide +kernel) rfl ?_
    refine pv_e_icmpne (off := 17) (b := 29) (pc' := 15) (by decide +kernel) (by decide +kernel) rfl (fun c9 => ?_) (fun c9 => ?_)
    · rw [if_pos c9] at h
      refine pv_e_bk (ps := [(15, .aload_n 0, 1)]) (t' := (0, 0, 16, [some (.ref o), some (.int x1), some (.int x2)], [.ref o], pv_mm s T)) (by decide +kernel) rfl ?_
      refine pv_e_gr (i := 9) (ci := 1) (j := 0) (b := o + 1) (pc' := 19) (by decide +kernel) (fk g0).1 rfl rfl ?_
      refine pv_e_bk (ps := [(19, .iload_n 1, 1)]) (t' := (0, 0, 20, [some (.ref o), some (.int x1), some (.int x2)], [.int x1, .ref (o + 1)], pv_mm s T)) (by decide +kernel) rfl ?_
      obtain ⟨q10, e11, h⟩ := Option.bind_eq_some_iff.mp h
      refine pv_e_rc (pc' := 21) (by decide +kernel) (by have := (fk g0).2.2.2.2; omega) (fk g0).2.1 e11 rfl ?_
      refine pv_e_bk (ps := [(21, .iconst 5, 1)]) (t' := (0, 0, 22, [some (.ref o), some (.int x1), some (.int x2)], [.int (5:Int32), .int q10], pv_mm s T)) (by decide +kernel) rfl ?_
      refine pv_e_icmpne (off := 7) (b := 29) (pc' := 25) (by decide +kernel) (by decide +kernel) rfl (fun c12 => ?_) (fun c12 => ?_)
      · rw [if_pos c12] at h
        refine pv_e_bk (ps := [(25, .iconst 1, 1), (26, .goto 4, 3)]) (t' := (0, 0, 30, [some (.ref o), some (.int x1), some (.int x2)], [.int (1:Int32)], pv_mm s T)) (by decide +kernel) rfl ?_
        obtain rfl := Option.some.inj h
        exact hJ7
      · rw [if_neg c12] at h
        refine pv_e_bk (ps := [(29, .iconst 0, 1)]) (t' := (0, 0, 30, [some (.ref o), some (.int x1), some (.int x2)], [.int (0:Int32)], pv_mm s T)) (by decide +kernel) rfl ?_
        obtain rfl := Option.some.inj h
        exact hJ7
    · rw [if_neg c9] at h
      refine pv_e_bk (ps := [(29, .iconst 0, 1)]) (t' := (0, 0, 30, [some (.ref o), some (.int x1), some (.int x2)], [.int (0:Int32)], pv_mm s T)) (by decide +kernel) rfl ?_
      obtain rfl := Option.some.inj h
      exact hJ7
def f9_lives (o : Nat) (x1 : Int32) (s : pv_F) : Option (Int32) :=
  (pv_rd s (o + 1) 7 x1).bind fun q1 =>
  ((
    if q1 = (3:Int32) then
      some (0:Int32)
    else
      some (1:Int32)) : Option (Int32)).bind fun t3 =>
  (pv_bl t3).bind fun q4 => some q4
theorem ee9 {xs : Nat → Int32} {L : Nat} (d : Nat) (o : Nat) (x1 : Int32) {s : pv_F} {T : pv_T} {q : Int32} (g0 : o ∈ pv_folks) (h : f9_lives o x1 s = some q) : pv_Ev xs L (d + 0) 9 (0, 0, 0, [some (.ref o), some (.int x1)], [], pv_mm s T) (some (.int q), pv_mm s T) := by
  generalize hr : ((some (.int q), pv_mm s T) : Option Value × pv_M) = r
  unfold f9_lives at h
  refine pv_e_bk (ps := [(0, .aload_n 0, 1)]) (t' := (0, 0, 1, [some (.ref o), some (.int x1)], [.ref o], pv_mm s T)) (by decide +kernel) rfl ?_
  refine pv_e_gr (i := 9) (ci := 1) (j := 0) (b := o + 1) (pc' := 4) (by decide +kernel) (fk g0).1 rfl rfl ?_
  refine pv_e_bk (ps := [(4, .iload_n 1, 1)]) (t' := (0, 0, 5, [some (.ref o), some (.int x1)], [.int x1, .ref (o + 1)], pv_mm s T)) (by decide +kernel) rfl ?_
  obtain ⟨q1, e2, h⟩ := Option.bind_eq_some_iff.mp h
  refine pv_e_rc (pc' := 6) (by decide +kernel) (by have := (fk g0).2.2.2.2; omega) (fk g0).2.1 e2 rfl ?_
  refine pv_e_bk (ps := [(6, .iconst 3, 1)]) (t' := (0, 0, 7, [some (.ref o), some (.int x1)], [.int (3:Int32), .int q1], pv_mm s T)) (by decide +kernel) rfl ?_
  obtain ⟨t3, hv6, h⟩ := Option.bind_eq_some_iff.mp h
  have hJ7 : pv_Ev xs L (d + 0) 9 (0, 0, 15, [some (.ref o), some (.int x1)], [.int t3], pv_mm s T) r := by
    obtain ⟨q4, e5, h⟩ := Option.bind_eq_some_iff.mp h
    obtain rfl := Option.some.inj h
    cases hr
    exact pv_e_rz (by decide +kernel) e5
  clear h
  have h := hv6
  clear hv6
  refine pv_e_icmpeq (off := 7) (b := 14) (pc' := 10) (by decide +kernel) (by decide +kernel) rfl (fun c8 => ?_) (fun c8 => ?_)
  · rw [if_pos c8] at h
    refine pv_e_bk (ps := [(14, .iconst 0, 1)]) (t' := (0, 0, 15, [some (.ref o), some (.int x1)], [.int (0:Int32)], pv_mm s T)) (by decide +kernel) rfl ?_
    obtain rfl := Option.some.inj h
    exact hJ7
  · rw [if_neg c8] at h
    refine pv_e_bk (ps := [(10, .iconst 1, 1), (11, .goto 4, 3)]) (t' := (0, 0, 15, [some (.ref o), some (.int x1)], [.int (1:Int32)], pv_mm s T)) (by decide +kernel) rfl ?_
    obtain rfl := Option.some.inj h
    exact hJ7
