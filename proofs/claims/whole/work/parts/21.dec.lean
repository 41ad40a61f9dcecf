-- printed by wip/whole/gen/parts.py: methods as functions over the ints of the memory, and that the pure machine runs so
def f10_canCall (o : Nat) (x1 : Int32) (x2 : Int32) (s : pv_F) : Option (Int32) :=
  ((
    if x1 = x2 then
      some (0:Int32)
    else
      (f9_lives o x1 s).bind fun q8 =>
      if q8 = 0 then
        some (0:Int32)
      else
        (f9_lives o x2 s).bind fun q11 =>
        if q11 = 0 then
          some (0:Int32)
        else
          (pv_rd s (o + 2) 7 x2).bind fun q13 =>
          if q13 = 0 then
            some (0:Int32)
          else
            some (1:Int32)) : Option (Int32)).bind fun t1 =>
  (pv_bl t1).bind fun q2 => some q2
theorem ee10 {xs : Nat → Int32} {L : Nat} (d : Nat) (o : Nat) (x1 : Int32) (x2 : Int32) {s : pv_F} {T : pv_T} {q : Int32} (g0 : o ∈ pv_folks) (h : f10_canCall o x1 x2 s = some q) : pv_Ev xs L (d + 1) 10 (0, 0, 0, [some (.ref o), some (.int x1), some (.int x2)], [], pv_mm s T) (some (.int q), pv_mm s T) := by
  generalize hr : ((some (.int q), pv_mm s T) : Option Value × pv_M) = r
  unfold f10_canCall at h
  refine pv_e_bk (ps := [(0, .iload_n 1, 1), (1, .iload_n 2, 1)]) (t' := (0, 0, 2, [some (.ref o), some (.int x1), some (.int x2)], [.int x2, .int x1], pv_mm s T)) (by decide +kernel) rfl ?_
  obtain ⟨t1, hv4, h⟩ := Option.bind_eq_some_iff.mp h
  have hJ5 : pv_Ev xs L (d + 1) 10 (0, 0, 35, [some (.ref o), some (.int x1), some (.int x2)], [.int t1], pv_mm s T) r := by
    obtain ⟨q2, e3, h⟩ := Option.bind_eq_some_iff.mp h
    obtain rfl := Option.some.inj h
    cases hr
    exact pv_e_rz (by decide +kernel) e3
  clear h
  have h := hv4
  clear hv4
  refine pv_e_icmpeq (off := 32) (b := 34) (pc' := 5) (by decide +kernel) (by decide +kernel) rfl (fun c6 => ?_) (fun c6 => ?_)
  · rw [if_pos c6] at h
    refine pv_e_bk (ps := [(34, .iconst 0, 1)]) (t' := (0, 0, 35, [some (.ref o), some (.int x1), some (.int x2)], [.int (0:Int32)], pv_mm s T)) (by decide +kernel) rfl ?_
    obtain rfl := Option.some.inj h
    exact hJ5
  · rw [if_neg c6] at h
    refine pv_e_bk (ps := [(5, .aload_n 0, 1), (6, .iload_n 1, 1)]) (t' := (0, 0, 7, [some (.ref o), some (.int x1), some (.int x2)], [.int x1, .ref o], pv_mm s T)) (by decide +kernel) rfl ?_
    obtain ⟨q8, e7, h⟩ := Option.bind_eq_some_iff.mp h
    refine pv_e_cvi (d := d + 0) (i := 53) (z := 9) (np := 1) (ml := 2) (ci := 1) (As := [.int x1]) (rs := []) (pc' := 10) (by decide +kernel) (fk g0).1 rfl rfl rfl (Nat.le_of_ble_eq_true rfl) (Nat.le_of_ble_eq_true rfl) rfl (ee9 (d + 0) o x1 g0 e7) ?_
    refine pv_e_ifeq (off := 24) (b := 34) (pc' := 13) (by decide +kernel) (by decide +kernel) rfl (fun c9 => ?_) (fun c9 => ?_)
    · rw [if_pos c9] at h
      refine pv_e_bk (ps := [(34, .iconst 0, 1)]) (t' := (0, 0, 35, [some (.ref o), some (.int x1), some (.int x2)], [.int (0:Int32)], pv_mm s T)) (by decide +kernel) rfl ?_
      obtain rfl := Option.some.inj h
      exact hJ5
    · rw [if_neg c9] at h
      refine pv_e_bk (ps := [(13, .aload_n 0, 1), (14, .iload_n 2, 1)]) (t' := (0, 0, 15, [some (.ref o), some (.int x1), some (.int x2)], [.int x2, .ref o], pv_mm s T)) (by decide +kernel) rfl ?_
      obtain ⟨q11, e10, h⟩ := Option.bind_eq_some_iff.mp h
      refine pv_e_cvi (d := d + 0) (i := 53) (z := 9) (np := 1) (ml := 2) (ci := 1) (As := [.int x2]) (rs := []) (pc' := 18) (by decide +kernel) (fk g0).1 rfl rfl rfl (Nat.le_of_ble_eq_true rfl) (Nat.le_of_ble_eq_true rfl) rfl (ee9 (d + 0) o x2 g0 e10) ?_
      refine pv_e_ifeq (off := 16) (b := 34) (pc' := 21) (by decide +kernel) (by decide +kernel) rfl (fun c12 => ?_) (fun c12 => ?_)
      · rw [if_pos c12] at h
        refine pv_e_bk (ps := [(34, .iconst 0, 1)]) (t' := (0, 0, 35, [some (.ref o), some (.int x1), some (.int x2)], [.int (0:Int32)], pv_mm s T)) (by decide +kernel) rfl ?_
        obtain rfl := Option.some.inj h
        exact hJ5
      · rw [if_neg c12] at h
        refine pv_e_bk (ps := [(21, .aload_n 0, 1)]) (t' := (0, 0, 22, [some (.ref o), some (.int x1), some (.int x2)], [.ref o], pv_mm s T)) (by decide +kernel) rfl ?_
        refine pv_e_gr (i := 15) (ci := 1) (j := 1) (b := o + 2) (pc' := 25) (by decide +kernel) (fk g0).1 rfl rfl ?_
        refine pv_e_bk (ps := [(25, .iload_n 2, 1)]) (t' := (0, 0, 26, [some (.ref o), some (.int x1), some (.int x2)], [.int x2, .ref (o + 2)], pv_mm s T)) (by decide +kernel) rfl ?_
        obtain ⟨q13, e14, h⟩ := Option.bind_eq_some_iff.mp h
        refine pv_e_rc (pc' := 27) (by decide +kernel) (by have := (fk g0).2.2.2.2; omega) (fk g0).2.2.1 e14 rfl ?_
        refine pv_e_ifeq (off := 7) (b := 34) (pc' := 30) (by decide +kernel) (by decide +kernel) rfl (fun c15 => ?_) (fun c15 => ?_)
        · rw [if_pos c15] at h
          refine pv_e_bk (ps := [(34, .iconst 0, 1)]) (t' := (0, 0, 35, [some (.ref o), some (.int x1), some (.int x2)], [.int (0:Int32)], pv_mm s T)) (by decide +kernel) rfl ?_
          obtain rfl := Option.some.inj h
          exact hJ5
        · rw [if_neg c15] at h
          refine pv_e_bk (ps := [(30, .iconst 1, 1), (31, .goto 4, 3)]) (t' := (0, 0, 35, [some (.ref o), some (.int x1), some (.int x2)], [.int (1:Int32)], pv_mm s T)) (by decide +kernel) rfl ?_
          obtain rfl := Option.some.inj h
          exact hJ5
def f11_canGrow (o : Nat) (x1 : Int32) (x2 : Int32) (s : pv_F) : Option (Int32) :=
  (f9_lives o x1 s).bind fun q2 =>
  ((
    if q2 = 0 then
      some (0:Int32)
    else
      (pv_rd s (o + 2) 7 x1).bind fun q9 =>
      (f218_size q9).bind fun q12 =>
      if (6:Int32) < (q12 + x2) then
        some (0:Int32)
      else
        some (1:Int32)) : Option (Int32)).bind fun t3 =>
  (pv_bl t3).bind fun q4 => some q4
theorem ee11 {xs : Nat → Int32} {L : Nat} (d : Nat) (o : Nat) (x1 : Int32) (x2 : Int32) {s : pv_F} {T : pv_T} {q : Int32} (g0 : o ∈ pv_folks) (h : f11_canGrow o x1 x2 s = some q) : pv_Ev xs L (d + 1) 11 (0, 0, 0, [some (.ref o), some (.int x1), some (.int x2)], [], pv_mm s T) (some (.int q), pv_mm s T) := by
  generalize hr : ((some (.int q), pv_mm s T) : Option Value × pv_M) = r
  unfold f11_canGrow at h
  refine pv_e_bk (ps := [(0, .aload_n 0, 1), (1, .iload_n 1, 1)]) (t' := (0, 0, 2, [some (.ref o), some (.int x1), some (.int x2)], [.int x1, .ref o], pv_mm s T)) (by decide +kernel) rfl ?_
  obtain ⟨q2, e1, h⟩ := Option.bind_eq_some_iff.mp h
  refine pv_e_cvi (d := d + 0) (i := 53) (z := 9) (np := 1) (ml := 2) (ci := 1) (As := [.int x1]) (rs := []) (pc' := 5) (by decide +kernel) (fk g0).1 rfl rfl rfl (Nat.le_of_ble_eq_true rfl) (Nat.le_of_ble_eq_true rfl) rfl (ee9 (d + 0) o x1 g0 e1) ?_
  obtain ⟨t3, hv6, h⟩ := Option.bind_eq_some_iff.mp h
  have hJ7 : pv_Ev xs L (d + 1) 11 (0, 0, 29, [some (.ref o), some (.int x1), some (.int x2)], [.int t3], pv_mm s T) r := by
    obtain ⟨q4, e5, h⟩ := Option.bind_eq_some_iff.mp h
    obtain rfl := Option.some.inj h
    cases hr
    exact pv_e_rz (by decide +kernel) e5
  clear h
  have h := hv6
  clear hv6
  refine pv_e_ifeq (off := 23) (b := 28) (pc' := 8) (by decide +kernel) (by decide +kernel) rfl (fun c8 => ?_) (fun c8 => ?_)
  · rw [if_pos c8] at h
    refine pv_e_bk (ps := [(28, .iconst 0, 1)]) (t' := (0, 0, 29, [some (.ref o), some (.int x1), some (.int x2)], [.int (0:Int32)], pv_mm s T)) (by decide +kernel) rfl ?_
    obtain rfl := Option.some.inj h
    exact hJ7
  · rw [if_neg c8] at h
    refine pv_e_bk (ps := [(8, .aload_n 0, 1)]) (t' := (0, 0, 9, [some (.ref o), some (.int x1), some (.int x2)], [.ref o], pv_mm s T)) (by decide +kernel) rfl ?_
    refine pv_e_gr (i := 15) (ci := 1) (j := 1) (b := o + 2) (pc' := 12) (by decide +kernel) (fk g0).1 rfl rfl ?_
    refine pv_e_bk (ps := [(12, .iload_n 1, 1)]) (t' := (0, 0, 13, [some (.ref o), some (.int x1), some (.int x2)], [.int x1, .ref (o + 2)], pv_mm s T)) (by decide +kernel) rfl ?_
    obtain ⟨q9, e10, h⟩ := Option.bind_eq_some_iff.mp h
    refine pv_e_rc (pc' := 14) (by decide +kernel) (by have := (fk g0).2.2.2.2; omega) (fk g0).2.2.1 e10 rfl ?_
    obtain ⟨q12, e11, h⟩ := Option.bind_eq_some_iff.mp h
    refine pv_e_csi (d := d + 0) (i := 43) (z := 218) (np := 1) (ml := 2) (As := [.int q9]) (rs := []) (pc' := 17) (by decide +kernel) rfl rfl rfl (Nat.le_of_ble_eq_true rfl) (Nat.le_of_ble_eq_true rfl) rfl (ee218 (d + 0) q9 e11) ?_
    refine pv_e_bk (ps := [(17, .iload_n 2, 1), (18, .iadd, 1), (19, .bipush 6, 2)]) (t' := (0, 0, 21, [some (.ref o), some (.int x1), some (.int x2)], [.int (6:Int32), .int (q12 + x2)], pv_mm s T)) (by decide +kernel) rfl ?_
    refine pv_e_icmpgt (off := 7) (b := 28) (pc' := 24) (by decide +kernel) (by decide +kernel) rfl (fun c13 => ?_) (fun c13 => ?_)
    · rw [if_pos c13] at h
      refine pv_e_bk (ps := [(28, .iconst 0, 1)]) (t' := (0, 0, 29, [some (.ref o), some (.int x1), some (.int x2)], [.int (0:Int32)], pv_mm s T)) (by decide +kernel) rfl ?_
      obtain rfl := Option.some.inj h
      exact hJ7
    · rw [if_neg c13] at h
      refine pv_e_bk (ps := [(24, .iconst 1, 1), (25, .goto 4, 3)]) (t' := (0, 0, 29, [some (.ref o), some (.int x1), some (.int x2)], [.int (1:Int32)], pv_mm s T)) (by decide +kernel) rfl ?_
      obtain rfl := Option.some.inj h
      exact hJ7
def f220_start (x0 : Int32) (x1 : Int32) : Option (Int32) :=
  some ((pv_ush x0 ((30:Int32) - ((5:Int32) * x1))) <<< (((30:Int32) - ((5:Int32) * x1)) &&& 31))
theorem ee220 {xs : Nat → Int32} {L : Nat} (d : Nat) (x0 : Int32) (x1 : Int32) {M : pv_M} {q : Int32}  (h : f220_start x0 x1 = some q) : pv_Ev xs L (d + 0) 220 (0, 0, 0, [some (.int x0), some (.int x1), none], [], M) (some (.int q), M) := by
  generalize hr : ((some (.int q), M) : Option Value × pv_M) = r
  unfold f220_start at h
  refine pv_e_bk (ps := [(0, .bipush 30, 2), (2, .iconst 5, 1), (3, .iload_n 1, 1), (4, .imul, 1), (5, .isub, 1), (6, .istore_n 2, 1), (7, .iload_n 0, 1), (8, .iload_n 2, 1), (9, .iushr, 1), (10, .iload_n 2, 1), (11, .ishl, 1)]) (t' := (0, 0, 12, [some (.int x0), some (.int x1), some (.int ((30:Int32) - ((5:Int32) * x1)))], [.int ((pv_ush x0 ((30:Int32) - ((5:Int32) * x1))) <<< (((30:Int32) - ((5:Int32) * x1)) &&& 31))], M)) (by decide +kernel) rfl ?_
  obtain rfl := Option.some.inj h
  cases hr
  exact pv_e_ri (by decide +kernel)
def f14_beginning_b1 (v0 : Nat) (v1 : Int32) (v3 : Int32) (s : pv_F) (st : Int32 × Int32) : Option ((Int32 × Int32) ⊕ (Int32 × Int32)) := match st with
  | (v2, v4) =>
    if (s v0 3) ≤ v4 then
      some (.inr (v2, v4))
    else
      (f9_lives v0 v4 s).bind fun q5 =>
      ((
        if q5 = 0 then
          some v2
        else
          (pv_rd s (v0 + 2) 7 v4).bind fun q10 =>
          (f220_start q10 v3).bind fun q13 =>
          if q13 = v1 then
            some (v2 ||| ((1:Int32) <<< (v4 &&& 31)))
          else
            some v2) : Option (Int32)).bind fun v6 =>
      some (.inl (v6, v4 + (1:Int32)))
def f14_beginning_b1_H (xs : Nat → Int32) (L d : Nat) (r : Option Value × pv_M) (T : pv_T) (v0 : Nat) (v1 : Int32) (v3 : Int32) (s : pv_F) (st : Int32 × Int32) : Prop := match st with
  | (v2, v4) => pv_Ev xs L (d + 1) 14 (0, 0, 10, [some (.ref v0), some (.int v1), some (.int v2), some (.int v3), some (.int v4)], [], pv_mm s T) r
def f14_beginning_b1_X (xs : Nat → Int32) (L d : Nat) (r : Option Value × pv_M) (T : pv_T) (v0 : Nat) (v1 : Int32) (v3 : Int32) (s : pv_F) (st : Int32 × Int32) : Prop := match st with
  | (v2, v4) => ∀ z4 : Option Value, pv_Ev xs L (d + 1) 14 (0, 0, 56, [some (.ref v0), some (.int v1), some (.int v2), some (.int v3), z4], [], pv_mm s T) r
def f14_beginning (o : Nat) (x1 : Int32) (s : pv_F) : Option (Int32) :=
  (f218_size x1).bind fun q2 =>
  (pv_lq (f14_beginning_b1 o x1 q2 s) 20000 ((0:Int32), (0:Int32))).bind fun (w15, w16) =>
  some w15
theorem f14_beginning_b1_ok {xs : Nat → Int32} {L d : Nat} {r : Option Value × pv_M} {T : pv_T} {v0 : Nat} {v1 : Int32} {v3 : Int32} {s : pv_F} (g0 : v0 ∈ pv_folks) (st : Int32 × Int32) (o : (Int32 × Int32) ⊕ (Int32 × Int32)) (h : f14_beginning_b1 v0 v1 v3 s st = some o) (hK : pv_Kq (f14_beginning_b1_H xs L d r T v0 v1 v3 s) (f14_beginning_b1_X xs L d r T v0 v1 v3 s) o) : f14_beginning_b1_H xs L d r T v0 v1 v3 s st := by
  obtain ⟨v2, v4⟩ := st
  show pv_Ev xs L (d + 1) 14 (0, 0, 10, [some (.ref v0), some (.int v1), some (.int v2), some (.int v3), some (.int v4)], [], pv_mm s T) r
  unfold f14_beginning_b1 at h
  dsimp only at h
  refine pv_e_bk (ps := [(10, .iload 4, 2), (12, .aload_n 0, 1)]) (t' := (0, 0, 13, [some (.ref v0), some (.int v1), some (.int v2), some (.int v3), some (.int v4)], [.ref v0, .int v4], pv_mm s T)) (by decide +kernel) rfl ?_
  refine pv_e_gc (i := 21) (ci := 1) (j := 3) (pc' := 16) (by decide +kernel) (by have := (fk g0).2.2.2.2; omega) (fk g0).1 rfl rfl ?_
  refine pv_e_icmpge (off := 40) (b := 56) (pc' := 19) (by decide +kernel) (by decide +kernel) rfl (fun c3 => ?_) (fun c3 => ?_)
  · rw [if_pos c3] at h
    obtain rfl := Option.some.inj h
    exact hK _
  · rw [if_neg c3] at h
    refine pv_e_bk (ps := [(19, .aload_n 0, 1), (20, .iload 4, 2)]) (t' := (0, 0, 22, [some (.ref v0), some (.int v1), some (.int v2), some (.int v3), some (.int v4)], [.int v4, .ref v0], pv_mm s T)) (by decide +kernel) rfl ?_
    obtain ⟨q5, e4, h⟩ := Option.bind_eq_some_iff.mp h
    refine pv_e_cvi (d := d + 0) (i := 53) (z := 9) (np := 1) (ml := 2) (ci := 1) (As := [.int v4]) (rs := []) (pc' := 25) (by decide +kernel) (fk g0).1 rfl rfl rfl (Nat.le_of_ble_eq_true rfl) (Nat.le_of_ble_eq_true rfl) rfl (ee9 (d + 0) v0 v4 g0 e4) ?_
    obtain ⟨v6, hv7, h⟩ := Option.bind_eq_some_iff.mp h
    have hJ8 : pv_Ev xs L (d + 1) 14 (0, 0, 50, [some (.ref v0), some (.int v1), some (.int v6), some (.int v3), some (.int v4)], [], pv_mm s T) r := by
      refine pv_e_bk (ps := [(50, .iinc 4 1, 3), (53, .goto (-43), 3)]) (t' := (0, 0, 10, [some (.ref v0), some (.int v1), some (.int v6), some (.int v3), some (.int (v4 + (1:Int32)))], [], pv_mm s T)) (by decide +kernel) rfl ?_
      obtain rfl := Option.some.inj h
      exact hK
    clear h
    have h := hv7
    clear hv7
    refine pv_e_ifeq (off := 25) (b := 50) (pc' := 28) (by decide +kernel) (by decide +kernel) rfl (fun c9 => ?_) (fun c9 => ?_)
    · rw [if_pos c9] at h
      obtain rfl := Option.some.inj h
      exact hJ8
    · rw [if_neg c9] at h
      refine pv_e_bk (ps := [(28, .aload_n 0, 1)]) (t' := (0, 0, 29, [some (.ref v0), some (.int v1), some (.int v2), some (.int v3), some (.int v4)], [.ref v0], pv_mm s T)) (by decide +kernel) rfl ?_
      refine pv_e_gr (i := 15) (ci := 1) (j := 1) (b := v0 + 2) (pc' := 32) (by decide +kernel) (fk g0).1 rfl rfl ?_
      refine pv_e_bk (ps := [(32, .iload 4, 2)]) (t' := (0, 0, 34, [some (.ref v0), some (.int v1), some (.int v2), some (.int v3), some (.int v4)], [.int v4, .ref (v0 + 2)], pv_mm s T)) (by decide +kernel) rfl ?_
      obtain ⟨q10, e11, h⟩ := Option.bind_eq_some_iff.mp h
      refine pv_e_rc (pc' := 35) (by decide +kernel) (by have := (fk g0).2.2.2.2; omega) (fk g0).2.2.1 e11 rfl ?_
      refine pv_e_bk (ps := [(35, .iload_n 3, 1)]) (t' := (0, 0, 36, [some (.ref v0), some (.int v1), some (.int v2), some (.int v3), some (.int v4)], [.int v3, .int q10], pv_mm s T)) (by decide +kernel) rfl ?_
      obtain ⟨q13, e12, h⟩ := Option.bind_eq_some_iff.mp h
      refine pv_e_csi (d := d + 0) (i := 60) (z := 220) (np := 2) (ml := 3) (As := [.int q10, .int v3]) (rs := []) (pc' := 39) (by decide +kernel) rfl rfl rfl (Nat.le_of_ble_eq_true rfl) (Nat.le_of_ble_eq_true rfl) rfl (ee220 (d + 0) q10 v3 e12) ?_
      refine pv_e_bk (ps := [(39, .iload_n 1, 1)]) (t' := (0, 0, 40, [some (.ref v0), some (.int v1), some (.int v2), some (.int v3), some (.int v4)], [.int v1, .int q13], pv_mm s T)) (by decide +kernel) rfl ?_
      refine pv_e_icmpne (off := 10) (b := 50) (pc' := 43) (by decide +kernel) (by decide +kernel) rfl (fun c14 => ?_) (fun c14 => ?_)
      · rw [if_pos c14] at h
        refine pv_e_bk (ps := [(43, .iload_n 2, 1), (44, .iconst 1, 1), (45, .iload 4, 2), (47, .ishl, 1), (48, .ior, 1), (49, .istore_n 2, 1)]) (t' := (0, 0, 50, [some (.ref v0), some (.int v1), some (.int (v2 ||| ((1:Int32) <<< (v4 &&& 31)))), some (.int v3), some (.int v4)], [], pv_mm s T)) (by decide +kernel) rfl ?_
        obtain rfl := Option.some.inj h
        exact hJ8
      · rw [if_neg c14] at h
        obtain rfl := Option.some.inj h
        exact hJ8
theorem ee14 {xs : Nat → Int32} {L : Nat} (d : Nat) (o : Nat) (x1 : Int32) {s : pv_F} {T : pv_T} {q : Int32} (g0 : o ∈ pv_folks) (h : f14_beginning o x1 s = some q) : pv_Ev xs L (d + 1) 14 (0, 0, 0, [some (.ref o), some (.int x1), none, none, none], [], pv_mm s T) (some (.int q), pv_mm s T) := by
  generalize hr : ((some (.int q), pv_mm s T) : Option Value × pv_M) = r
  unfold f14_beginning at h
  refine pv_e_bk (ps := [(0, .iconst 0, 1), (1, .istore_n 2, 1), (2, .iload_n 1, 1)]) (t' := (0, 0, 3, [some (.ref o), some (.int x1), some (.int (0:Int32)), none, none], [.int x1], pv_mm s T)) (by decide +kernel) rfl ?_
  obtain ⟨q2, e1, h⟩ := Option.bind_eq_some_iff.mp h
  refine pv_e_csi (d := d + 0) (i := 43) (z := 218) (np := 1) (ml := 2) (As := [.int x1]) (rs := []) (pc' := 6) (by decide +kernel) rfl rfl rfl (Nat.le_of_ble_eq_true rfl) (Nat.le_of_ble_eq_true rfl) rfl (ee218 (d + 0) x1 e1) ?_
  refine pv_e_bk (ps := [(6, .istore_n 3, 1), (7, .iconst 0, 1), (8, .istore 4, 2)]) (t' := (0, 0, 10, [some (.ref o), some (.int x1), some (.int (0:Int32)), some (.int q2), some (.int (0:Int32))], [], pv_mm s T)) (by decide +kernel) rfl ?_
  obtain ⟨⟨w15, w16⟩, e18, h⟩ := Option.bind_eq_some_iff.mp h
  dsimp only at h
  have hx17 : f14_beginning_b1_X xs L d r T o x1 q2 s (w15, w16) := by
    show ∀ z4 : Option Value, pv_Ev xs L (d + 1) 14 (0, 0, 56, [some (.ref o), some (.int x1), some (.int w15), some (.int q2), z4], [], pv_mm s T) r
    intro z4
    refine pv_e_bk (ps := [(56, .iload_n 2, 1)]) (t' := (0, 0, 57, [some (.ref o), some (.int x1), some (.int w15), some (.int q2), z4], [.int w15], pv_mm s T)) (by decide +kernel) rfl ?_
    obtain rfl := Option.some.inj h
    cases hr
    exact pv_e_ri (by decide +kernel)
  exact pv_lq_ok (H := f14_beginning_b1_H xs L d r T o x1 q2 s) (X := f14_beginning_b1_X xs L d r T o x1 q2 s) (f14_beginning_b1_ok (xs := xs) (L := L) (d := d) (r := r) (T := T) (v0 := o) (v1 := x1) (v3 := q2) (s := s) g0) 20000 _ _ e18 hx17
def f13_named_b1 (v0 : Nat) (v1 : Int32) (s : pv_F) (st : Int32 × Int32) : Option ((Int32 × Int32) ⊕ (Int32 × Int32)) := match st with
  | (v2, v3) =>
    if (s v0 3) ≤ v3 then
      some (.inr (v2, v3))
    else
      (f9_lives v0 v3 s).bind fun q3 =>
      ((
        if q3 = 0 then
          some v2
        else
          (pv_rd s (v0 + 2) 7 v3).bind fun q8 =>
          if q8 = v1 then
            some (v2 ||| ((1:Int32) <<< (v3 &&& 31)))
          else
            some v2) : Option (Int32)).bind fun v4 =>
      some (.inl (v4, v3 + (1:Int32)))
def f13_named_b1_H (xs : Nat → Int32) (L d : Nat) (r : Option Value × pv_M) (T : pv_T) (v0 : Nat) (v1 : Int32) (s : pv_F) (st : Int32 × Int32) : Prop := match st with
  | (v2, v3) => pv_Ev xs L (d + 1) 13 (0, 0, 4, [some (.ref v0), some (.int v1), some (.int v2), some (.int v3)], [], pv_mm s T) r
def f13_named_b1_X (xs : Nat → Int32) (L d : Nat) (r : Option Value × pv_M) (T : pv_T) (v0 : Nat) (v1 : Int32) (s : pv_F) (st : Int32 × Int32) : Prop := match st with
  | (v2, v3) => ∀ z3 : Option Value, pv_Ev xs L (d + 1) 13 (0, 0, 42, [some (.ref v0), some (.int v1), some (.int v2), z3], [], pv_mm s T) r
def f13_named (o : Nat) (x1 : Int32) (s : pv_F) : Option (Int32) :=
  (pv_lq (f13_named_b1 o x1 s) 20000 ((0:Int32), (0:Int32))).bind fun (w11, w12) =>
  some w11
theorem f13_named_b1_ok {xs : Nat → Int32} {L d : Nat} {r : Option Value × pv_M} {T : pv_T} {v0 : Nat} {v1 : Int32} {s : pv_F} (g0 : v0 ∈ pv_folks) (st : Int32 × Int32) (o : (Int32 × Int32) ⊕ (Int32 × Int32)) (h : f13_named_b1 v0 v1 s st = some o) (hK : pv_Kq (f13_named_b1_H xs L d r T v0 v1 s) (f13_named_b1_X xs L d r T v0 v1 s) o) : f13_named_b1_H xs L d r T v0 v1 s st := by
  obtain ⟨v2, v3⟩ := st
  show pv_Ev xs L (d + 1) 13 (0, 0, 4, [some (.ref v0), some (.int v1), some (.int v2), some (.int v3)], [], pv_mm s T) r
  unfold f13_named_b1 at h
  dsimp only at h
  refine pv_e_bk (ps := [(4, .iload_n 3, 1), (5, .aload_n 0, 1)]) (t' := (0, 0, 6, [some (.ref v0), some (.int v1), some (.int v2), some (.int v3)], [.ref v0, .int v3], pv_mm s T)) (by decide +kernel) rfl ?_
  refine pv_e_gc (i := 21) (ci := 1) (j := 3) (pc' := 9) (by decide +kernel) (by have := (fk g0).2.2.2.2; omega) (fk g0).1 rfl rfl ?_
  refine pv_e_icmpge (off := 33) (b := 42) (pc' := 12) (by decide +kernel) (by decide +kernel) rfl (fun c1 => ?_) (fun c1 => ?_)
  · rw [if_pos c1] at h
    obtain rfl := Option.some.inj h
    exact hK _
  · rw [if_neg c1] at h
    refine pv_e_bk (ps := [(12, .aload_n 0, 1), (13, .iload_n 3, 1)]) (t' := (0, 0, 14, [some (.ref v0), some (.int v1), some (.int v2), some (.int v3)], [.int v3, .ref v0], pv_mm s T)) (by decide +kernel) rfl ?_
    obtain ⟨q3, e2, h⟩ := Option.bind_eq_some_iff.mp h
    refine pv_e_cvi (d := d + 0) (i := 53) (z := 9) (np := 1) (ml := 2) (ci := 1) (As := [.int v3]) (rs := []) (pc' := 17) (by decide +kernel) (fk g0).1 rfl rfl rfl (Nat.le_of_ble_eq_true rfl) (Nat.le_of_ble_eq_true rfl) rfl (ee9 (d + 0) v0 v3 g0 e2) ?_
    obtain ⟨v4, hv5, h⟩ := Option.bind_eq_some_iff.mp h
    have hJ6 : pv_Ev xs L (d + 1) 13 (0, 0, 36, [some (.ref v0), some (.int v1), some (.int v4), some (.int v3)], [], pv_mm s T) r := by
      refine pv_e_bk (ps := [(36, .iinc 3 1, 3), (39, .goto (-35), 3)]) (t' := (0, 0, 4, [some (.ref v0), some (.int v1), some (.int v4), some (.int (v3 + (1:Int32)))], [], pv_mm s T)) (by decide +kernel) rfl ?_
      obtain rfl := Option.some.inj h
      exact hK
    clear h
    have h := hv5
    clear hv5
    refine pv_e_ifeq (off := 19) (b := 36) (pc' := 20) (by decide +kernel) (by decide +kernel) rfl (fun c7 => ?_) (fun c7 => ?_)
    · rw [if_pos c7] at h
      obtain rfl := Option.some.inj h
      exact hJ6
    · rw [if_neg c7] at h
      refine pv_e_bk (ps := [(20, .aload_n 0, 1)]) (t' := (0, 0, 21, [some (.ref v0), some (.int v1), some (.int v2), some (.int v3)], [.ref v0], pv_mm s T)) (by decide +kernel) rfl ?_
      refine pv_e_gr (i := 15) (ci := 1) (j := 1) (b := v0 + 2) (pc' := 24) (by decide +kernel) (fk g0).1 rfl rfl ?_
      refine pv_e_bk (ps := [(24, .iload_n 3, 1)]) (t' := (0, 0, 25, [some (.ref v0), some (.int v1), some (.int v2), some (.int v3)], [.int v3, .ref (v0 + 2)], pv_mm s T)) (by decide +kernel) rfl ?_
      obtain ⟨q8, e9, h⟩ := Option.bind_eq_some_iff.mp h
      refine pv_e_rc (pc' := 26) (by decide +kernel) (by have := (fk g0).2.2.2.2; omega) (fk g0).2.2.1 e9 rfl ?_
      refine pv_e_bk (ps := [(26, .iload_n 1, 1)]) (t' := (0, 0, 27, [some (.ref v0), some (.int v1), some (.int v2), some (.int v3)], [.int v1, .int q8], pv_mm s T)) (by decide +kernel) rfl ?_
      refine pv_e_icmpne (off := 9) (b := 36) (pc' := 30) (by decide +kernel) (by decide +kernel) rfl (fun c10 => ?_) (fun c10 => ?_)
      · rw [if_pos c10] at h
        refine pv_e_bk (ps := [(30, .iload_n 2, 1), (31, .iconst 1, 1), (32, .iload_n 3, 1), (33, .ishl, 1), (34, .ior, 1), (35, .istore_n 2, 1)]) (t' := (0, 0, 36, [some (.ref v0), some (.int v1), some (.int (v2 ||| ((1:Int32) <<< (v3 &&& 31)))), some (.int v3)], [], pv_mm s T)) (by decide +kernel) rfl ?_
        obtain rfl := Option.some.inj h
        exact hJ6
      · rw [if_neg c10] at h
        obtain rfl := Option.some.inj h
        exact hJ6
theorem ee13 {xs : Nat → Int32} {L : Nat} (d : Nat) (o : Nat) (x1 : Int32) {s : pv_F} {T : pv_T} {q : Int32} (g0 : o ∈ pv_folks) (h : f13_named o x1 s = some q) : pv_Ev xs L (d + 1) 13 (0, 0, 0, [some (.ref o), some (.int x1), none, none], [], pv_mm s T) (some (.int q), pv_mm s T) := by
  generalize hr : ((some (.int q), pv_mm s T) : Option Value × pv_M) = r
  unfold f13_named at h
  refine pv_e_bk (ps := [(0, .iconst 0, 1), (1, .istore_n 2, 1), (2, .iconst 0, 1), (3, .istore_n 3, 1)]) (t' := (0, 0, 4, [some (.ref o), some (.int x1), some (.int (0:Int32)), some (.int (0:Int32))], [], pv_mm s T)) (by decide +kernel) rfl ?_
  obtain ⟨⟨w11, w12⟩, e14, h⟩ := Option.bind_eq_some_iff.mp h
  dsimp only at h
  have hx13 : f13_named_b1_X xs L d r T o x1 s (w11, w12) := by
    show ∀ z3 : Option Value, pv_Ev xs L (d + 1) 13 (0, 0, 42, [some (.ref o), some (.int x1), some (.int w11), z3], [], pv_mm s T) r
    intro z3
    refine pv_e_bk (ps := [(42, .iload_n 2, 1)]) (t' := (0, 0, 43, [some (.ref o), some (.int x1), some (.int w11), z3], [.int w11], pv_mm s T)) (by decide +kernel) rfl ?_
    obtain rfl := Option.some.inj h
    cases hr
    exact pv_e_ri (by decide +kernel)
  exact pv_lq_ok (H := f13_named_b1_H xs L d r T o x1 s) (X := f13_named_b1_X xs L d r T o x1 s) (f13_named_b1_ok (xs := xs) (L := L) (d := d) (r := r) (T := T) (v0 := o) (v1 := x1) (s := s) g0) 20000 _ _ e14 hx13
def f12_comers (o : Nat) (x1 : Int32) (x2 : Int32) (s : pv_F) : Option (Int32) :=
  (f10_canCall o x1 x2 s).bind fun q2 =>
  if q2 = 0 then
    some (0:Int32)
  else
    (pv_rd s (o + 1) 7 x1).bind fun q4 =>
    ((
      if q4 = (5:Int32) then
        (pv_rd s (o + 2) 7 x2).bind fun q10 =>
        (f220_start q10 (1:Int32)).bind fun q13 =>
        (f14_beginning o q13 s).bind fun q15 =>
        some q15
      else
        (pv_rd s (o + 2) 7 x2).bind fun q16 =>
        (f13_named o q16 s).bind fun q19 =>
        some q19) : Option (Int32)).bind fun t6 =>
    some (t6 &&& (((1:Int32) <<< (x1 &&& 31)) ^^^ (-1:Int32)))
theorem ee12 {xs : Nat → Int32} {L : Nat} (d : Nat) (o : Nat) (x1 : Int32) (x2 : Int32) {s : pv_F} {T : pv_T} {q : Int32} (g0 : o ∈ pv_folks) (h : f12_comers o x1 x2 s = some q) : pv_Ev xs L (d + 2) 12 (0, 0, 0, [some (.ref o), some (.int x1), some (.int x2), none], [], pv_mm s T) (some (.int q), pv_mm s T) := by
  generalize hr : ((some (.int q), pv_mm s T) : Option Value × pv_M) = r
  unfold f12_comers at h
  refine pv_e_bk (ps := [(0, .aload_n 0, 1), (1, .iload_n 1, 1), (2, .iload_n 2, 1)]) (t' := (0, 0, 3, [some (.ref o), some (.int x1), some (.int x2), none], [.int x2, .int x1, .ref o], pv_mm s T)) (by decide +kernel) rfl ?_
  obtain ⟨q2, e1, h⟩ := Option.bind_eq_some_iff.mp h
  refine pv_e_cvi (d := d + 1) (i := 56) (z := 10) (np := 2) (ml := 3) (ci := 1) (As := [.int x1, .int x2]) (rs := []) (pc' := 6) (by decide +kernel) (fk g0).1 rfl rfl rfl (Nat.le_of_ble_eq_true rfl) (Nat.le_of_ble_eq_true rfl) rfl (ee10 (d + 0) o x1 x2 g0 e1) ?_
  refine pv_e_ifne (off := 5) (b := 11) (pc' := 9) (by decide +kernel) (by decide +kernel) rfl (fun c3 => ?_) (fun c3 => ?_)
  · rw [if_pos c3] at h
    refine pv_e_bk (ps := [(9, .iconst 0, 1)]) (t' := (0, 0, 10, [some (.ref o), some (.int x1), some (.int x2), none], [.int (0:Int32)], pv_mm s T)) (by decide +kernel) rfl ?_
    obtain rfl := Option.some.inj h
    cases hr
    exact pv_e_ri (by decide +kernel)
  · rw [if_neg c3] at h
    refine pv_e_bk (ps := [(11, .aload_n 0, 1)]) (t' := (0, 0, 12, [some (.ref o), some (.int x1), some (.int x2), none], [.ref o], pv_mm s T)) (by decide +kernel) rfl ?_
    refine pv_e_gr (i := 9) (ci := 1) (j := 0) (b := o + 1) (pc' := 15) (by decide +kernel) (fk g0).1 rfl rfl ?_
    refine pv_e_bk (ps := [(15, .iload_n 1, 1)]) (t' := (0, 0, 16, [some (.ref o), some (.int x1), some (.int x2), none], [.int x1, .ref (o + 1)], pv_mm s T)) (by decide +kernel) rfl ?_
    obtain ⟨q4, e5, h⟩ := Option.bind_eq_some_iff.mp h
    refine pv_e_rc (pc' := 17) (by decide +kernel) (by have := (fk g0).2.2.2.2; omega) (fk g0).2.1 e5 rfl ?_
    refine pv_e_bk (ps := [(17, .iconst 5, 1)]) (t' := (0, 0, 18, [some (.ref o), some (.int x1), some (.int x2), none], [.int (5:Int32), .int q4], pv_mm s T)) (by decide +kernel) rfl ?_
    obtain ⟨t6, hv7, h⟩ := Option.bind_eq_some_iff.mp h
    have hJ8 : pv_Ev xs L (d + 2) 12 (0, 0, 48, [some (.ref o), some (.int x1), some (.int x2), none], [.int t6], pv_mm s T) r := by
      refine pv_e_bk (ps := [(48, .istore_n 3, 1), (49, .iload_n 3, 1), (50, .iconst 1, 1), (51, .iload_n 1, 1), (52, .ishl, 1), (53, .iconst (-1), 1), (54, .ixor, 1), (55, .iand, 1)]) (t' := (0, 0, 56, [some (.ref o), some (.int x1), some (.int x2), some (.int t6)], [.int (t6 &&& (((1:Int32) <<< (x1 &&& 31)) ^^^ (-1:Int32)))], pv_mm s T)) (by decide +kernel) rfl ?_
      obtain rfl := Option.some.inj h
      cases hr
      exact pv_e_ri (by decide +kernel)
    clear h
    have h := hv7
    clear hv7
    refine pv_e_icmpne (off := 20) (b := 38) (pc' := 21) (by decide +kernel) (by decide +kernel) rfl (fun c9 => ?_) (fun c9 => ?_)
    · rw [if_pos c9] at h
      refine pv_e_bk (ps := [(21, .aload_n 0, 1), (22, .aload_n 0, 1)]) (t' := (0, 0, 23, [some (.ref o), some (.int x1), some (.int x2), none], [.ref o, .ref o], pv_mm s T)) (by decide +kernel) rfl ?_
      refine pv_e_gr (i := 15) (ci := 1) (j := 1) (b := o + 2) (pc' := 26) (by decide +kernel) (fk g0).1 rfl rfl ?_
      refine pv_e_bk (ps := [(26, .iload_n 2, 1)]) (t' := (0, 0, 27, [some (.ref o), some (.int x1), some (.int x2), none], [.int x2, .ref (o + 2), .ref o], pv_mm s T)) (by decide +kernel) rfl ?_
      obtain ⟨q10, e11, h⟩ := Option.bind_eq_some_iff.mp h
      refine pv_e_rc (pc' := 28) (by decide +kernel) (by have := (fk g0).2.2.2.2; omega) (fk g0).2.2.1 e11 rfl ?_
      refine pv_e_bk (ps := [(28, .iconst 1, 1)]) (t' := (0, 0, 29, [some (.ref o), some (.int x1), some (.int x2), none], [.int (1:Int32), .int q10, .ref o], pv_mm s T)) (by decide +kernel) rfl ?_
      obtain ⟨q13, e12, h⟩ := Option.bind_eq_some_iff.mp h
      refine pv_e_csi (d := d + 1) (i := 60) (z := 220) (np := 2) (ml := 3) (As := [.int q10, .int (1:Int32)]) (rs := [.ref o]) (pc' := 32) (by decide +kernel) rfl rfl rfl (Nat.le_of_ble_eq_true rfl) (Nat.le_of_ble_eq_true rfl) rfl (ee220 (d + 1) q10 (1:Int32) e12) ?_
      obtain ⟨q15, e14, h⟩ := Option.bind_eq_some_iff.mp h
      refine pv_e_cvi (d := d + 1) (i := 63) (z := 14) (np := 1) (ml := 5) (ci := 1) (As := [.int q13]) (rs := []) (pc' := 35) (by decide +kernel) (fk g0).1 rfl rfl rfl (Nat.le_of_ble_eq_true rfl) (Nat.le_of_ble_eq_true rfl) rfl (ee14 (d + 0) o q13 g0 e14) ?_
      refine pv_e_bk (ps := [(35, .goto 13, 3)]) (t' := (0, 0, 48, [some (.ref o), some (.int x1), some (.int x2), none], [.int q15], pv_mm s T)) (by decide +kernel) rfl ?_
      obtain rfl := Option.some.inj h
      exact hJ8
    · rw [if_neg c9] at h
      refine pv_e_bk (ps := [(38, .aload_n 0, 1), (39, .aload_n 0, 1)]) (t' := (0, 0, 40, [some (.ref o), some (.int x1), some (.int x2), none], [.ref o, .ref o], pv_mm s T)) (by decide +kernel) rfl ?_
      refine pv_e_gr (i := 15) (ci := 1) (j := 1) (b := o + 2) (pc' := 43) (by decide +kernel) (fk g0).1 rfl rfl ?_
      refine pv_e_bk (ps := [(43, .iload_n 2, 1)]) (t' := (0, 0, 44, [some (.ref o), some (.int x1), some (.int x2), none], [.int x2, .ref (o + 2), .ref o], pv_mm s T)) (by decide +kernel) rfl ?_
      obtain ⟨q16, e17, h⟩ := Option.bind_eq_some_iff.mp h
      refine pv_e_rc (pc' := 45) (by decide +kernel) (by have := (fk g0).2.2.2.2; omega) (fk g0).2.2.1 e17 rfl ?_
      obtain ⟨q19, e18, h⟩ := Option.bind_eq_some_iff.mp h
      refine pv_e_cvi (d := d + 1) (i := 66) (z := 13) (np := 1) (ml := 4) (ci := 1) (As := [.int q16]) (rs := []) (pc' := 48) (by decide +kernel) (fk g0).1 rfl rfl rfl (Nat.le_of_ble_eq_true rfl) (Nat.le_of_ble_eq_true rfl) rfl (ee13 (d + 0) o q16 g0 e18) ?_
      obtain rfl := Option.some.inj h
      exact hJ8
def f222_without (x0 : Int32) (x1 : Int32) : Option (Int32) :=
  some (((pv_ush x0 (((30:Int32) - ((5:Int32) * (x1 + (1:Int32)))) + (5:Int32))) <<< ((((30:Int32) - ((5:Int32) * (x1 + (1:Int32)))) + (5:Int32)) &&& 31)) ||| ((x0 &&& (((1:Int32) <<< (((30:Int32) - ((5:Int32) * (x1 + (1:Int32)))) &&& 31)) - (1:Int32))) <<< ((5:Int32) &&& 31)))
theorem ee222 {xs : Nat → Int32} {L : Nat} (d : Nat) (x0 : Int32) (x1 : Int32) {M : pv_M} {q : Int32}  (h : f222_without x0 x1 = some q) : pv_Ev xs L (d + 0) 222 (0, 0, 0, [some (.int x0), some (.int x1), none, none], [], M) (some (.int q), M) := by
  generalize hr : ((some (.int q), M) : Option Value × pv_M) = r
  unfold f222_without at h
  refine pv_e_bk (ps := [(0, .bipush 30, 2), (2, .iconst 5, 1), (3, .iload_n 1, 1), (4, .iconst 1, 1), (5, .iadd, 1), (6, .imul, 1), (7, .isub, 1), (8, .istore_n 2, 1), (9, .iload_n 2, 1), (10, .iconst 5, 1), (11, .iadd, 1), (12, .istore_n 3, 1), (13, .iload_n 0, 1), (14, .iload_n 3, 1), (15, .iushr, 1), (16, .iload_n 3, 1), (17, .ishl, 1), (18, .iload_n 0, 1), (19, .iconst 1, 1), (20, .iload_n 2, 1), (21, .ishl, 1), (22, .iconst 1, 1), (23, .isub, 1), (24, .iand, 1), (25, .iconst 5, 1), (26, .ishl, 1), (27, .ior, 1)]) (t' := (0, 0, 28, [some (.int x0), some (.int x1), some (.int ((30:Int32) - ((5:Int32) * (x1 + (1:Int32))))), some (.int (((30:Int32) - ((5:Int32) * (x1 + (1:Int32)))) + (5:Int32)))], [.int (((pv_ush x0 (((30:Int32) - ((5:Int32) * (x1 + (1:Int32)))) + (5:Int32))) <<< ((((30:Int32) - ((5:Int32) * (x1 + (1:Int32)))) + (5:Int32)) &&& 31)) ||| ((x0 &&& (((1:Int32) <<< (((30:Int32) - ((5:Int32) * (x1 + (1:Int32)))) &&& 31)) - (1:Int32))) <<< ((5:Int32) &&& 31)))], M)) (by decide +kernel) rfl ?_
  obtain rfl := Option.some.inj h
  cases hr
  exact pv_e_ri (by decide +kernel)
def f219_letterAt (x0 : Int32) (x1 : Int32) : Option (Int32) :=
  some ((pv_ush x0 ((30:Int32) - ((5:Int32) * (x1 + (1:Int32))))) &&& (31:Int32))
theorem ee219 {xs : Nat → Int32} {L : Nat} (d : Nat) (x0 : Int32) (x1 : Int32) {M : pv_M} {q : Int32}  (h : f219_letterAt x0 x1 = some q) : pv_Ev xs L (d + 0) 219 (0, 0, 0, [some (.int x0), some (.int x1)], [], M) (some (.int q), M) := by
  generalize hr : ((some (.int q), M) : Option Value × pv_M) = r
  unfold f219_letterAt at h
  refine pv_e_bk (ps := [(0, .iload_n 0, 1), (1, .bipush 30, 2), (3, .iconst 5, 1), (4, .iload_n 1, 1), (5, .iconst 1, 1), (6, .iadd, 1), (7, .imul, 1), (8, .isub, 1), (9, .iushr, 1), (10, .bipush 31, 2), (12, .iand, 1)]) (t' := (0, 0, 13, [some (.int x0), some (.int x1)], [.int ((pv_ush x0 ((30:Int32) - ((5:Int32) * (x1 + (1:Int32))))) &&& (31:Int32))], M)) (by decide +kernel) rfl ?_
  obtain rfl := Option.some.inj h
  cases hr
  exact pv_e_ri (by decide +kernel)
def f217_isVowel (x0 : Int32) : Option (Int32) :=
  ((
    if ((pv_ush (2130466:Int32) x0) &&& (1:Int32)) = 0 then
      some (0:Int32)
    else
      some (1:Int32)) : Option (Int32)).bind fun t1 =>
  (pv_bl t1).bind fun q2 => some q2
theorem ee217 {xs : Nat → Int32} {L : Nat} (d : Nat) (x0 : Int32) {M : pv_M} {q : Int32}  (h : f217_isVowel x0 = some q) : pv_Ev xs L (d + 0) 217 (0, 0, 0, [some (.int x0)], [], M) (some (.int q), M) := by
  generalize hr : ((some (.int q), M) : Option Value × pv_M) = r
  unfold f217_isVowel at h
  refine pv_e_bk (ps := [(0, .ldc 11, 2), (2, .iload_n 0, 1), (3, .iushr, 1), (4, .iconst 1, 1), (5, .iand, 1)]) (t' := (0, 0, 6, [some (.int x0)], [.int ((pv_ush (2130466:Int32) x0) &&& (1:Int32))], M)) (by decide +kernel) rfl ?_
  obtain ⟨t1, hv4, h⟩ := Option.bind_eq_some_iff.mp h
  have hJ5 : pv_Ev xs L (d + 0) 217 (0, 0, 14, [some (.int x0)], [.int t1], M) r := by
    obtain ⟨q2, e3, h⟩ := Option.bind_eq_some_iff.mp h
    obtain rfl := Option.some.inj h
    cases hr
    exact pv_e_rz (by decide +kernel) e3
  clear h
  have h := hv4
  clear hv4
  refine pv_e_ifeq (off := 7) (b := 13) (pc' := 9) (by decide +kernel) (by decide +kernel) rfl (fun c6 => ?_) (fun c6 => ?_)
  · rw [if_pos c6] at h
    refine pv_e_bk (ps := [(13, .iconst 0, 1)]) (t' := (0, 0, 14, [some (.int x0)], [.int (0:Int32)], M)) (by decide +kernel) rfl ?_
    obtain rfl := Option.some.inj h
    exact hJ5
  · rw [if_neg c6] at h
    refine pv_e_bk (ps := [(9, .iconst 1, 1), (10, .goto 4, 3)]) (t' := (0, 0, 14, [some (.int x0)], [.int (1:Int32)], M)) (by decide +kernel) rfl ?_
    obtain rfl := Option.some.inj h
    exact hJ5
def f223_worn_b1 (v0 : Int32) (v1 : Int32) (v2 : Int32) (st : Int32) : Option (Int32 ⊕ (Int32 ⊕ Int32)) := match st with
  | v3 =>
    if v1 = (2:Int32) then
      if v2 ≤ v3 then
        some (.inr (.inl v3))
      else
        (f219_letterAt v0 v3).bind fun q10 =>
        (f217_isVowel q10).bind fun q12 =>
        if q12 = 0 then
          some (.inl (v3 + (1:Int32)))
        else
          (f222_without v0 v3).bind fun q15 =>
          some (.inr (.inr q15))
    else
      some (.inr (.inl v3))
def f223_worn_b1_H (xs : Nat → Int32) (L d : Nat) (r : Option Value × pv_M) (M : pv_M) (v0 : Int32) (v1 : Int32) (v2 : Int32) (st : Int32) : Prop := match st with
  | v3 => pv_Ev xs L (d + 1) 223 (0, 0, 24, [some (.int v0), some (.int v1), some (.int v2), some (.int v3)], [], M) r
def f223_worn_b1_X (xs : Nat → Int32) (L d : Nat) (r : Option Value × pv_M) (M : pv_M) (v0 : Int32) (v1 : Int32) (v2 : Int32) (st : Int32) : Prop := match st with
  | v3 => ∀ z3 : Option Value, pv_Ev xs L (d + 1) 223 (0, 0, 57, [some (.int v0), some (.int v1), some (.int v2), z3], [], M) r
def f223_worn (x0 : Int32) (x1 : Int32) : Option (Int32) :=
  (f218_size x0).bind fun q2 =>
  if q2 = 0 then
    some x0
  else
    if x1 = (1:Int32) then
      (f222_without x0 (0:Int32)).bind fun q6 =>
      some q6
    else
      (pv_lp (f223_worn_b1 x0 x1 q2) 20000 (0:Int32)).bind fun o21 => match o21 with
        | .inl w16 =>
          (f222_without x0 (q2 - (1:Int32))).bind fun q18 =>
          some q18
        | .inr q => some q
theorem f223_worn_b1_ok {xs : Nat → Int32} {L d : Nat} {r : Option Value × pv_M} {M : pv_M} {v0 : Int32} {v1 : Int32} {v2 : Int32} (st : Int32) (o : Int32 ⊕ (Int32 ⊕ Int32)) (h : f223_worn_b1 v0 v1 v2 st = some o) (hK : pv_Kp (f223_worn_b1_H xs L d r M v0 v1 v2) (f223_worn_b1_X xs L d r M v0 v1 v2) (fun q => (some (.int q), M) = r) o) : f223_worn_b1_H xs L d r M v0 v1 v2 st := by
  obtain ⟨v3, rfl⟩ : ∃ z, z = st := ⟨st, rfl⟩
  show pv_Ev xs L (d + 1) 223 (0, 0, 24, [some (.int v0), some (.int v1), some (.int v2), some (.int v3)], [], M) r
  unfold f223_worn_b1 at h
  dsimp only at h
  refine pv_e_bk (ps := [(24, .iload_n 1, 1), (25, .iconst 2, 1)]) (t' := (0, 0, 26, [some (.int v0), some (.int v1), some (.int v2), some (.int v3)], [.int (2:Int32), .int v1], M)) (by decide +kernel) rfl ?_
  refine pv_e_icmpne (off := 31) (b := 57) (pc' := 29) (by decide +kernel) (by decide +kernel) rfl (fun c7 => ?_) (fun c7 => ?_)
  · rw [if_pos c7] at h
    refine pv_e_bk (ps := [(29, .iload_n 3, 1), (30, .iload_n 2, 1)]) (t' := (0, 0, 31, [some (.int v0), some (.int v1), some (.int v2), some (.int v3)], [.int v2, .int v3], M)) (by decide +kernel) rfl ?_
    refine pv_e_icmpge (off := 26) (b := 57) (pc' := 34) (by decide +kernel) (by decide +kernel) rfl (fun c8 => ?_) (fun c8 => ?_)
    · rw [if_pos c8] at h
      obtain rfl := Option.some.inj h
      exact hK _
    · rw [if_neg c8] at h
      refine pv_e_bk (ps := [(34, .iload_n 0, 1), (35, .iload_n 3, 1)]) (t' := (0, 0, 36, [some (.int v0), some (.int v1), some (.int v2), some (.int v3)], [.int v3, .int v0], M)) (by decide +kernel) rfl ?_
      obtain ⟨q10, e9, h⟩ := Option.bind_eq_some_iff.mp h
      refine pv_e_csi (d := d + 0) (i := 20) (z := 219) (np := 2) (ml := 2) (As := [.int v0, .int v3]) (rs := []) (pc' := 39) (by decide +kernel) rfl rfl rfl (Nat.le_of_ble_eq_true rfl) (Nat.le_of_ble_eq_true rfl) rfl (ee219 (d + 0) v0 v3 e9) ?_
      obtain ⟨q12, e11, h⟩ := Option.bind_eq_some_iff.mp h
      refine pv_e_csi (d := d + 0) (i := 23) (z := 217) (np := 1) (ml := 1) (As := [.int q10]) (rs := []) (pc' := 42) (by decide +kernel) rfl rfl rfl (Nat.le_of_ble_eq_true rfl) (Nat.le_of_ble_eq_true rfl) rfl (ee217 (d + 0) q10 e11) ?_
      refine pv_e_ifeq (off := 9) (b := 51) (pc' := 45) (by decide +kernel) (by decide +kernel) rfl (fun c13 => ?_) (fun c13 => ?_)
      · rw [if_pos c13] at h
        refine pv_e_bk (ps := [(51, .iinc 3 1, 3), (54, .goto (-30), 3)]) (t' := (0, 0, 24, [some (.int v0), some (.int v1), some (.int v2), some (.int (v3 + (1:Int32)))], [], M)) (by decide +kernel) rfl ?_
        obtain rfl := Option.some.inj h
        exact hK
      · rw [if_neg c13] at h
        refine pv_e_bk (ps := [(45, .iload_n 0, 1), (46, .iload_n 3, 1)]) (t' := (0, 0, 47, [some (.int v0), some (.int v1), some (.int v2), some (.int v3)], [.int v3, .int v0], M)) (by decide +kernel) rfl ?_
        obtain ⟨q15, e14, h⟩ := Option.bind_eq_some_iff.mp h
        refine pv_e_csi (d := d + 0) (i := 16) (z := 222) (np := 2) (ml := 4) (As := [.int v0, .int v3]) (rs := []) (pc' := 50) (by decide +kernel) rfl rfl rfl (Nat.le_of_ble_eq_true rfl) (Nat.le_of_ble_eq_true rfl) rfl (ee222 (d + 0) v0 v3 e14) ?_
        obtain rfl := Option.some.inj h
        cases hK
        exact pv_e_ri (by decide +kernel)
  · rw [if_neg c7] at h
    obtain rfl := Option.some.inj h
    exact hK _
theorem ee223 {xs : Nat → Int32} {L : Nat} (d : Nat) (x0 : Int32) (x1 : Int32) {M : pv_M} {q : Int32}  (h : f223_worn x0 x1 = some q) : pv_Ev xs L (d + 1) 223 (0, 0, 0, [some (.int x0), some (.int x1), none, none], [], M) (some (.int q), M) := by
  generalize hr : ((some (.int q), M) : Option Value × pv_M) = r
  unfold f223_worn at h
  refine pv_e_bk (ps := [(0, .iload_n 0, 1)]) (t' := (0, 0, 1, [some (.int x0), some (.int x1), none, none], [.int x0], M)) (by decide +kernel) rfl ?_
  obtain ⟨q2, e1, h⟩ := Option.bind_eq_some_iff.mp h
  refine pv_e_csi (d := d + 0) (i := 12) (z := 218) (np := 1) (ml := 2) (As := [.int x0]) (rs := []) (pc' := 4) (by decide +kernel) rfl rfl rfl (Nat.le_of_ble_eq_true rfl) (Nat.le_of_ble_eq_true rfl) rfl (ee218 (d + 0) x0 e1) ?_
  refine pv_e_bk (ps := [(4, .istore_n 2, 1), (5, .iload_n 2, 1)]) (t' := (0, 0, 6, [some (.int x0), some (.int x1), some (.int q2), none], [.int q2], M)) (by decide +kernel) rfl ?_
  refine pv_e_ifne (off := 5) (b := 11) (pc' := 9) (by decide +kernel) (by decide +kernel) rfl (fun c3 => ?_) (fun c3 => ?_)
  · rw [if_pos c3] at h
    refine pv_e_bk (ps := [(9, .iload_n 0, 1)]) (t' := (0, 0, 10, [some (.int x0), some (.int x1), some (.int q2), none], [.int x0], M)) (by decide +kernel) rfl ?_
    obtain rfl := Option.some.inj h
    cases hr
    exact pv_e_ri (by decide +kernel)
  · rw [if_neg c3] at h
    refine pv_e_bk (ps := [(11, .iload_n 1, 1), (12, .iconst 1, 1)]) (t' := (0, 0, 13, [some (.int x0), some (.int x1), some (.int q2), none], [.int (1:Int32), .int x1], M)) (by decide +kernel) rfl ?_
    refine pv_e_icmpne (off := 9) (b := 22) (pc' := 16) (by decide +kernel) (by decide +kernel) rfl (fun c4 => ?_) (fun c4 => ?_)
    · rw [if_pos c4] at h
      refine pv_e_bk (ps := [(16, .iload_n 0, 1), (17, .iconst 0, 1)]) (t' := (0, 0, 18, [some (.int x0), some (.int x1), some (.int q2), none], [.int (0:Int32), .int x0], M)) (by decide +kernel) rfl ?_
      obtain ⟨q6, e5, h⟩ := Option.bind_eq_some_iff.mp h
      refine pv_e_csi (d := d + 0) (i := 16) (z := 222) (np := 2) (ml := 4) (As := [.int x0, .int (0:Int32)]) (rs := []) (pc' := 21) (by decide +kernel) rfl rfl rfl (Nat.le_of_ble_eq_true rfl) (Nat.le_of_ble_eq_true rfl) rfl (ee222 (d + 0) x0 (0:Int32) e5) ?_
      obtain rfl := Option.some.inj h
      cases hr
      exact pv_e_ri (by decide +kernel)
    · rw [if_neg c4] at h
      refine pv_e_bk (ps := [(22, .iconst 0, 1), (23, .istore_n 3, 1)]) (t' := (0, 0, 24, [some (.int x0), some (.int x1), some (.int q2), some (.int (0:Int32))], [], M)) (by decide +kernel) rfl ?_
      obtain ⟨o21, e20, h⟩ := Option.bind_eq_some_iff.mp h
      refine pv_lp_ok (H := f223_worn_b1_H xs L d r M x0 x1 q2) (X := f223_worn_b1_X xs L d r M x0 x1 q2) (Z := (fun q => (some (.int q), M) = r)) (f223_worn_b1_ok (xs := xs) (L := L) (d := d) (r := r) (M := M) (v0 := x0) (v1 := x1) (v2 := q2)) 20000 _ _ e20 ?_
      rcases o21 with w16 | q
      · dsimp only at h ⊢
        show ∀ z3 : Option Value, pv_Ev xs L (d + 1) 223 (0, 0, 57, [some (.int x0), some (.int x1), some (.int q2), z3], [], M) r
        intro z3
        refine pv_e_bk (ps := [(57, .iload_n 0, 1), (58, .iload_n 2, 1), (59, .iconst 1, 1), (60, .isub, 1)]) (t' := (0, 0, 61, [some (.int x0), some (.int x1), some (.int q2), z3], [.int (q2 - (1:Int32)), .int x0], M)) (by decide +kernel) rfl ?_
        obtain ⟨q18, e17, h⟩ := Option.bind_eq_some_iff.mp h
        refine pv_e_csi (d := d + 0) (i := 16) (z := 222) (np := 2) (ml := 4) (As := [.int x0, .int (q2 - (1:Int32))]) (rs := []) (pc' := 64) (by decide +kernel) rfl rfl rfl (Nat.le_of_ble_eq_true rfl) (Nat.le_of_ble_eq_true rfl) rfl (ee222 (d + 0) x0 (q2 - (1:Int32)) e17) ?_
        obtain rfl := Option.some.inj h
        cases hr
        exact pv_e_ri (by decide +kernel)
      · dsimp only at h ⊢
        obtain rfl := Option.some.inj h
        exact hr
def f16_wear_b1 (v0 : Nat) (v1 : Int32) (v2 : Int32) (st : Int32 × pv_F) : Option ((Int32 × pv_F) ⊕ (Int32 × pv_F)) := match st with
  | (v3, s) =>
    if (s v0 3) ≤ v3 then
      some (.inr (v3, s))
    else
      ((
        if ((pv_ush v1 v3) &&& (1:Int32)) = 0 then
          some s
        else
          (pv_rd s (v0 + 1) 7 v3).bind fun q6 =>
          ((
            if q6 = (4:Int32) then
              (pv_rd s (v0 + 3) 7 v3).bind fun q30 =>
              if q30 = 0 then
                some (1:Int32)
              else
                some (0:Int32)
            else
              some (0:Int32)) : Option (Int32)).bind fun t8 =>
          ((
            if t8 = 0 then
              some (0:Int32)
            else
              some (1:Int32)) : Option (Int32)).bind fun t9 =>
          (pv_wr s (v0 + 3) 7 v3 t9).bind fun s10 =>
          ((
            if t8 = 0 then
              (pv_rd s10 (v0 + 2) 7 v3).bind fun q18 =>
              (f223_worn q18 v2).bind fun q21 =>
              some q21
            else
              (pv_rd s10 (v0 + 2) 7 v3).bind fun q22 =>
              some q22) : Option (Int32)).bind fun t12 =>
          (pv_wr s10 (v0 + 2) 7 v3 t12).bind fun s13 =>
          some s13) : Option (pv_F)).bind fun s2 =>
      some (.inl (v3 + (1:Int32), s2))
def f16_wear_b1_H (xs : Nat → Int32) (L d : Nat) (r : Option Value × pv_M) (T : pv_T) (v0 : Nat) (v1 : Int32) (v2 : Int32) (st : Int32 × pv_F) : Prop := match st with
  | (v3, s) => ∀ z4 : Option Value, pv_Ev xs L (d + 2) 16 (0, 0, 2, [some (.ref v0), some (.int v1), some (.int v2), some (.int v3), z4], [], pv_mm s T) r
def f16_wear_b1_X (xs : Nat → Int32) (L d : Nat) (r : Option Value × pv_M) (T : pv_T) (v0 : Nat) (v1 : Int32) (v2 : Int32) (st : Int32 × pv_F) : Prop := match st with
  | (v3, s) => ∀ z3 : Option Value, ∀ z4 : Option Value, pv_Ev xs L (d + 2) 16 (0, 0, 96, [some (.ref v0), some (.int v1), some (.int v2), z3, z4], [], pv_mm s T) r
def f16_wear (o : Nat) (x1 : Int32) (x2 : Int32) (s : pv_F) : Option (pv_F) :=
  (pv_lq (f16_wear_b1 o x1 x2) 20000 ((0:Int32), s)).bind fun (w33, s34) =>
  some s34
theorem f16_wear_b1_ok {xs : Nat → Int32} {L d : Nat} {r : Option Value × pv_M} {T : pv_T} {v0 : Nat} {v1 : Int32} {v2 : Int32} (g0 : v0 ∈ pv_folks) (st : Int32 × pv_F) (o : (Int32 × pv_F) ⊕ (Int32 × pv_F)) (h : f16_wear_b1 v0 v1 v2 st = some o) (hK : pv_Kq (f16_wear_b1_H xs L d r T v0 v1 v2) (f16_wear_b1_X xs L d r T v0 v1 v2) o) : f16_wear_b1_H xs L d r T v0 v1 v2 st := by
  obtain ⟨v3, s⟩ := st
  show ∀ z4 : Option Value, pv_Ev xs L (d + 2) 16 (0, 0, 2, [some (.ref v0), some (.int v1), some (.int v2), some (.int v3), z4], [], pv_mm s T) r
  intro z4
  unfold f16_wear_b1 at h
  dsimp only at h
  refine pv_e_bk (ps := [(2, .iload_n 3, 1), (3, .aload_n 0, 1)]) (t' := (0, 0, 4, [some (.ref v0), some (.int v1), some (.int v2), some (.int v3), z4], [.ref v0, .int v3], pv_mm s T)) (by decide +kernel) rfl ?_
  refine pv_e_gc (i := 21) (ci := 1) (j := 3) (pc' := 7) (by decide +kernel) (by have := (fk g0).2.2.2.2; omega) (fk g0).1 rfl rfl ?_
  refine pv_e_icmpge (off := 89) (b := 96) (pc' := 10) (by decide +kernel) (by decide +kernel) rfl (fun c1 => ?_) (fun c1 => ?_)
  · rw [if_pos c1] at h
    obtain rfl := Option.some.inj h
    exact hK _ _
  · rw [if_neg c1] at h
    refine pv_e_bk (ps := [(10, .iload_n 1, 1), (11, .iload_n 3, 1), (12, .iushr, 1), (13, .iconst 1, 1), (14, .iand, 1)]) (t' := (0, 0, 15, [some (.ref v0), some (.int v1), some (.int v2), some (.int v3), z4], [.int ((pv_ush v1 v3) &&& (1:Int32))], pv_mm s T)) (by decide +kernel) rfl ?_
    obtain ⟨s2, hv3, h⟩ := Option.bind_eq_some_iff.mp h
    have hJ4 : ∀ z4 : Option Value, pv_Ev xs L (d + 2) 16 (0, 0, 90, [some (.ref v0), some (.int v1), some (.int v2), some (.int v3), z4], [], pv_mm s2 T) r := by
      intro z4
      refine pv_e_bk (ps := [(90, .iinc 3 1, 3), (93, .goto (-91), 3)]) (t' := (0, 0, 2, [some (.ref v0), some (.int v1), some (.int v2), some (.int (v3 + (1:Int32))), z4], [], pv_mm s2 T)) (by decide +kernel) rfl ?_
      obtain rfl := Option.some.inj h
      exact hK _
    clear h
    have h := hv3
    clear hv3
    refine pv_e_ifeq (off := 75) (b := 90) (pc' := 18) (by decide +kernel) (by decide +kernel) rfl (fun c5 => ?_) (fun c5 => ?_)
    · rw [if_pos c5] at h
      obtain rfl := Option.some.inj h
      exact hJ4 _
    · rw [if_neg c5] at h
      refine pv_e_bk (ps := [(18, .aload_n 0, 1)]) (t' := (0, 0, 19, [some (.ref v0), some (.int v1), some (.int v2), some (.int v3), z4], [.ref v0], pv_mm s T)) (by decide +kernel) rfl ?_
      refine pv_e_gr (i := 9) (ci := 1) (j := 0) (b := v0 + 1) (pc' := 22) (by decide +kernel) (fk g0).1 rfl rfl ?_
      refine pv_e_bk (ps := [(22, .iload_n 3, 1)]) (t' := (0, 0, 23, [some (.ref v0), some (.int v1), some (.int v2), some (.int v3), z4], [.int v3, .ref (v0 + 1)], pv_mm s T)) (by decide +kernel) rfl ?_
      obtain ⟨q6, e7, h⟩ := Option.bind_eq_some_iff.mp h
      refine pv_e_rc (pc' := 24) (by decide +kernel) (by have := (fk g0).2.2.2.2; omega) (fk g0).2.1 e7 rfl ?_
      refine pv_e_bk (ps := [(24, .iconst 4, 1)]) (t' := (0, 0, 25, [some (.ref v0), some (.int v1), some (.int v2), some (.int v3), z4], [.int (4:Int32), .int q6], pv_mm s T)) (by decide +kernel) rfl ?_
      obtain ⟨t8, hv27, h⟩ := Option.bind_eq_some_iff.mp h
      have hJ28 : pv_Ev xs L (d + 2) 16 (0, 0, 42, [some (.ref v0), some (.int v1), some (.int v2), some (.int v3), z4], [.int t8], pv_mm s T) r := by
        refine pv_e_bk (ps := [(42, .istore 4, 2), (44, .aload_n 0, 1)]) (t' := (0, 0, 45, [some (.ref v0), some (.int v1), some (.int v2), some (.int v3), some (.int t8)], [.ref v0], pv_mm s T)) (by decide +kernel) rfl ?_
        refine pv_e_gr (i := 18) (ci := 1) (j := 2) (b := v0 + 3) (pc' := 48) (by decide +kernel) (fk g0).1 rfl rfl ?_
        refine pv_e_bk (ps := [(48, .iload_n 3, 1), (49, .iload 4, 2)]) (t' := (0, 0, 51, [some (.ref v0), some (.int v1), some (.int v2), some (.int v3), some (.int t8)], [.int t8, .int v3, .ref (v0 + 3)], pv_mm s T)) (by decide +kernel) rfl ?_
        obtain ⟨t9, hv24, h⟩ := Option.bind_eq_some_iff.mp h
        have hJ25 : pv_Ev xs L (d + 2) 16 (0, 0, 59, [some (.ref v0), some (.int v1), some (.int v2), some (.int v3), some (.int t8)], [.int t9, .int v3, .ref (v0 + 3)], pv_mm s T) r := by
          obtain ⟨s10, e11, h⟩ := Option.bind_eq_some_iff.mp h
          refine pv_e_wc (pc' := 60) (by decide +kernel) (by have := (fk g0).2.2.2.2; omega) (fk g0).2.2.2.1 e11 rfl ?_
          refine pv_e_bk (ps := [(60, .aload_n 0, 1)]) (t' := (0, 0, 61, [some (.ref v0), some (.int v1), some (.int v2), some (.int v3), some (.int t8)], [.ref v0], pv_mm s10 T)) (by decide +kernel) rfl ?_
          refine pv_e_gr (i := 15) (ci := 1) (j := 1) (b := v0 + 2) (pc' := 64) (by decide +kernel) (fk g0).1 rfl rfl ?_
          refine pv_e_bk (ps := [(64, .iload_n 3, 1), (65, .iload 4, 2)]) (t' := (0, 0, 67, [some (.ref v0), some (.int v1), some (.int v2), some (.int v3), some (.int t8)], [.int t8, .int v3, .ref (v0 + 2)], pv_mm s10 T)) (by decide +kernel) rfl ?_
          obtain ⟨t12, hv15, h⟩ := Option.bind_eq_some_iff.mp h
          have hJ16 : pv_Ev xs L (d + 2) 16 (0, 0, 89, [some (.ref v0), some (.int v1), some (.int v2), some (.int v3), some (.int t8)], [.int t12, .int v3, .ref (v0 + 2)], pv_mm s10 T) r := by
            obtain ⟨s13, e14, h⟩ := Option.bind_eq_some_iff.mp h
            refine pv_e_wc (pc' := 90) (by decide +kernel) (by have := (fk g0).2.2.2.2; omega) (fk g0).2.2.1 e14 rfl ?_
            obtain rfl := Option.some.inj h
            exact hJ4 _
          clear h
          have h := hv15
          clear hv15
          refine pv_e_ifeq (off := 12) (b := 79) (pc' := 70) (by decide +kernel) (by decide +kernel) rfl (fun c17 => ?_) (fun c17 => ?_)
          · rw [if_pos c17] at h
            refine pv_e_bk (ps := [(79, .aload_n 0, 1)]) (t' := (0, 0, 80, [some (.ref v0), some (.int v1), some (.int v2), some (.int v3), some (.int t8)], [.ref v0, .int v3, .ref (v0 + 2)], pv_mm s10 T)) (by decide +kernel) rfl ?_
            refine pv_e_gr (i := 15) (ci := 1) (j := 1) (b := v0 + 2) (pc' := 83) (by decide +kernel) (fk g0).1 rfl rfl ?_
            refine pv_e_bk (ps := [(83, .iload_n 3, 1)]) (t' := (0, 0, 84, [some (.ref v0), some (.int v1), some (.int v2), some (.int v3), some (.int t8)], [.int v3, .ref (v0 + 2), .int v3, .ref (v0 + 2)], pv_mm s10 T)) (by decide +kernel) rfl ?_
            obtain ⟨q18, e19, h⟩ := Option.bind_eq_some_iff.mp h
            refine pv_e_rc (pc' := 85) (by decide +kernel) (by have := (fk g0).2.2.2.2; omega) (fk g0).2.2.1 e19 rfl ?_
            refine pv_e_bk (ps := [(85, .iload_n 2, 1)]) (t' := (0, 0, 86, [some (.ref v0), some (.int v1), some (.int v2), some (.int v3), some (.int t8)], [.int v2, .int q18, .int v3, .ref (v0 + 2)], pv_mm s10 T)) (by decide +kernel) rfl ?_
            obtain ⟨q21, e20, h⟩ := Option.bind_eq_some_iff.mp h
            refine pv_e_csi (d := d + 1) (i := 76) (z := 223) (np := 2) (ml := 4) (As := [.int q18, .int v2]) (rs := [.int v3, .ref (v0 + 2)]) (pc' := 89) (by decide +kernel) rfl rfl rfl (Nat.le_of_ble_eq_true rfl) (Nat.le_of_ble_eq_true rfl) rfl (ee223 (d + 0) q18 v2 e20) ?_
            obtain rfl := Option.some.inj h
            exact hJ16
          · rw [if_neg c17] at h
            refine pv_e_bk (ps := [(70, .aload_n 0, 1)]) (t' := (0, 0, 71, [some (.ref v0), some (.int v1), some (.int v2), some (.int v3), some (.int t8)], [.ref v0, .int v3, .ref (v0 + 2)], pv_mm s10 T)) (by decide +kernel) rfl ?_
            refine pv_e_gr (i := 15) (ci := 1) (j := 1) (b := v0 + 2) (pc' := 74) (by decide +kernel) (fk g0).1 rfl rfl ?_
            refine pv_e_bk (ps := [(74, .iload_n 3, 1)]) (t' := (0, 0, 75, [some (.ref v0), some (.int v1), some (.int v2), some (.int v3), some (.int t8)], [.int v3, .ref (v0 + 2), .int v3, .ref (v0 + 2)], pv_mm s10 T)) (by decide +kernel) rfl ?_
            obtain ⟨q22, e23, h⟩ := Option.bind_eq_some_iff.mp h
            refine pv_e_rc (pc' := 76) (by decide +kernel) (by have := (fk g0).2.2.2.2; omega) (fk g0).2.2.1 e23 rfl ?_
            refine pv_e_bk (ps := [(76, .goto 13, 3)]) (t' := (0, 0, 89, [some (.ref v0), some (.int v1), some (.int v2), some (.int v3), some (.int t8)], [.int q22, .int v3, .ref (v0 + 2)], pv_mm s10 T)) (by decide +kernel) rfl ?_
            obtain rfl := Option.some.inj h
            exact hJ16
        clear h
        have h := hv24
        clear hv24
        refine pv_e_ifeq (off := 7) (b := 58) (pc' := 54) (by decide +kernel) (by decide +kernel) rfl (fun c26 => ?_) (fun c26 => ?_)
        · rw [if_pos c26] at h
          refine pv_e_bk (ps := [(58, .iconst 0, 1)]) (t' := (0, 0, 59, [some (.ref v0), some (.int v1), some (.int v2), some (.int v3), some (.int t8)], [.int (0:Int32), .int v3, .ref (v0 + 3)], pv_mm s T)) (by decide +kernel) rfl ?_
          obtain rfl := Option.some.inj h
          exact hJ25
        · rw [if_neg c26] at h
          refine pv_e_bk (ps := [(54, .iconst 1, 1), (55, .goto 4, 3)]) (t' := (0, 0, 59, [some (.ref v0), some (.int v1), some (.int v2), some (.int v3), some (.int t8)], [.int (1:Int32), .int v3, .ref (v0 + 3)], pv_mm s T)) (by decide +kernel) rfl ?_
          obtain rfl := Option.some.inj h
          exact hJ25
      clear h
      have h := hv27
      clear hv27
      refine pv_e_icmpne (off := 16) (b := 41) (pc' := 28) (by decide +kernel) (by decide +kernel) rfl (fun c29 => ?_) (fun c29 => ?_)
      · rw [if_pos c29] at h
        refine pv_e_bk (ps := [(28, .aload_n 0, 1)]) (t' := (0, 0, 29, [some (.ref v0), some (.int v1), some (.int v2), some (.int v3), z4], [.ref v0], pv_mm s T)) (by decide +kernel) rfl ?_
        refine pv_e_gr (i := 18) (ci := 1) (j := 2) (b := v0 + 3) (pc' := 32) (by decide +kernel) (fk g0).1 rfl rfl ?_
        refine pv_e_bk (ps := [(32, .iload_n 3, 1)]) (t' := (0, 0, 33, [some (.ref v0), some (.int v1), some (.int v2), some (.int v3), z4], [.int v3, .ref (v0 + 3)], pv_mm s T)) (by decide +kernel) rfl ?_
        obtain ⟨q30, e31, h⟩ := Option.bind_eq_some_iff.mp h
        refine pv_e_rc (pc' := 34) (by decide +kernel) (by have := (fk g0).2.2.2.2; omega) (fk g0).2.2.2.1 e31 rfl ?_
        refine pv_e_ifne (off := 7) (b := 41) (pc' := 37) (by decide +kernel) (by decide +kernel) rfl (fun c32 => ?_) (fun c32 => ?_)
        · rw [if_pos c32] at h
          refine pv_e_bk (ps := [(37, .iconst 1, 1), (38, .goto 4, 3)]) (t' := (0, 0, 42, [some (.ref v0), some (.int v1), some (.int v2), some (.int v3), z4], [.int (1:Int32)], pv_mm s T)) (by decide +kernel) rfl ?_
          obtain rfl := Option.some.inj h
          exact hJ28
        · rw [if_neg c32] at h
          refine pv_e_bk (ps := [(41, .iconst 0, 1)]) (t' := (0, 0, 42, [some (.ref v0), some (.int v1), some (.int v2), some (.int v3), z4], [.int (0:Int32)], pv_mm s T)) (by decide +kernel) rfl ?_
          obtain rfl := Option.some.inj h
          exact hJ28
      · rw [if_neg c29] at h
        refine pv_e_bk (ps := [(41, .iconst 0, 1)]) (t' := (0, 0, 42, [some (.ref v0), some (.int v1), some (.int v2), some (.int v3), z4], [.int (0:Int32)], pv_mm s T)) (by decide +kernel) rfl ?_
        obtain rfl := Option.some.inj h
        exact hJ28
theorem ee16 {xs : Nat → Int32} {L : Nat} (d : Nat) (o : Nat) (x1 : Int32) (x2 : Int32) {s : pv_F} {T : pv_T} {q : pv_F} (g0 : o ∈ pv_folks) (h : f16_wear o x1 x2 s = some q) : pv_Ev xs L (d + 2) 16 (0, 0, 0, [some (.ref o), some (.int x1), some (.int x2), none, none], [], pv_mm s T) (none, pv_mm q T) := by
  generalize hr : ((none, pv_mm q T) : Option Value × pv_M) = r
  unfold f16_wear at h
  refine pv_e_bk (ps := [(0, .iconst 0, 1), (1, .istore_n 3, 1)]) (t' := (0, 0, 2, [some (.ref o), some (.int x1), some (.int x2), some (.int (0:Int32)), none], [], pv_mm s T)) (by decide +kernel) rfl ?_
  obtain ⟨⟨w33, s34⟩, e36, h⟩ := Option.bind_eq_some_iff.mp h
  dsimp only at h
  have hx35 : f16_wear_b1_X xs L d r T o x1 x2 (w33, s34) := by
    show ∀ z3 : Option Value, ∀ z4 : Option Value, pv_Ev xs L (d + 2) 16 (0, 0, 96, [some (.ref o), some (.int x1), some (.int x2), z3, z4], [], pv_mm s34 T) r
    intro z3 z4
    obtain rfl := Option.some.inj h
    cases hr
    exact pv_e_rv (by decide +kernel)
  exact pv_lq_ok (H := f16_wear_b1_H xs L d r T o x1 x2) (X := f16_wear_b1_X xs L d r T o x1 x2) (f16_wear_b1_ok (xs := xs) (L := L) (d := d) (r := r) (T := T) (v0 := o) (v1 := x1) (v2 := x2) g0) 20000 _ _ e36 hx35 _
def f15_wearBy (o : Nat) (x1 : Int32) (x2 : Int32) (x3 : Int32) (s : pv_F) : Option (pv_F) :=
  (f8_is o x1 (1:Int32) s).bind fun q2 =>
  ((
    if q2 = 0 then
      (f16_wear o x2 x3 s).bind fun s8 =>
      some s8
    else
      some s) : Option (pv_F)).bind fun s3 =>
  some s3
theorem ee15 {xs : Nat → Int32} {L : Nat} (d : Nat) (o : Nat) (x1 : Int32) (x2 : Int32) (x3 : Int32) {s : pv_F} {T : pv_T} {q : pv_F} (g0 : o ∈ pv_folks) (h : f15_wearBy o x1 x2 x3 s = some q) : pv_Ev xs L (d + 3) 15 (0, 0, 0, [some (.ref o), some (.int x1), some (.int x2), some (.int x3)], [], pv_mm s T) (none, pv_mm q T) := by
  generalize hr : ((none, pv_mm q T) : Option Value × pv_M) = r
  unfold f15_wearBy at h
  refine pv_e_bk (ps := [(0, .aload_n 0, 1), (1, .iload_n 1, 1), (2, .iconst 1, 1)]) (t' := (0, 0, 3, [some (.ref o), some (.int x1), some (.int x2), some (.int x3)], [.int (1:Int32), .int x1, .ref o], pv_mm s T)) (by decide +kernel) rfl ?_
  obtain ⟨q2, e1, h⟩ := Option.bind_eq_some_iff.mp h
  refine pv_e_cvi (d := d + 2) (i := 69) (z := 8) (np := 2) (ml := 3) (ci := 1) (As := [.int x1, .int (1:Int32)]) (rs := []) (pc' := 6) (by decide +kernel) (fk g0).1 rfl rfl rfl (Nat.le_of_ble_eq_true rfl) (Nat.le_of_ble_eq_true rfl) rfl (ee8 (d + 2) o x1 (1:Int32) g0 e1) ?_
  obtain ⟨s3, hv4, h⟩ := Option.bind_eq_some_iff.mp h
  have hJ5 : pv_Ev xs L (d + 3) 15 (0, 0, 15, [some (.ref o), some (.int x1), some (.int x2), some (.int x3)], [], pv_mm s3 T) r := by
    obtain rfl := Option.some.inj h
    cases hr
    exact pv_e_rv (by decide +kernel)
  clear h
  have h := hv4
  clear hv4
  refine pv_e_ifne (off := 9) (b := 15) (pc' := 9) (by decide +kernel) (by decide +kernel) rfl (fun c6 => ?_) (fun c6 => ?_)
  · rw [if_pos c6] at h
    refine pv_e_bk (ps := [(9, .aload_n 0, 1), (10, .iload_n 2, 1), (11, .iload_n 3, 1)]) (t' := (0, 0, 12, [some (.ref o), some (.int x1), some (.int x2), some (.int x3)], [.int x3, .int x2, .ref o], pv_mm s T)) (by decide +kernel) rfl ?_
    obtain ⟨s8, e7, h⟩ := Option.bind_eq_some_iff.mp h
    refine pv_e_cvv (d := d + 2) (i := 72) (z := 16) (np := 2) (ml := 5) (ci := 1) (As := [.int x2, .int x3]) (rs := []) (pc' := 15) (by decide +kernel) (fk g0).1 rfl rfl rfl (Nat.le_of_ble_eq_true rfl) (Nat.le_of_ble_eq_true rfl) rfl (ee16 (d + 0) o x2 x3 g0 e7) ?_
    obtain rfl := Option.some.inj h
    exact hJ5
  · rw [if_neg c6] at h
    obtain rfl := Option.some.inj h
    exact hJ5
