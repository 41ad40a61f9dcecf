-- printed by wip/whole/gen/parts.py: methods as functions over the ints of the memory, and that the pure machine runs so
def f91_days_b1 (v1 : Int32) (st : Int32 × Int64 × Int32 × pv_F) : Option ((Int32 × Int64 × Int32 × pv_F) ⊕ (Int32 × Int64 × Int32 × pv_F)) := match st with
  | (v3, v4, v6, s) =>
    if v1 ≤ v6 then
      some (.inr (v3, v4, v6, s))
    else
      (pv_lrm ((48271:Int64) * v4) (2147483647:Int64)).bind fun q10 =>
      (pv_lrm q10 ((s 8 3).toInt64)).bind fun q12 =>
      (pv_ldv q10 (64:Int64)).bind fun q14 =>
      (pv_lrm q14 ((s 8 3).toInt64)).bind fun q16 =>
      (f10_canCall 8 q12.toInt32 q16.toInt32 s).bind fun q19 =>
      ((
        if q19 = 0 then
          some (v3, s)
        else
          (f45_callOut q12.toInt32 q16.toInt32 (s 0 6) s).bind fun (q26, s27) =>
          some (v3 + (1:Int32), s27)) : Option (Int32 × pv_F)).bind fun (v20, s21) =>
      some (.inl (v20, q10, v6 + (1:Int32), s21))
def f91_days_b1_H (xs : Nat → Int32) (L d : Nat) (r : Option Value × pv_M) (T : pv_T) (v1 : Int32) (v2 : Int32) (st : Int32 × Int64 × Int32 × pv_F) : Prop := match st with
  | (v3, v4, v6, s) => ∀ z7 : Option Value, ∀ z8 : Option Value, pv_Ev xs L (d + 6) 91 (0, 0, 70, [some (.ref 0), some (.int v1), some (.int v2), some (.int v3), some (.long v4), none, some (.int v6), z7, z8], [], pv_mm s T) r
def f91_days_b1_X (xs : Nat → Int32) (L d : Nat) (r : Option Value × pv_M) (T : pv_T) (v1 : Int32) (v2 : Int32) (st : Int32 × Int64 × Int32 × pv_F) : Prop := match st with
  | (v3, v4, v6, s) => ∀ z4 : Option Value, ∀ z5 : Option Value, ∀ z6 : Option Value, ∀ z7 : Option Value, ∀ z8 : Option Value, pv_Ev xs L (d + 6) 91 (0, 0, 168, [some (.ref 0), some (.int v1), some (.int v2), some (.int v3), z4, z5, z6, z7, z8], [], pv_mm s T) r
def f91_days (x1 : Int32) (x2 : Int32) (s : pv_F) : Option (Int32 × pv_F) :=
  if x1 < (1:Int32) then
    some ((-1:Int32), s)
  else
    if (60:Int32) < x1 then
      some ((-1:Int32), s)
    else
      if x2 < (1:Int32) then
        some ((-1:Int32), s)
      else
        if (lg_cmp x2.toInt64 (2147483647:Int64)) < 0 then
          if (2:Int32) ≤ (s 8 3) then
            (f1_hasRoomFor 15 x1 s).bind fun q7 =>
            if q7 = 0 then
              some ((-2:Int32), s)
            else
              (pv_lq (f91_days_b1 x1) 20000 ((0:Int32), x2.toInt64, (0:Int32), s)).bind fun (w28, w29, w30, s31) =>
              some (w28, s31)
          else
            some ((-4:Int32), s)
        else
          some ((-1:Int32), s)
theorem f91_days_b1_ok {xs : Nat → Int32} {L d : Nat} {r : Option Value × pv_M} {T : pv_T} {v1 : Int32} {v2 : Int32} (st : Int32 × Int64 × Int32 × pv_F) (o : (Int32 × Int64 × Int32 × pv_F) ⊕ (Int32 × Int64 × Int32 × pv_F)) (h : f91_days_b1 v1 st = some o) (hK : pv_Kq (f91_days_b1_H xs L d r T v1 v2) (f91_days_b1_X xs L d r T v1 v2) o) : f91_days_b1_H xs L d r T v1 v2 st := by
  obtain ⟨v3, v4, v6, s⟩ := st
  show ∀ z7 : Option Value, ∀ z8 : Option Value, pv_Ev xs L (d + 6) 91 (0, 0, 70, [some (.ref 0), some (.int v1), some (.int v2), some (.int v3), some (.long v4), none, some (.int v6), z7, z8], [], pv_mm s T) r
  intro z7 z8
  unfold f91_days_b1 at h
  dsimp only at h
  refine pv_e_bk (ps := [(70, .iload 6, 2), (72, .iload_n 1, 1)]) (t' := (0, 0, 73, [some (.ref 0), some (.int v1), some (.int v2), some (.int v3), some (.long v4), none, some (.int v6), z7, z8], [.int v1, .int v6], pv_mm s T)) (by decide +kernel) rfl ?_
  refine pv_e_icmpge (off := 95) (b := 168) (pc' := 76) (by decide +kernel) (by decide +kernel) rfl (fun c9 => ?_) (fun c9 => ?_)
  · rw [if_pos c9] at h
    obtain rfl := Option.some.inj h
    exact hK _ _ _ _ _
  · rw [if_neg c9] at h
    refine pv_e_bk (ps := [(76, .ldc2_w 290, 3), (79, .lload 4, 2), (81, .lmul, 1), (82, .ldc2_w 288, 3)]) (t' := (0, 0, 85, [some (.ref 0), some (.int v1), some (.int v2), some (.int v3), some (.long v4), none, some (.int v6), z7, z8], [.long (2147483647:Int64), .long ((48271:Int64) * v4)], pv_mm s T)) (by decide +kernel) rfl ?_
    obtain ⟨q10, e11, h⟩ := Option.bind_eq_some_iff.mp h
    refine pv_e_lrm (pc' := 86) (by decide +kernel) e11 rfl ?_
    refine pv_e_bk (ps := [(86, .lstore 4, 2), (88, .lload 4, 2), (90, .aload_n 0, 1)]) (t' := (0, 0, 91, [some (.ref 0), some (.int v1), some (.int v2), some (.int v3), some (.long q10), none, some (.int v6), z7, z8], [.ref 0, .long q10], pv_mm s T)) (by decide +kernel) rfl ?_
    refine pv_e_gr (i := 21) (ci := 5) (j := 2) (b := 3) (pc' := 94) (by decide +kernel) rfl rfl rfl ?_
    refine pv_e_gr (i := 109) (ci := 4) (j := 1) (b := 8) (pc' := 97) (by decide +kernel) rfl rfl rfl ?_
    refine pv_e_gc (i := 112) (ci := 1) (j := 3) (pc' := 100) (by decide +kernel) (by decide) rfl rfl rfl ?_
    refine pv_e_bk (ps := [(100, .i2l, 1)]) (t' := (0, 0, 101, [some (.ref 0), some (.int v1), some (.int v2), some (.int v3), some (.long q10), none, some (.int v6), z7, z8], [.long ((s 8 3).toInt64), .long q10], pv_mm s T)) (by decide +kernel) rfl ?_
    obtain ⟨q12, e13, h⟩ := Option.bind_eq_some_iff.mp h
    refine pv_e_lrm (pc' := 102) (by decide +kernel) e13 rfl ?_
    refine pv_e_bk (ps := [(102, .l2i, 1), (103, .istore 7, 2), (105, .lload 4, 2), (107, .ldc2_w 292, 3)]) (t' := (0, 0, 110, [some (.ref 0), some (.int v1), some (.int v2), some (.int v3), some (.long q10), none, some (.int v6), some (.int q12.toInt32), z8], [.long (64:Int64), .long q10], pv_mm s T)) (by decide +kernel) rfl ?_
    obtain ⟨q14, e15, h⟩ := Option.bind_eq_some_iff.mp h
    refine pv_e_ldv (pc' := 111) (by decide +kernel) e15 rfl ?_
    refine pv_e_bk (ps := [(111, .aload_n 0, 1)]) (t' := (0, 0, 112, [some (.ref 0), some (.int v1), some (.int v2), some (.int v3), some (.long q10), none, some (.int v6), some (.int q12.toInt32), z8], [.ref 0, .long q14], pv_mm s T)) (by decide +kernel) rfl ?_
    refine pv_e_gr (i := 21) (ci := 5) (j := 2) (b := 3) (pc' := 115) (by decide +kernel) rfl rfl rfl ?_
    refine pv_e_gr (i := 109) (ci := 4) (j := 1) (b := 8) (pc' := 118) (by decide +kernel) rfl rfl rfl ?_
    refine pv_e_gc (i := 112) (ci := 1) (j := 3) (pc' := 121) (by decide +kernel) (by decide) rfl rfl rfl ?_
    refine pv_e_bk (ps := [(121, .i2l, 1)]) (t' := (0, 0, 122, [some (.ref 0), some (.int v1), some (.int v2), some (.int v3), some (.long q10), none, some (.int v6), some (.int q12.toInt32), z8], [.long ((s 8 3).toInt64), .long q14], pv_mm s T)) (by decide +kernel) rfl ?_
    obtain ⟨q16, e17, h⟩ := Option.bind_eq_some_iff.mp h
    refine pv_e_lrm (pc' := 123) (by decide +kernel) e17 rfl ?_
    refine pv_e_bk (ps := [(123, .l2i, 1), (124, .istore 8, 2), (126, .aload_n 0, 1)]) (t' := (0, 0, 127, [some (.ref 0), some (.int v1), some (.int v2), some (.int v3), some (.long q10), none, some (.int v6), some (.int q12.toInt32), some (.int q16.toInt32)], [.ref 0], pv_mm s T)) (by decide +kernel) rfl ?_
    refine pv_e_gr (i := 21) (ci := 5) (j := 2) (b := 3) (pc' := 130) (by decide +kernel) rfl rfl rfl ?_
    refine pv_e_gr (i := 109) (ci := 4) (j := 1) (b := 8) (pc' := 133) (by decide +kernel) rfl rfl rfl ?_
    refine pv_e_bk (ps := [(133, .iload 7, 2), (135, .iload 8, 2)]) (t' := (0, 0, 137, [some (.ref 0), some (.int v1), some (.int v2), some (.int v3), some (.long q10), none, some (.int v6), some (.int q12.toInt32), some (.int q16.toInt32)], [.int q16.toInt32, .int q12.toInt32, .ref 8], pv_mm s T)) (by decide +kernel) rfl ?_
    obtain ⟨q19, e18, h⟩ := Option.bind_eq_some_iff.mp h
    refine pv_e_cvi (d := d + 5) (i := 153) (z := 10) (np := 2) (ml := 3) (ci := 1) (As := [.int q12.toInt32, .int q16.toInt32]) (rs := []) (pc' := 140) (by decide +kernel) rfl rfl rfl rfl (Nat.le_of_ble_eq_true rfl) (Nat.le_of_ble_eq_true rfl) rfl (ee10 (d + 4) 8 q12.toInt32 q16.toInt32 (by decide) e18) ?_
    obtain ⟨⟨v20, s21⟩, hv22, h⟩ := Option.bind_eq_some_iff.mp h
    dsimp only at h
    have hJ23 : pv_Ev xs L (d + 6) 91 (0, 0, 162, [some (.ref 0), some (.int v1), some (.int v2), some (.int v20), some (.long q10), none, some (.int v6), some (.int q12.toInt32), some (.int q16.toInt32)], [], pv_mm s21 T) r := by
      refine pv_e_bk (ps := [(162, .iinc 6 1, 3), (165, .goto (-95), 3)]) (t' := (0, 0, 70, [some (.ref 0), some (.int v1), some (.int v2), some (.int v20), some (.long q10), none, some (.int (v6 + (1:Int32))), some (.int q12.toInt32), some (.int q16.toInt32)], [], pv_mm s21 T)) (by decide +kernel) rfl ?_
      obtain rfl := Option.some.inj h
      exact hK _ _
    clear h
    have h := hv22
    clear hv22
    refine pv_e_ifeq (off := 22) (b := 162) (pc' := 143) (by decide +kernel) (by decide +kernel) rfl (fun c24 => ?_) (fun c24 => ?_)
    · rw [if_pos c24] at h
      cases h
      exact hJ23
    · rw [if_neg c24] at h
      refine pv_e_bk (ps := [(143, .aload_n 0, 1)]) (t' := (0, 0, 144, [some (.ref 0), some (.int v1), some (.int v2), some (.int v3), some (.long q10), none, some (.int v6), some (.int q12.toInt32), some (.int q16.toInt32)], [.ref 0], pv_mm s T)) (by decide +kernel) rfl ?_
      refine pv_e_gr (i := 21) (ci := 5) (j := 2) (b := 3) (pc' := 147) (by decide +kernel) rfl rfl rfl ?_
      refine pv_e_bk (ps := [(147, .iload 7, 2), (149, .iload 8, 2), (151, .aload_n 0, 1)]) (t' := (0, 0, 152, [some (.ref 0), some (.int v1), some (.int v2), some (.int v3), some (.long q10), none, some (.int v6), some (.int q12.toInt32), some (.int q16.toInt32)], [.ref 0, .int q16.toInt32, .int q12.toInt32, .ref 3], pv_mm s T)) (by decide +kernel) rfl ?_
      refine pv_e_gc (i := 43) (ci := 5) (j := 6) (pc' := 155) (by decide +kernel) (by decide) rfl rfl rfl ?_
      obtain ⟨⟨q26, s27⟩, e25, h⟩ := Option.bind_eq_some_iff.mp h
      dsimp only at h
      refine pv_e_cvi (d := d + 5) (i := 165) (z := 45) (np := 3) (ml := 4) (ci := 4) (As := [.int q12.toInt32, .int q16.toInt32, .int (s 0 6)]) (rs := []) (pc' := 158) (by decide +kernel) rfl rfl rfl rfl (Nat.le_of_ble_eq_true rfl) (Nat.le_of_ble_eq_true rfl) rfl (ee45 (d + 0) q12.toInt32 q16.toInt32 (s 0 6) e25) ?_
      refine pv_e_bk (ps := [(158, .pop, 1), (159, .iinc 3 1, 3)]) (t' := (0, 0, 162, [some (.ref 0), some (.int v1), some (.int v2), some (.int (v3 + (1:Int32))), some (.long q10), none, some (.int v6), some (.int q12.toInt32), some (.int q16.toInt32)], [], pv_mm s27 T)) (by decide +kernel) rfl ?_
      cases h
      exact hJ23
theorem ee91 {xs : Nat → Int32} {L : Nat} (d : Nat) (x1 : Int32) (x2 : Int32) {s : pv_F} {T : pv_T} {q : Int32 × pv_F}  (h : f91_days x1 x2 s = some q) : pv_Ev xs L (d + 6) 91 (0, 0, 0, [some (.ref 0), some (.int x1), some (.int x2), none, none, none, none, none, none], [], pv_mm s T) (some (.int q.1), pv_mm q.2 T) := by
  generalize hr : ((some (.int q.1), pv_mm q.2 T) : Option Value × pv_M) = r
  unfold f91_days at h
  refine pv_e_bk (ps := [(0, .iload_n 1, 1), (1, .iconst 1, 1)]) (t' := (0, 0, 2, [some (.ref 0), some (.int x1), some (.int x2), none, none, none, none, none, none], [.int (1:Int32), .int x1], pv_mm s T)) (by decide +kernel) rfl ?_
  refine pv_e_icmplt (off := 23) (b := 25) (pc' := 5) (by decide +kernel) (by decide +kernel) rfl (fun c1 => ?_) (fun c1 => ?_)
  · rw [if_pos c1] at h
    refine pv_e_bk (ps := [(25, .iconst (-1), 1)]) (t' := (0, 0, 26, [some (.ref 0), some (.int x1), some (.int x2), none, none, none, none, none, none], [.int (-1:Int32)], pv_mm s T)) (by decide +kernel) rfl ?_
    obtain rfl := Option.some.inj h
    cases hr
    exact pv_e_ri (by decide +kernel)
  · rw [if_neg c1] at h
    refine pv_e_bk (ps := [(5, .iload_n 1, 1), (6, .bipush 60, 2)]) (t' := (0, 0, 8, [some (.ref 0), some (.int x1), some (.int x2), none, none, none, none, none, none], [.int (60:Int32), .int x1], pv_mm s T)) (by decide +kernel) rfl ?_
    refine pv_e_icmpgt (off := 17) (b := 25) (pc' := 11) (by decide +kernel) (by decide +kernel) rfl (fun c2 => ?_) (fun c2 => ?_)
    · rw [if_pos c2] at h
      refine pv_e_bk (ps := [(25, .iconst (-1), 1)]) (t' := (0, 0, 26, [some (.ref 0), some (.int x1), some (.int x2), none, none, none, none, none, none], [.int (-1:Int32)], pv_mm s T)) (by decide +kernel) rfl ?_
      obtain rfl := Option.some.inj h
      cases hr
      exact pv_e_ri (by decide +kernel)
    · rw [if_neg c2] at h
      refine pv_e_bk (ps := [(11, .iload_n 2, 1), (12, .iconst 1, 1)]) (t' := (0, 0, 13, [some (.ref 0), some (.int x1), some (.int x2), none, none, none, none, none, none], [.int (1:Int32), .int x2], pv_mm s T)) (by decide +kernel) rfl ?_
      refine pv_e_icmplt (off := 12) (b := 25) (pc' := 16) (by decide +kernel) (by decide +kernel) rfl (fun c3 => ?_) (fun c3 => ?_)
      · rw [if_pos c3] at h
        refine pv_e_bk (ps := [(25, .iconst (-1), 1)]) (t' := (0, 0, 26, [some (.ref 0), some (.int x1), some (.int x2), none, none, none, none, none, none], [.int (-1:Int32)], pv_mm s T)) (by decide +kernel) rfl ?_
        obtain rfl := Option.some.inj h
        cases hr
        exact pv_e_ri (by decide +kernel)
      · rw [if_neg c3] at h
        refine pv_e_bk (ps := [(16, .iload_n 2, 1), (17, .i2l, 1), (18, .ldc2_w 288, 3), (21, .lcmp, 1)]) (t' := (0, 0, 22, [some (.ref 0), some (.int x1), some (.int x2), none, none, none, none, none, none], [.int (lg_cmp x2.toInt64 (2147483647:Int64))], pv_mm s T)) (by decide +kernel) rfl ?_
        refine pv_e_iflt (off := 5) (b := 27) (pc' := 25) (by decide +kernel) (by decide +kernel) rfl (fun c4 => ?_) (fun c4 => ?_)
        · rw [if_pos c4] at h
          refine pv_e_bk (ps := [(27, .aload_n 0, 1)]) (t' := (0, 0, 28, [some (.ref 0), some (.int x1), some (.int x2), none, none, none, none, none, none], [.ref 0], pv_mm s T)) (by decide +kernel) rfl ?_
          refine pv_e_gr (i := 21) (ci := 5) (j := 2) (b := 3) (pc' := 31) (by decide +kernel) rfl rfl rfl ?_
          refine pv_e_gr (i := 109) (ci := 4) (j := 1) (b := 8) (pc' := 34) (by decide +kernel) rfl rfl rfl ?_
          refine pv_e_gc (i := 112) (ci := 1) (j := 3) (pc' := 37) (by decide +kernel) (by decide) rfl rfl rfl ?_
          refine pv_e_bk (ps := [(37, .iconst 2, 1)]) (t' := (0, 0, 38, [some (.ref 0), some (.int x1), some (.int x2), none, none, none, none, none, none], [.int (2:Int32), .int (s 8 3)], pv_mm s T)) (by decide +kernel) rfl ?_
          refine pv_e_icmpge (off := 6) (b := 44) (pc' := 41) (by decide +kernel) (by decide +kernel) rfl (fun c5 => ?_) (fun c5 => ?_)
          · rw [if_pos c5] at h
            refine pv_e_bk (ps := [(44, .aload_n 0, 1)]) (t' := (0, 0, 45, [some (.ref 0), some (.int x1), some (.int x2), none, none, none, none, none, none], [.ref 0], pv_mm s T)) (by decide +kernel) rfl ?_
            refine pv_e_gr (i := 21) (ci := 5) (j := 2) (b := 3) (pc' := 48) (by decide +kernel) rfl rfl rfl ?_
            refine pv_e_gr (i := 156) (ci := 4) (j := 5) (b := 15) (pc' := 51) (by decide +kernel) rfl rfl rfl ?_
            refine pv_e_bk (ps := [(51, .iload_n 1, 1)]) (t' := (0, 0, 52, [some (.ref 0), some (.int x1), some (.int x2), none, none, none, none, none, none], [.int x1, .ref 15], pv_mm s T)) (by decide +kernel) rfl ?_
            obtain ⟨q7, e6, h⟩ := Option.bind_eq_some_iff.mp h
            refine pv_e_cvi (d := d + 5) (i := 160) (z := 1) (np := 1) (ml := 2) (ci := 0) (As := [.int x1]) (rs := []) (pc' := 55) (by decide +kernel) rfl rfl rfl rfl (Nat.le_of_ble_eq_true rfl) (Nat.le_of_ble_eq_true rfl) rfl (ee1 (d + 5) 15 x1 (by decide) e6) ?_
            refine pv_e_ifne (off := 6) (b := 61) (pc' := 58) (by decide +kernel) (by decide +kernel) rfl (fun c8 => ?_) (fun c8 => ?_)
            · rw [if_pos c8] at h
              refine pv_e_bk (ps := [(58, .bipush (-2), 2)]) (t' := (0, 0, 60, [some (.ref 0), some (.int x1), some (.int x2), none, none, none, none, none, none], [.int (-2:Int32)], pv_mm s T)) (by decide +kernel) rfl ?_
              obtain rfl := Option.some.inj h
              cases hr
              exact pv_e_ri (by decide +kernel)
            · rw [if_neg c8] at h
              refine pv_e_bk (ps := [(61, .iconst 0, 1), (62, .istore_n 3, 1), (63, .iload_n 2, 1), (64, .i2l, 1), (65, .lstore 4, 2), (67, .iconst 0, 1), (68, .istore 6, 2)]) (t' := (0, 0, 70, [some (.ref 0), some (.int x1), some (.int x2), some (.int (0:Int32)), some (.long x2.toInt64), none, some (.int (0:Int32)), none, none], [], pv_mm s T)) (by decide +kernel) rfl ?_
              obtain ⟨⟨w28, w29, w30, s31⟩, e33, h⟩ := Option.bind_eq_some_iff.mp h
              dsimp only at h
              have hx32 : f91_days_b1_X xs L d r T x1 x2 (w28, w29, w30, s31) := by
                show ∀ z4 : Option Value, ∀ z5 : Option Value, ∀ z6 : Option Value, ∀ z7 : Option Value, ∀ z8 : Option Value, pv_Ev xs L (d + 6) 91 (0, 0, 168, [some (.ref 0), some (.int x1), some (.int x2), some (.int w28), z4, z5, z6, z7, z8], [], pv_mm s31 T) r
                intro z4 z5 z6 z7 z8
                refine pv_e_bk (ps := [(168, .iload_n 3, 1)]) (t' := (0, 0, 169, [some (.ref 0), some (.int x1), some (.int x2), some (.int w28), z4, z5, z6, z7, z8], [.int w28], pv_mm s31 T)) (by decide +kernel) rfl ?_
                obtain rfl := Option.some.inj h
                cases hr
                exact pv_e_ri (by decide +kernel)
              exact pv_lq_ok (H := f91_days_b1_H xs L d r T x1 x2) (X := f91_days_b1_X xs L d r T x1 x2) (f91_days_b1_ok (xs := xs) (L := L) (d := d) (r := r) (T := T) (v1 := x1) (v2 := x2)) 20000 _ _ e33 hx32 _ _
          · rw [if_neg c5] at h
            refine pv_e_bk (ps := [(41, .bipush (-4), 2)]) (t' := (0, 0, 43, [some (.ref 0), some (.int x1), some (.int x2), none, none, none, none, none, none], [.int (-4:Int32)], pv_mm s T)) (by decide +kernel) rfl ?_
            obtain rfl := Option.some.inj h
            cases hr
            exact pv_e_ri (by decide +kernel)
        · rw [if_neg c4] at h
          refine pv_e_bk (ps := [(25, .iconst (-1), 1)]) (t' := (0, 0, 26, [some (.ref 0), some (.int x1), some (.int x2), none, none, none, none, none, none], [.int (-1:Int32)], pv_mm s T)) (by decide +kernel) rfl ?_
          obtain rfl := Option.some.inj h
          cases hr
          exact pv_e_ri (by decide +kernel)
def f92_asked (s : pv_F) : Option (Int32) :=
  some (s 0 8)
theorem ee92 {xs : Nat → Int32} {L : Nat} (d : Nat)  {s : pv_F} {T : pv_T} {q : Int32}  (h : f92_asked s = some q) : pv_Ev xs L (d + 0) 92 (0, 0, 0, [some (.ref 0)], [], pv_mm s T) (some (.int q), pv_mm s T) := by
  generalize hr : ((some (.int q), pv_mm s T) : Option Value × pv_M) = r
  unfold f92_asked at h
  refine pv_e_bk (ps := [(0, .aload_n 0, 1)]) (t' := (0, 0, 1, [some (.ref 0)], [.ref 0], pv_mm s T)) (by decide +kernel) rfl ?_
  refine pv_e_gc (i := 50) (ci := 5) (j := 8) (pc' := 4) (by decide +kernel) (by decide) rfl rfl rfl ?_
  obtain rfl := Option.some.inj h
  cases hr
  exact pv_e_ri (by decide +kernel)
def f112_commonPart_b1 (v0 : Int32) (v1 : Int32) (st : Int32) : Option (Int32 ⊕ (Int32 ⊕ Int32)) := match st with
  | v2 =>
    if v2 ≤ (1:Int32) then
      some (.inr (.inl v2))
    else
      (pv_rmd v0 v2).bind fun q2 =>
      if q2 = 0 then
        (pv_rmd v1 v2).bind fun q5 =>
        if q5 = 0 then
          some (.inr (.inr v2))
        else
          some (.inl (v2 + (-1:Int32)))
      else
        some (.inl (v2 + (-1:Int32)))
def f112_commonPart_b1_H (xs : Nat → Int32) (L d : Nat) (r : Option Value × pv_M) (M : pv_M) (v0 : Int32) (v1 : Int32) (st : Int32) : Prop := match st with
  | v2 => pv_Ev xs L (d + 0) 112 (0, 0, 2, [some (.int v0), some (.int v1), some (.int v2)], [], M) r
def f112_commonPart_b1_X (xs : Nat → Int32) (L d : Nat) (r : Option Value × pv_M) (M : pv_M) (v0 : Int32) (v1 : Int32) (st : Int32) : Prop := match st with
  | v2 => ∀ z2 : Option Value, pv_Ev xs L (d + 0) 112 (0, 0, 27, [some (.int v0), some (.int v1), z2], [], M) r
def f112_commonPart (x0 : Int32) (x1 : Int32) : Option (Int32) :=
  (pv_lp (f112_commonPart_b1 x0 x1) 20000 x1).bind fun o11 => match o11 with
    | .inl w8 =>
      some (1:Int32)
    | .inr q => some q
theorem f112_commonPart_b1_ok {xs : Nat → Int32} {L d : Nat} {r : Option Value × pv_M} {M : pv_M} {v0 : Int32} {v1 : Int32} (st : Int32) (o : Int32 ⊕ (Int32 ⊕ Int32)) (h : f112_commonPart_b1 v0 v1 st = some o) (hK : pv_Kp (f112_commonPart_b1_H xs L d r M v0 v1) (f112_commonPart_b1_X xs L d r M v0 v1) (fun q => (some (.int q), M) = r) o) : f112_commonPart_b1_H xs L d r M v0 v1 st := by
  obtain ⟨v2, rfl⟩ : ∃ z, z = st := ⟨st, rfl⟩
  show pv_Ev xs L (d + 0) 112 (0, 0, 2, [some (.int v0), some (.int v1), some (.int v2)], [], M) r
  unfold f112_commonPart_b1 at h
  dsimp only at h
  refine pv_e_bk (ps := [(2, .iload_n 2, 1), (3, .iconst 1, 1)]) (t' := (0, 0, 4, [some (.int v0), some (.int v1), some (.int v2)], [.int (1:Int32), .int v2], M)) (by decide +kernel) rfl ?_
  refine pv_e_icmple (off := 23) (b := 27) (pc' := 7) (by decide +kernel) (by decide +kernel) rfl (fun c1 => ?_) (fun c1 => ?_)
  · rw [if_pos c1] at h
    obtain rfl := Option.some.inj h
    exact hK _
  · rw [if_neg c1] at h
    refine pv_e_bk (ps := [(7, .iload_n 0, 1), (8, .iload_n 2, 1)]) (t' := (0, 0, 9, [some (.int v0), some (.int v1), some (.int v2)], [.int v2, .int v0], M)) (by decide +kernel) rfl ?_
    obtain ⟨q2, e3, h⟩ := Option.bind_eq_some_iff.mp h
    refine pv_e_rm_ (pc' := 10) (by decide +kernel) e3 rfl ?_
    refine pv_e_ifne (off := 11) (b := 21) (pc' := 13) (by decide +kernel) (by decide +kernel) rfl (fun c4 => ?_) (fun c4 => ?_)
    · rw [if_pos c4] at h
      refine pv_e_bk (ps := [(13, .iload_n 1, 1), (14, .iload_n 2, 1)]) (t' := (0, 0, 15, [some (.int v0), some (.int v1), some (.int v2)], [.int v2, .int v1], M)) (by decide +kernel) rfl ?_
      obtain ⟨q5, e6, h⟩ := Option.bind_eq_some_iff.mp h
      refine pv_e_rm_ (pc' := 16) (by decide +kernel) e6 rfl ?_
      refine pv_e_ifne (off := 5) (b := 21) (pc' := 19) (by decide +kernel) (by decide +kernel) rfl (fun c7 => ?_) (fun c7 => ?_)
      · rw [if_pos c7] at h
        refine pv_e_bk (ps := [(19, .iload_n 2, 1)]) (t' := (0, 0, 20, [some (.int v0), some (.int v1), some (.int v2)], [.int v2], M)) (by decide +kernel) rfl ?_
        obtain rfl := Option.some.inj h
        cases hK
        exact pv_e_ri (by decide +kernel)
      · rw [if_neg c7] at h
        refine pv_e_bk (ps := [(21, .iinc 2 (-1), 3), (24, .goto (-22), 3)]) (t' := (0, 0, 2, [some (.int v0), some (.int v1), some (.int (v2 + (-1:Int32)))], [], M)) (by decide +kernel) rfl ?_
        obtain rfl := Option.some.inj h
        exact hK
    · rw [if_neg c4] at h
      refine pv_e_bk (ps := [(21, .iinc 2 (-1), 3), (24, .goto (-22), 3)]) (t' := (0, 0, 2, [some (.int v0), some (.int v1), some (.int (v2 + (-1:Int32)))], [], M)) (by decide +kernel) rfl ?_
      obtain rfl := Option.some.inj h
      exact hK
theorem ee112 {xs : Nat → Int32} {L : Nat} (d : Nat) (x0 : Int32) (x1 : Int32) {M : pv_M} {q : Int32}  (h : f112_commonPart x0 x1 = some q) : pv_Ev xs L (d + 0) 112 (0, 0, 0, [some (.int x0), some (.int x1), none], [], M) (some (.int q), M) := by
  generalize hr : ((some (.int q), M) : Option Value × pv_M) = r
  unfold f112_commonPart at h
  refine pv_e_bk (ps := [(0, .iload_n 1, 1), (1, .istore_n 2, 1)]) (t' := (0, 0, 2, [some (.int x0), some (.int x1), some (.int x1)], [], M)) (by decide +kernel) rfl ?_
  obtain ⟨o11, e10, h⟩ := Option.bind_eq_some_iff.mp h
  refine pv_lp_ok (H := f112_commonPart_b1_H xs L d r M x0 x1) (X := f112_commonPart_b1_X xs L d r M x0 x1) (Z := (fun q => (some (.int q), M) = r)) (f112_commonPart_b1_ok (xs := xs) (L := L) (d := d) (r := r) (M := M) (v0 := x0) (v1 := x1)) 20000 _ _ e10 ?_
  rcases o11 with w8 | q
  · dsimp only at h ⊢
    show ∀ z2 : Option Value, pv_Ev xs L (d + 0) 112 (0, 0, 27, [some (.int x0), some (.int x1), z2], [], M) r
    intro z2
    refine pv_e_bk (ps := [(27, .iconst 1, 1)]) (t' := (0, 0, 28, [some (.int x0), some (.int x1), z2], [.int (1:Int32)], M)) (by decide +kernel) rfl ?_
    obtain rfl := Option.some.inj h
    cases hr
    exact pv_e_ri (by decide +kernel)
  · dsimp only at h ⊢
    obtain rfl := Option.some.inj h
    exact hr
def f93_upper (s : pv_F) : Option (Int64) :=
  (f50_sum 12 s).bind fun q2 =>
  ((
    if q2 = 0 then
      some (0:Int64)
    else
      (f50_sum 13 s).bind fun q8 =>
      (f50_sum 13 s).bind fun q10 =>
      (f112_commonPart q10 q2).bind fun q12 =>
      (pv_dv q8 q12).bind fun q13 =>
      some q13.toInt64) : Option (Int64)).bind fun t3 =>
  some t3
theorem ee93 {xs : Nat → Int32} {L : Nat} (d : Nat)  {s : pv_F} {T : pv_T} {q : Int64}  (h : f93_upper s = some q) : pv_Ev xs L (d + 1) 93 (0, 0, 0, [some (.ref 0), none], [], pv_mm s T) (some (.long q), pv_mm s T) := by
  generalize hr : ((some (.long q), pv_mm s T) : Option Value × pv_M) = r
  unfold f93_upper at h
  refine pv_e_bk (ps := [(0, .aload_n 0, 1)]) (t' := (0, 0, 1, [some (.ref 0), none], [.ref 0], pv_mm s T)) (by decide +kernel) rfl ?_
  refine pv_e_gr (i := 21) (ci := 5) (j := 2) (b := 3) (pc' := 4) (by decide +kernel) rfl rfl rfl ?_
  refine pv_e_bk (ps := [(4, .aload_n 0, 1)]) (t' := (0, 0, 5, [some (.ref 0), none], [.ref 0, .ref 3], pv_mm s T)) (by decide +kernel) rfl ?_
  refine pv_e_gr (i := 21) (ci := 5) (j := 2) (b := 3) (pc' := 8) (by decide +kernel) rfl rfl rfl ?_
  refine pv_e_gr (i := 294) (ci := 4) (j := 2) (b := 12) (pc' := 11) (by decide +kernel) rfl rfl rfl ?_
  obtain ⟨q2, e1, h⟩ := Option.bind_eq_some_iff.mp h
  refine pv_e_cvi (d := d + 0) (i := 297) (z := 50) (np := 1) (ml := 4) (ci := 4) (As := [.ref 12]) (rs := []) (pc' := 14) (by decide +kernel) rfl rfl rfl rfl (Nat.le_of_ble_eq_true rfl) (Nat.le_of_ble_eq_true rfl) rfl (ee50 (d + 0) 12 (by decide) e1) ?_
  refine pv_e_bk (ps := [(14, .istore_n 1, 1), (15, .iload_n 1, 1)]) (t' := (0, 0, 16, [some (.ref 0), some (.int q2)], [.int q2], pv_mm s T)) (by decide +kernel) rfl ?_
  obtain ⟨t3, hv4, h⟩ := Option.bind_eq_some_iff.mp h
  have hJ5 : pv_Ev xs L (d + 1) 93 (0, 0, 57, [some (.ref 0), some (.int q2)], [.long t3], pv_mm s T) r := by
    obtain rfl := Option.some.inj h
    cases hr
    exact pv_e_rl (by decide +kernel)
  clear h
  have h := hv4
  clear hv4
  refine pv_e_ifne (off := 7) (b := 23) (pc' := 19) (by decide +kernel) (by decide +kernel) rfl (fun c6 => ?_) (fun c6 => ?_)
  · rw [if_pos c6] at h
    refine pv_e_bk (ps := [(19, .lconst 0, 1), (20, .goto 37, 3)]) (t' := (0, 0, 57, [some (.ref 0), some (.int q2)], [.long (0:Int64)], pv_mm s T)) (by decide +kernel) rfl ?_
    obtain rfl := Option.some.inj h
    exact hJ5
  · rw [if_neg c6] at h
    refine pv_e_bk (ps := [(23, .aload_n 0, 1)]) (t' := (0, 0, 24, [some (.ref 0), some (.int q2)], [.ref 0], pv_mm s T)) (by decide +kernel) rfl ?_
    refine pv_e_gr (i := 21) (ci := 5) (j := 2) (b := 3) (pc' := 27) (by decide +kernel) rfl rfl rfl ?_
    refine pv_e_bk (ps := [(27, .aload_n 0, 1)]) (t' := (0, 0, 28, [some (.ref 0), some (.int q2)], [.ref 0, .ref 3], pv_mm s T)) (by decide +kernel) rfl ?_
    refine pv_e_gr (i := 21) (ci := 5) (j := 2) (b := 3) (pc' := 31) (by decide +kernel) rfl rfl rfl ?_
    refine pv_e_gr (i := 300) (ci := 4) (j := 3) (b := 13) (pc' := 34) (by decide +kernel) rfl rfl rfl ?_
    obtain ⟨q8, e7, h⟩ := Option.bind_eq_some_iff.mp h
    refine pv_e_cvi (d := d + 0) (i := 297) (z := 50) (np := 1) (ml := 4) (ci := 4) (As := [.ref 13]) (rs := []) (pc' := 37) (by decide +kernel) rfl rfl rfl rfl (Nat.le_of_ble_eq_true rfl) (Nat.le_of_ble_eq_true rfl) rfl (ee50 (d + 0) 13 (by decide) e7) ?_
    refine pv_e_bk (ps := [(37, .aload_n 0, 1)]) (t' := (0, 0, 38, [some (.ref 0), some (.int q2)], [.ref 0, .int q8], pv_mm s T)) (by decide +kernel) rfl ?_
    refine pv_e_gr (i := 21) (ci := 5) (j := 2) (b := 3) (pc' := 41) (by decide +kernel) rfl rfl rfl ?_
    refine pv_e_bk (ps := [(41, .aload_n 0, 1)]) (t' := (0, 0, 42, [some (.ref 0), some (.int q2)], [.ref 0, .ref 3, .int q8], pv_mm s T)) (by decide +kernel) rfl ?_
    refine pv_e_gr (i := 21) (ci := 5) (j := 2) (b := 3) (pc' := 45) (by decide +kernel) rfl rfl rfl ?_
    refine pv_e_gr (i := 300) (ci := 4) (j := 3) (b := 13) (pc' := 48) (by decide +kernel) rfl rfl rfl ?_
    obtain ⟨q10, e9, h⟩ := Option.bind_eq_some_iff.mp h
    refine pv_e_cvi (d := d + 0) (i := 297) (z := 50) (np := 1) (ml := 4) (ci := 4) (As := [.ref 13]) (rs := [.int q8]) (pc' := 51) (by decide +kernel) rfl rfl rfl rfl (Nat.le_of_ble_eq_true rfl) (Nat.le_of_ble_eq_true rfl) rfl (ee50 (d + 0) 13 (by decide) e9) ?_
    refine pv_e_bk (ps := [(51, .iload_n 1, 1)]) (t' := (0, 0, 52, [some (.ref 0), some (.int q2)], [.int q2, .int q10, .int q8], pv_mm s T)) (by decide +kernel) rfl ?_
    obtain ⟨q12, e11, h⟩ := Option.bind_eq_some_iff.mp h
    refine pv_e_csi (d := d + 0) (i := 303) (z := 112) (np := 2) (ml := 3) (As := [.int q10, .int q2]) (rs := [.int q8]) (pc' := 55) (by decide +kernel) rfl rfl rfl (Nat.le_of_ble_eq_true rfl) (Nat.le_of_ble_eq_true rfl) rfl (ee112 (d + 0) q10 q2 e11) ?_
    obtain ⟨q13, e14, h⟩ := Option.bind_eq_some_iff.mp h
    refine pv_e_dv (pc' := 56) (by decide +kernel) e14 rfl ?_
    refine pv_e_bk (ps := [(56, .i2l, 1)]) (t' := (0, 0, 57, [some (.ref 0), some (.int q2)], [.long q13.toInt64], pv_mm s T)) (by decide +kernel) rfl ?_
    obtain rfl := Option.some.inj h
    exact hJ5
def f94_lower (s : pv_F) : Option (Int64) :=
  (f50_sum 12 s).bind fun q2 =>
  ((
    if q2 = 0 then
      some (1:Int64)
    else
      (f50_sum 13 s).bind fun q8 =>
      (f112_commonPart q8 q2).bind fun q10 =>
      (pv_dv q2 q10).bind fun q11 =>
      some q11.toInt64) : Option (Int64)).bind fun t3 =>
  some t3
theorem ee94 {xs : Nat → Int32} {L : Nat} (d : Nat)  {s : pv_F} {T : pv_T} {q : Int64}  (h : f94_lower s = some q) : pv_Ev xs L (d + 1) 94 (0, 0, 0, [some (.ref 0), none], [], pv_mm s T) (some (.long q), pv_mm s T) := by
  generalize hr : ((some (.long q), pv_mm s T) : Option Value × pv_M) = r
  unfold f94_lower at h
  refine pv_e_bk (ps := [(0, .aload_n 0, 1)]) (t' := (0, 0, 1, [some (.ref 0), none], [.ref 0], pv_mm s T)) (by decide +kernel) rfl ?_
  refine pv_e_gr (i := 21) (ci := 5) (j := 2) (b := 3) (pc' := 4) (by decide +kernel) rfl rfl rfl ?_
  refine pv_e_bk (ps := [(4, .aload_n 0, 1)]) (t' := (0, 0, 5, [some (.ref 0), none], [.ref 0, .ref 3], pv_mm s T)) (by decide +kernel) rfl ?_
  refine pv_e_gr (i := 21) (ci := 5) (j := 2) (b := 3) (pc' := 8) (by decide +kernel) rfl rfl rfl ?_
  refine pv_e_gr (i := 294) (ci := 4) (j := 2) (b := 12) (pc' := 11) (by decide +kernel) rfl rfl rfl ?_
  obtain ⟨q2, e1, h⟩ := Option.bind_eq_some_iff.mp h
  refine pv_e_cvi (d := d + 0) (i := 297) (z := 50) (np := 1) (ml := 4) (ci := 4) (As := [.ref 12]) (rs := []) (pc' := 14) (by decide +kernel) rfl rfl rfl rfl (Nat.le_of_ble_eq_true rfl) (Nat.le_of_ble_eq_true rfl) rfl (ee50 (d + 0) 12 (by decide) e1) ?_
  refine pv_e_bk (ps := [(14, .istore_n 1, 1), (15, .iload_n 1, 1)]) (t' := (0, 0, 16, [some (.ref 0), some (.int q2)], [.int q2], pv_mm s T)) (by decide +kernel) rfl ?_
  obtain ⟨t3, hv4, h⟩ := Option.bind_eq_some_iff.mp h
  have hJ5 : pv_Ev xs L (d + 1) 94 (0, 0, 44, [some (.ref 0), some (.int q2)], [.long t3], pv_mm s T) r := by
    obtain rfl := Option.some.inj h
    cases hr
    exact pv_e_rl (by decide +kernel)
  clear h
  have h := hv4
  clear hv4
  refine pv_e_ifne (off := 7) (b := 23) (pc' := 19) (by decide +kernel) (by decide +kernel) rfl (fun c6 => ?_) (fun c6 => ?_)
  · rw [if_pos c6] at h
    refine pv_e_bk (ps := [(19, .lconst 1, 1), (20, .goto 24, 3)]) (t' := (0, 0, 44, [some (.ref 0), some (.int q2)], [.long (1:Int64)], pv_mm s T)) (by decide +kernel) rfl ?_
    obtain rfl := Option.some.inj h
    exact hJ5
  · rw [if_neg c6] at h
    refine pv_e_bk (ps := [(23, .iload_n 1, 1), (24, .aload_n 0, 1)]) (t' := (0, 0, 25, [some (.ref 0), some (.int q2)], [.ref 0, .int q2], pv_mm s T)) (by decide +kernel) rfl ?_
    refine pv_e_gr (i := 21) (ci := 5) (j := 2) (b := 3) (pc' := 28) (by decide +kernel) rfl rfl rfl ?_
    refine pv_e_bk (ps := [(28, .aload_n 0, 1)]) (t' := (0, 0, 29, [some (.ref 0), some (.int q2)], [.ref 0, .ref 3, .int q2], pv_mm s T)) (by decide +kernel) rfl ?_
    refine pv_e_gr (i := 21) (ci := 5) (j := 2) (b := 3) (pc' := 32) (by decide +kernel) rfl rfl rfl ?_
    refine pv_e_gr (i := 300) (ci := 4) (j := 3) (b := 13) (pc' := 35) (by decide +kernel) rfl rfl rfl ?_
    obtain ⟨q8, e7, h⟩ := Option.bind_eq_some_iff.mp h
    refine pv_e_cvi (d := d + 0) (i := 297) (z := 50) (np := 1) (ml := 4) (ci := 4) (As := [.ref 13]) (rs := [.int q2]) (pc' := 38) (by decide +kernel) rfl rfl rfl rfl (Nat.le_of_ble_eq_true rfl) (Nat.le_of_ble_eq_true rfl) rfl (ee50 (d + 0) 13 (by decide) e7) ?_
    refine pv_e_bk (ps := [(38, .iload_n 1, 1)]) (t' := (0, 0, 39, [some (.ref 0), some (.int q2)], [.int q2, .int q8, .int q2], pv_mm s T)) (by decide +kernel) rfl ?_
    obtain ⟨q10, e9, h⟩ := Option.bind_eq_some_iff.mp h
    refine pv_e_csi (d := d + 0) (i := 303) (z := 112) (np := 2) (ml := 3) (As := [.int q8, .int q2]) (rs := [.int q2]) (pc' := 42) (by decide +kernel) rfl rfl rfl (Nat.le_of_ble_eq_true rfl) (Nat.le_of_ble_eq_true rfl) rfl (ee112 (d + 0) q8 q2 e9) ?_
    obtain ⟨q11, e12, h⟩ := Option.bind_eq_some_iff.mp h
    refine pv_e_dv (pc' := 43) (by decide +kernel) e12 rfl ?_
    refine pv_e_bk (ps := [(43, .i2l, 1)]) (t' := (0, 0, 44, [some (.ref 0), some (.int q2)], [.long q11.toInt64], pv_mm s T)) (by decide +kernel) rfl ?_
    obtain rfl := Option.some.inj h
    exact hJ5
def f111_thereAmong_b1 (v0 : Nat) (s : pv_F) (st : Int32 × Int32) : Option ((Int32 × Int32) ⊕ (Int32 × Int32)) := match st with
  | (v1, v2) =>
    if (Int32.ofNat (pv_rln v0)) ≤ v2 then
      some (.inr (v1, v2))
    else
      (pv_ra v0 (pv_rln v0) v2).bind fun o2 =>
      ((
        if (s o2 1) = 0 then
          some v1
        else
          some (v1 + (1:Int32))) : Option (Int32)).bind fun v5 =>
      some (.inl (v5, v2 + (1:Int32)))
def f111_thereAmong_b1_H (xs : Nat → Int32) (L d : Nat) (r : Option Value × pv_M) (T : pv_T) (v0 : Nat) (s : pv_F) (st : Int32 × Int32) : Prop := match st with
  | (v1, v2) => pv_Ev xs L (d + 0) 111 (0, 0, 4, [some (.ref v0), some (.int v1), some (.int v2)], [], pv_mm s T) r
def f111_thereAmong_b1_X (xs : Nat → Int32) (L d : Nat) (r : Option Value × pv_M) (T : pv_T) (v0 : Nat) (s : pv_F) (st : Int32 × Int32) : Prop := match st with
  | (v1, v2) => ∀ z2 : Option Value, pv_Ev xs L (d + 0) 111 (0, 0, 28, [some (.ref v0), some (.int v1), z2], [], pv_mm s T) r
def f111_thereAmong (x0 : Nat) (s : pv_F) : Option (Int32) :=
  (pv_lq (f111_thereAmong_b1 x0 s) 20000 ((0:Int32), (0:Int32))).bind fun (w9, w10) =>
  some w9
theorem f111_thereAmong_b1_ok {xs : Nat → Int32} {L d : Nat} {r : Option Value × pv_M} {T : pv_T} {v0 : Nat} {s : pv_F} (g0 : v0 = 1 ∨ v0 = 2) (st : Int32 × Int32) (o : (Int32 × Int32) ⊕ (Int32 × Int32)) (h : f111_thereAmong_b1 v0 s st = some o) (hK : pv_Kq (f111_thereAmong_b1_H xs L d r T v0 s) (f111_thereAmong_b1_X xs L d r T v0 s) o) : f111_thereAmong_b1_H xs L d r T v0 s st := by
  obtain ⟨v1, v2⟩ := st
  show pv_Ev xs L (d + 0) 111 (0, 0, 4, [some (.ref v0), some (.int v1), some (.int v2)], [], pv_mm s T) r
  unfold f111_thereAmong_b1 at h
  dsimp only at h
  refine pv_e_bk (ps := [(4, .iload_n 2, 1), (5, .aload_n 0, 1)]) (t' := (0, 0, 6, [some (.ref v0), some (.int v1), some (.int v2)], [.ref v0, .int v2], pv_mm s T)) (by decide +kernel) rfl ?_
  refine pv_e_len (pc' := 7) (by decide +kernel) (ra_shape g0).choose_spec (by decide) rfl ?_
  refine pv_e_icmpge (off := 21) (b := 28) (pc' := 10) (by decide +kernel) (by decide +kernel) rfl (fun c1 => ?_) (fun c1 => ?_)
  · rw [if_pos c1] at h
    obtain rfl := Option.some.inj h
    exact hK _
  · rw [if_neg c1] at h
    refine pv_e_bk (ps := [(10, .aload_n 0, 1), (11, .iload_n 2, 1)]) (t' := (0, 0, 12, [some (.ref v0), some (.int v1), some (.int v2)], [.int v2, .ref v0], pv_mm s T)) (by decide +kernel) rfl ?_
    obtain ⟨o2, e3, h⟩ := Option.bind_eq_some_iff.mp h
    have g4 := ra_both g0 e3
    refine pv_e_ra (pc' := 13) (by decide +kernel) (ra_shape g0).choose_spec (by decide) e3 rfl ?_
    refine pv_e_gc (i := 78) (ci := 2) (j := 1) (pc' := 16) (by decide +kernel) (by have := (rw_ g4).2.2; omega) (rw_ g4).1 rfl rfl ?_
    obtain ⟨v5, hv6, h⟩ := Option.bind_eq_some_iff.mp h
    have hJ7 : pv_Ev xs L (d + 0) 111 (0, 0, 22, [some (.ref v0), some (.int v5), some (.int v2)], [], pv_mm s T) r := by
      refine pv_e_bk (ps := [(22, .iinc 2 1, 3), (25, .goto (-21), 3)]) (t' := (0, 0, 4, [some (.ref v0), some (.int v5), some (.int (v2 + (1:Int32)))], [], pv_mm s T)) (by decide +kernel) rfl ?_
      obtain rfl := Option.some.inj h
      exact hK
    clear h
    have h := hv6
    clear hv6
    refine pv_e_ifeq (off := 6) (b := 22) (pc' := 19) (by decide +kernel) (by decide +kernel) rfl (fun c8 => ?_) (fun c8 => ?_)
    · rw [if_pos c8] at h
      obtain rfl := Option.some.inj h
      exact hJ7
    · rw [if_neg c8] at h
      refine pv_e_bk (ps := [(19, .iinc 1 1, 3)]) (t' := (0, 0, 22, [some (.ref v0), some (.int (v1 + (1:Int32))), some (.int v2)], [], pv_mm s T)) (by decide +kernel) rfl ?_
      obtain rfl := Option.some.inj h
      exact hJ7
theorem ee111 {xs : Nat → Int32} {L : Nat} (d : Nat) (x0 : Nat) {s : pv_F} {T : pv_T} {q : Int32} (g0 : x0 = 1 ∨ x0 = 2) (h : f111_thereAmong x0 s = some q) : pv_Ev xs L (d + 0) 111 (0, 0, 0, [some (.ref x0), none, none], [], pv_mm s T) (some (.int q), pv_mm s T) := by
  generalize hr : ((some (.int q), pv_mm s T) : Option Value × pv_M) = r
  unfold f111_thereAmong at h
  refine pv_e_bk (ps := [(0, .iconst 0, 1), (1, .istore_n 1, 1), (2, .iconst 0, 1), (3, .istore_n 2, 1)]) (t' := (0, 0, 4, [some (.ref x0), some (.int (0:Int32)), some (.int (0:Int32))], [], pv_mm s T)) (by decide +kernel) rfl ?_
  obtain ⟨⟨w9, w10⟩, e12, h⟩ := Option.bind_eq_some_iff.mp h
  dsimp only at h
  have hx11 : f111_thereAmong_b1_X xs L d r T x0 s (w9, w10) := by
    show ∀ z2 : Option Value, pv_Ev xs L (d + 0) 111 (0, 0, 28, [some (.ref x0), some (.int w9), z2], [], pv_mm s T) r
    intro z2
    refine pv_e_bk (ps := [(28, .iload_n 1, 1)]) (t' := (0, 0, 29, [some (.ref x0), some (.int w9), z2], [.int w9], pv_mm s T)) (by decide +kernel) rfl ?_
    obtain rfl := Option.some.inj h
    cases hr
    exact pv_e_ri (by decide +kernel)
  exact pv_lq_ok (H := f111_thereAmong_b1_H xs L d r T x0 s) (X := f111_thereAmong_b1_X xs L d r T x0 s) (f111_thereAmong_b1_ok (xs := xs) (L := L) (d := d) (r := r) (T := T) (v0 := x0) (s := s) g0) 20000 _ _ e12 hx11
def f95_count (x1 : Int32) (s : pv_F) : Option (Int32) :=
  if x1 = (0:Int32) then
    some (s 8 3)
  else
    if x1 = (1:Int32) then
      some (s 15 4)
    else
      if x1 = (2:Int32) then
        (f23_letters 8 s).bind fun q5 =>
        some q5
      else
        if x1 = (3:Int32) then
          (f24_mothers 8 s).bind fun q8 =>
          some q8
        else
          if x1 = (4:Int32) then
            (f20_living 8 s).bind fun q11 =>
            (f21_nameless 8 s).bind fun q13 =>
            some (((s 8 3) - q11) + q13)
          else
            if x1 = (5:Int32) then
              (f51_keptTowns s).bind fun q16 =>
              some q16
            else
              if x1 = (6:Int32) then
                (f111_thereAmong 1 s).bind fun q19 =>
                some q19
              else
                if x1 = (7:Int32) then
                  (f111_thereAmong 2 s).bind fun q22 =>
                  some q22
                else
                  if x1 = (8:Int32) then
                    some (s 3 7)
                  else
                    some (-1:Int32)
theorem ee95 {xs : Nat → Int32} {L : Nat} (d : Nat) (x1 : Int32) {s : pv_F} {T : pv_T} {q : Int32}  (h : f95_count x1 s = some q) : pv_Ev xs L (d + 3) 95 (0, 0, 0, [some (.ref 0), some (.int x1)], [], pv_mm s T) (some (.int q), pv_mm s T) := by
  generalize hr : ((some (.int q), pv_mm s T) : Option Value × pv_M) = r
  unfold f95_count at h
  refine pv_e_bk (ps := [(0, .iload_n 1, 1)]) (t' := (0, 0, 1, [some (.ref 0), some (.int x1)], [.int x1], pv_mm s T)) (by decide +kernel) rfl ?_
  by_cases c1 : x1 = (0:Int32)
  · rw [if_pos c1] at h
    refine pv_e_swin (dflt := 160) (lo := 0) (hi := 8) (offs := #[51, 62, 73, 84, 95, 128, 136, 144, 152]) (len := 51) (off := 51) (b := 52) (by decide +kernel) (by rw [c1]; decide +kernel) (by rw [c1]; decide +kernel) (by decide +kernel) ?_
    refine pv_e_bk (ps := [(52, .aload_n 0, 1)]) (t' := (0, 0, 53, [some (.ref 0), some (.int x1)], [.ref 0], pv_mm s T)) (by decide +kernel) rfl ?_
    refine pv_e_gr (i := 21) (ci := 5) (j := 2) (b := 3) (pc' := 56) (by decide +kernel) rfl rfl rfl ?_
    refine pv_e_gr (i := 109) (ci := 4) (j := 1) (b := 8) (pc' := 59) (by decide +kernel) rfl rfl rfl ?_
    refine pv_e_gc (i := 112) (ci := 1) (j := 3) (pc' := 62) (by decide +kernel) (by decide) rfl rfl rfl ?_
    obtain rfl := Option.some.inj h
    cases hr
    exact pv_e_ri (by decide +kernel)
  · rw [if_neg c1] at h
    by_cases c2 : x1 = (1:Int32)
    · rw [if_pos c2] at h
      refine pv_e_swin (dflt := 160) (lo := 0) (hi := 8) (offs := #[51, 62, 73, 84, 95, 128, 136, 144, 152]) (len := 51) (off := 62) (b := 63) (by decide +kernel) (by rw [c2]; decide +kernel) (by rw [c2]; decide +kernel) (by decide +kernel) ?_
      refine pv_e_bk (ps := [(63, .aload_n 0, 1)]) (t' := (0, 0, 64, [some (.ref 0), some (.int x1)], [.ref 0], pv_mm s T)) (by decide +kernel) rfl ?_
      refine pv_e_gr (i := 21) (ci := 5) (j := 2) (b := 3) (pc' := 67) (by decide +kernel) rfl rfl rfl ?_
      refine pv_e_gr (i := 156) (ci := 4) (j := 5) (b := 15) (pc' := 70) (by decide +kernel) rfl rfl rfl ?_
      refine pv_e_gc (i := 182) (ci := 0) (j := 4) (pc' := 73) (by decide +kernel) (by decide) rfl rfl rfl ?_
      obtain rfl := Option.some.inj h
      cases hr
      exact pv_e_ri (by decide +kernel)
    · rw [if_neg c2] at h
      by_cases c3 : x1 = (2:Int32)
      · rw [if_pos c3] at h
        refine pv_e_swin (dflt := 160) (lo := 0) (hi := 8) (offs := #[51, 62, 73, 84, 95, 128, 136, 144, 152]) (len := 51) (off := 73) (b := 74) (by decide +kernel) (by rw [c3]; decide +kernel) (by rw [c3]; decide +kernel) (by decide +kernel) ?_
        refine pv_e_bk (ps := [(74, .aload_n 0, 1)]) (t' := (0, 0, 75, [some (.ref 0), some (.int x1)], [.ref 0], pv_mm s T)) (by decide +kernel) rfl ?_
        refine pv_e_gr (i := 21) (ci := 5) (j := 2) (b := 3) (pc' := 78) (by decide +kernel) rfl rfl rfl ?_
        refine pv_e_gr (i := 109) (ci := 4) (j := 1) (b := 8) (pc' := 81) (by decide +kernel) rfl rfl rfl ?_
        obtain ⟨q5, e4, h⟩ := Option.bind_eq_some_iff.mp h
        refine pv_e_cvi (d := d + 2) (i := 306) (z := 23) (np := 0) (ml := 3) (ci := 1) (As := []) (rs := []) (pc' := 84) (by decide +kernel) rfl rfl rfl rfl (Nat.le_of_ble_eq_true rfl) (Nat.le_of_ble_eq_true rfl) rfl (ee23 (d + 1) 8 (by decide) e4) ?_
        obtain rfl := Option.some.inj h
        cases hr
        exact pv_e_ri (by decide +kernel)
      · rw [if_neg c3] at h
        by_cases c6 : x1 = (3:Int32)
        · rw [if_pos c6] at h
          refine pv_e_swin (dflt := 160) (lo := 0) (hi := 8) (offs := #[51, 62, 73, 84, 95, 128, 136, 144, 152]) (len := 51) (off := 84) (b := 85) (by decide +kernel) (by rw [c6]; decide +kernel) (by rw [c6]; decide +kernel) (by decide +kernel) ?_
          refine pv_e_bk (ps := [(85, .aload_n 0, 1)]) (t' := (0, 0, 86, [some (.ref 0), some (.int x1)], [.ref 0], pv_mm s T)) (by decide +kernel) rfl ?_
          refine pv_e_gr (i := 21) (ci := 5) (j := 2) (b := 3) (pc' := 89) (by decide +kernel) rfl rfl rfl ?_
          refine pv_e_gr (i := 109) (ci := 4) (j := 1) (b := 8) (pc' := 92) (by decide +kernel) rfl rfl rfl ?_
          obtain ⟨q8, e7, h⟩ := Option.bind_eq_some_iff.mp h
          refine pv_e_cvi (d := d + 2) (i := 309) (z := 24) (np := 0) (ml := 3) (ci := 1) (As := []) (rs := []) (pc' := 95) (by decide +kernel) rfl rfl rfl rfl (Nat.le_of_ble_eq_true rfl) (Nat.le_of_ble_eq_true rfl) rfl (ee24 (d + 1) 8 (by decide) e7) ?_
          obtain rfl := Option.some.inj h
          cases hr
          exact pv_e_ri (by decide +kernel)
        · rw [if_neg c6] at h
          by_cases c9 : x1 = (4:Int32)
          · rw [if_pos c9] at h
            refine pv_e_swin (dflt := 160) (lo := 0) (hi := 8) (offs := #[51, 62, 73, 84, 95, 128, 136, 144, 152]) (len := 51) (off := 95) (b := 96) (by decide +kernel) (by rw [c9]; decide +kernel) (by rw [c9]; decide +kernel) (by decide +kernel) ?_
            refine pv_e_bk (ps := [(96, .aload_n 0, 1)]) (t' := (0, 0, 97, [some (.ref 0), some (.int x1)], [.ref 0], pv_mm s T)) (by decide +kernel) rfl ?_
            refine pv_e_gr (i := 21) (ci := 5) (j := 2) (b := 3) (pc' := 100) (by decide +kernel) rfl rfl rfl ?_
            refine pv_e_gr (i := 109) (ci := 4) (j := 1) (b := 8) (pc' := 103) (by decide +kernel) rfl rfl rfl ?_
            refine pv_e_gc (i := 112) (ci := 1) (j := 3) (pc' := 106) (by decide +kernel) (by decide) rfl rfl rfl ?_
            refine pv_e_bk (ps := [(106, .aload_n 0, 1)]) (t' := (0, 0, 107, [some (.ref 0), some (.int x1)], [.ref 0, .int (s 8 3)], pv_mm s T)) (by decide +kernel) rfl ?_
            refine pv_e_gr (i := 21) (ci := 5) (j := 2) (b := 3) (pc' := 110) (by decide +kernel) rfl rfl rfl ?_
            refine pv_e_gr (i := 109) (ci := 4) (j := 1) (b := 8) (pc' := 113) (by decide +kernel) rfl rfl rfl ?_
            obtain ⟨q11, e10, h⟩ := Option.bind_eq_some_iff.mp h
            refine pv_e_cvi (d := d + 2) (i := 218) (z := 20) (np := 0) (ml := 3) (ci := 1) (As := []) (rs := [.int (s 8 3)]) (pc' := 116) (by decide +kernel) rfl rfl rfl rfl (Nat.le_of_ble_eq_true rfl) (Nat.le_of_ble_eq_true rfl) rfl (ee20 (d + 1) 8 (by decide) e10) ?_
            refine pv_e_bk (ps := [(116, .isub, 1), (117, .aload_n 0, 1)]) (t' := (0, 0, 118, [some (.ref 0), some (.int x1)], [.ref 0, .int ((s 8 3) - q11)], pv_mm s T)) (by decide +kernel) rfl ?_
            refine pv_e_gr (i := 21) (ci := 5) (j := 2) (b := 3) (pc' := 121) (by decide +kernel) rfl rfl rfl ?_
            refine pv_e_gr (i := 109) (ci := 4) (j := 1) (b := 8) (pc' := 124) (by decide +kernel) rfl rfl rfl ?_
            obtain ⟨q13, e12, h⟩ := Option.bind_eq_some_iff.mp h
            refine pv_e_cvi (d := d + 2) (i := 211) (z := 21) (np := 0) (ml := 1) (ci := 1) (As := []) (rs := [.int ((s 8 3) - q11)]) (pc' := 127) (by decide +kernel) rfl rfl rfl rfl (Nat.le_of_ble_eq_true rfl) (Nat.le_of_ble_eq_true rfl) rfl (ee21 (d + 0) 8 (by decide) e12) ?_
            refine pv_e_bk (ps := [(127, .iadd, 1)]) (t' := (0, 0, 128, [some (.ref 0), some (.int x1)], [.int (((s 8 3) - q11) + q13)], pv_mm s T)) (by decide +kernel) rfl ?_
            obtain rfl := Option.some.inj h
            cases hr
            exact pv_e_ri (by decide +kernel)
          · rw [if_neg c9] at h
            by_cases c14 : x1 = (5:Int32)
            · rw [if_pos c14] at h
              refine pv_e_swin (dflt := 160) (lo := 0) (hi := 8) (offs := #[51, 62, 73, 84, 95, 128, 136, 144, 152]) (len := 51) (off := 128) (b := 129) (by decide +kernel) (by rw [c14]; decide +kernel) (by rw [c14]; decide +kernel) (by decide +kernel) ?_
              refine pv_e_bk (ps := [(129, .aload_n 0, 1)]) (t' := (0, 0, 130, [some (.ref 0), some (.int x1)], [.ref 0], pv_mm s T)) (by decide +kernel) rfl ?_
              refine pv_e_gr (i := 21) (ci := 5) (j := 2) (b := 3) (pc' := 133) (by decide +kernel) rfl rfl rfl ?_
              obtain ⟨q16, e15, h⟩ := Option.bind_eq_some_iff.mp h
              refine pv_e_cvi (d := d + 2) (i := 312) (z := 51) (np := 0) (ml := 3) (ci := 4) (As := []) (rs := []) (pc' := 136) (by decide +kernel) rfl rfl rfl rfl (Nat.le_of_ble_eq_true rfl) (Nat.le_of_ble_eq_true rfl) rfl (ee51 (d + 2) e15) ?_
              obtain rfl := Option.some.inj h
              cases hr
              exact pv_e_ri (by decide +kernel)
            · rw [if_neg c14] at h
              by_cases c17 : x1 = (6:Int32)
              · rw [if_pos c17] at h
                refine pv_e_swin (dflt := 160) (lo := 0) (hi := 8) (offs := #[51, 62, 73, 84, 95, 128, 136, 144, 152]) (len := 51) (off := 136) (b := 137) (by decide +kernel) (by rw [c17]; decide +kernel) (by rw [c17]; decide +kernel) (by decide +kernel) ?_
                refine pv_e_bk (ps := [(137, .aload_n 0, 1)]) (t' := (0, 0, 138, [some (.ref 0), some (.int x1)], [.ref 0], pv_mm s T)) (by decide +kernel) rfl ?_
                refine pv_e_gr (i := 11) (ci := 5) (j := 0) (b := 1) (pc' := 141) (by decide +kernel) rfl rfl rfl ?_
                obtain ⟨q19, e18, h⟩ := Option.bind_eq_some_iff.mp h
                refine pv_e_csi (d := d + 2) (i := 315) (z := 111) (np := 1) (ml := 3) (As := [.ref 1]) (rs := []) (pc' := 144) (by decide +kernel) rfl rfl rfl (Nat.le_of_ble_eq_true rfl) (Nat.le_of_ble_eq_true rfl) rfl (ee111 (d + 2) 1 (by decide) e18) ?_
                obtain rfl := Option.some.inj h
                cases hr
                exact pv_e_ri (by decide +kernel)
              · rw [if_neg c17] at h
                by_cases c20 : x1 = (7:Int32)
                · rw [if_pos c20] at h
                  refine pv_e_swin (dflt := 160) (lo := 0) (hi := 8) (offs := #[51, 62, 73, 84, 95, 128, 136, 144, 152]) (len := 51) (off := 144) (b := 145) (by decide +kernel) (by rw [c20]; decide +kernel) (by rw [c20]; decide +kernel) (by decide +kernel) ?_
                  refine pv_e_bk (ps := [(145, .aload_n 0, 1)]) (t' := (0, 0, 146, [some (.ref 0), some (.int x1)], [.ref 0], pv_mm s T)) (by decide +kernel) rfl ?_
                  refine pv_e_gr (i := 15) (ci := 5) (j := 1) (b := 2) (pc' := 149) (by decide +kernel) rfl rfl rfl ?_
                  obtain ⟨q22, e21, h⟩ := Option.bind_eq_some_iff.mp h
                  refine pv_e_csi (d := d + 2) (i := 315) (z := 111) (np := 1) (ml := 3) (As := [.ref 2]) (rs := []) (pc' := 152) (by decide +kernel) rfl rfl rfl (Nat.le_of_ble_eq_true rfl) (Nat.le_of_ble_eq_true rfl) rfl (ee111 (d + 2) 2 (by decide) e21) ?_
                  obtain rfl := Option.some.inj h
                  cases hr
                  exact pv_e_ri (by decide +kernel)
                · rw [if_neg c20] at h
                  by_cases c23 : x1 = (8:Int32)
                  · rw [if_pos c23] at h
                    refine pv_e_swin (dflt := 160) (lo := 0) (hi := 8) (offs := #[51, 62, 73, 84, 95, 128, 136, 144, 152]) (len := 51) (off := 152) (b := 153) (by decide +kernel) (by rw [c23]; decide +kernel) (by rw [c23]; decide +kernel) (by decide +kernel) ?_
                    refine pv_e_bk (ps := [(153, .aload_n 0, 1)]) (t' := (0, 0, 154, [some (.ref 0), some (.int x1)], [.ref 0], pv_mm s T)) (by decide +kernel) rfl ?_
                    refine pv_e_gr (i := 21) (ci := 5) (j := 2) (b := 3) (pc' := 157) (by decide +kernel) rfl rfl rfl ?_
                    refine pv_e_gc (i := 133) (ci := 4) (j := 7) (pc' := 160) (by decide +kernel) (by decide) rfl rfl rfl ?_
                    obtain rfl := Option.some.inj h
                    cases hr
                    exact pv_e_ri (by decide +kernel)
                  · rw [if_neg c23] at h
                    refine pv_e_swout (dflt := 160) (lo := 0) (hi := 8) (offs := #[51, 62, 73, 84, 95, 128, 136, 144, 152]) (len := 51) (b := 161) (by decide +kernel) ?_ (by decide +kernel) ?_
                    · have nc1 : x1.toInt ≠ (0 : Int) := fun e9 => c1 (Int32.toInt_inj.mp (e9.trans (by decide +kernel)))
                      have nc2 : x1.toInt ≠ (1 : Int) := fun e9 => c2 (Int32.toInt_inj.mp (e9.trans (by decide +kernel)))
                      have nc3 : x1.toInt ≠ (2 : Int) := fun e9 => c3 (Int32.toInt_inj.mp (e9.trans (by decide +kernel)))
                      have nc6 : x1.toInt ≠ (3 : Int) := fun e9 => c6 (Int32.toInt_inj.mp (e9.trans (by decide +kernel)))
                      have nc9 : x1.toInt ≠ (4 : Int) := fun e9 => c9 (Int32.toInt_inj.mp (e9.trans (by decide +kernel)))
                      have nc14 : x1.toInt ≠ (5 : Int) := fun e9 => c14 (Int32.toInt_inj.mp (e9.trans (by decide +kernel)))
                      have nc17 : x1.toInt ≠ (6 : Int) := fun e9 => c17 (Int32.toInt_inj.mp (e9.trans (by decide +kernel)))
                      have nc20 : x1.toInt ≠ (7 : Int) := fun e9 => c20 (Int32.toInt_inj.mp (e9.trans (by decide +kernel)))
                      have nc23 : x1.toInt ≠ (8 : Int) := fun e9 => c23 (Int32.toInt_inj.mp (e9.trans (by decide +kernel)))
                      omega
                    · refine pv_e_bk (ps := [(161, .iconst (-1), 1)]) (t' := (0, 0, 162, [some (.ref 0), some (.int x1)], [.int (-1:Int32)], pv_mm s T)) (by decide +kernel) rfl ?_
                      obtain rfl := Option.some.inj h
                      cases hr
                      exact pv_e_ri (by decide +kernel)
def f96_finding (s : pv_F) : Option (Int32) :=
  some (s 0 9)
theorem ee96 {xs : Nat → Int32} {L : Nat} (d : Nat)  {s : pv_F} {T : pv_T} {q : Int32}  (h : f96_finding s = some q) : pv_Ev xs L (d + 0) 96 (0, 0, 0, [some (.ref 0)], [], pv_mm s T) (some (.int q), pv_mm s T) := by
  generalize hr : ((some (.int q), pv_mm s T) : Option Value × pv_M) = r
  unfold f96_finding at h
  refine pv_e_bk (ps := [(0, .aload_n 0, 1)]) (t' := (0, 0, 1, [some (.ref 0)], [.ref 0], pv_mm s T)) (by decide +kernel) rfl ?_
  refine pv_e_gc (i := 53) (ci := 5) (j := 9) (pc' := 4) (by decide +kernel) (by decide) rfl rfl rfl ?_
  obtain rfl := Option.some.inj h
  cases hr
  exact pv_e_ri (by decide +kernel)
def f97_findings (x1 : Int32) (s : pv_F) : Option (Int32) :=
  ((
    if x1 < (1:Int32) then
      some (-1:Int32)
    else
      if x1 ≤ (5:Int32) then
        (pv_rd s 73 6 x1).bind fun q6 =>
        some q6
      else
        some (-1:Int32)) : Option (Int32)).bind fun t1 =>
  some t1
theorem ee97 {xs : Nat → Int32} {L : Nat} (d : Nat) (x1 : Int32) {s : pv_F} {T : pv_T} {q : Int32}  (h : f97_findings x1 s = some q) : pv_Ev xs L (d + 0) 97 (0, 0, 0, [some (.ref 0), some (.int x1)], [], pv_mm s T) (some (.int q), pv_mm s T) := by
  generalize hr : ((some (.int q), pv_mm s T) : Option Value × pv_M) = r
  unfold f97_findings at h
  refine pv_e_bk (ps := [(0, .iload_n 1, 1), (1, .iconst 1, 1)]) (t' := (0, 0, 2, [some (.ref 0), some (.int x1)], [.int (1:Int32), .int x1], pv_mm s T)) (by decide +kernel) rfl ?_
  obtain ⟨t1, hv2, h⟩ := Option.bind_eq_some_iff.mp h
  have hJ3 : pv_Ev xs L (d + 0) 97 (0, 0, 20, [some (.ref 0), some (.int x1)], [.int t1], pv_mm s T) r := by
    obtain rfl := Option.some.inj h
    cases hr
    exact pv_e_ri (by decide +kernel)
  clear h
  have h := hv2
  clear hv2
  refine pv_e_icmplt (off := 8) (b := 10) (pc' := 5) (by decide +kernel) (by decide +kernel) rfl (fun c4 => ?_) (fun c4 => ?_)
  · rw [if_pos c4] at h
    refine pv_e_bk (ps := [(10, .iconst (-1), 1), (11, .goto 9, 3)]) (t' := (0, 0, 20, [some (.ref 0), some (.int x1)], [.int (-1:Int32)], pv_mm s T)) (by decide +kernel) rfl ?_
    obtain rfl := Option.some.inj h
    exact hJ3
  · rw [if_neg c4] at h
    refine pv_e_bk (ps := [(5, .iload_n 1, 1), (6, .iconst 5, 1)]) (t' := (0, 0, 7, [some (.ref 0), some (.int x1)], [.int (5:Int32), .int x1], pv_mm s T)) (by decide +kernel) rfl ?_
    refine pv_e_icmple (off := 7) (b := 14) (pc' := 10) (by decide +kernel) (by decide +kernel) rfl (fun c5 => ?_) (fun c5 => ?_)
    · rw [if_pos c5] at h
      refine pv_e_bk (ps := [(14, .aload_n 0, 1)]) (t' := (0, 0, 15, [some (.ref 0), some (.int x1)], [.ref 0], pv_mm s T)) (by decide +kernel) rfl ?_
      refine pv_e_gr (i := 39) (ci := 5) (j := 5) (b := 73) (pc' := 18) (by decide +kernel) rfl rfl rfl ?_
      refine pv_e_bk (ps := [(18, .iload_n 1, 1)]) (t' := (0, 0, 19, [some (.ref 0), some (.int x1)], [.int x1, .ref 73], pv_mm s T)) (by decide +kernel) rfl ?_
      obtain ⟨q6, e7, h⟩ := Option.bind_eq_some_iff.mp h
      refine pv_e_rc (pc' := 20) (by decide +kernel) (by decide) rfl e7 rfl ?_
      obtain rfl := Option.some.inj h
      exact hJ3
    · rw [if_neg c5] at h
      refine pv_e_bk (ps := [(10, .iconst (-1), 1), (11, .goto 9, 3)]) (t' := (0, 0, 20, [some (.ref 0), some (.int x1)], [.int (-1:Int32)], pv_mm s T)) (by decide +kernel) rfl ?_
      obtain rfl := Option.some.inj h
      exact hJ3
def f98_digest_b1 (s : pv_F) (st : Int64 × Int32) : Option ((Int64 × Int32) ⊕ (Int64 × Int32)) := match st with
  | (v1, v3) =>
    if (9:Int32) ≤ v3 then
      some (.inr (v1, v3))
    else
      (f95_count v3 s).bind fun q3 =>
      some (.inl (((31:Int64) * v1) + q3.toInt64, v3 + (1:Int32)))
def f98_digest_b1_H (xs : Nat → Int32) (L d : Nat) (r : Option Value × pv_M) (T : pv_T) (s : pv_F) (st : Int64 × Int32) : Prop := match st with
  | (v1, v3) => pv_Ev xs L (d + 4) 98 (0, 0, 6, [some (.ref 0), some (.long v1), none, some (.int v3)], [], pv_mm s T) r
def f98_digest_b1_X (xs : Nat → Int32) (L d : Nat) (r : Option Value × pv_M) (T : pv_T) (s : pv_F) (st : Int64 × Int32) : Prop := match st with
  | (v1, v3) => ∀ z3 : Option Value, pv_Ev xs L (d + 4) 98 (0, 0, 31, [some (.ref 0), some (.long v1), none, z3], [], pv_mm s T) r
def f98_digest_b2 (s : pv_F) (st : Int64 × Int32) : Option ((Int64 × Int32) ⊕ (Int64 × Int32)) := match st with
  | (v1, v3) =>
    if (6:Int32) ≤ v3 then
      some (.inr (v1, v3))
    else
      (pv_ra 1 6 v3).bind fun o9 =>
      (f31_mixedInto o9 v1 s).bind fun q13 =>
      some (.inl (q13, v3 + (1:Int32)))
def f98_digest_b2_H (xs : Nat → Int32) (L d : Nat) (r : Option Value × pv_M) (T : pv_T) (s : pv_F) (st : Int64 × Int32) : Prop := match st with
  | (v1, v3) => pv_Ev xs L (d + 4) 98 (0, 0, 66, [some (.ref 0), some (.long v1), none, some (.int v3)], [], pv_mm s T) r
def f98_digest_b2_X (xs : Nat → Int32) (L d : Nat) (r : Option Value × pv_M) (T : pv_T) (s : pv_F) (st : Int64 × Int32) : Prop := match st with
  | (v1, v3) => ∀ z3 : Option Value, pv_Ev xs L (d + 4) 98 (0, 0, 89, [some (.ref 0), some (.long v1), none, z3], [], pv_mm s T) r
def f98_digest_b3 (s : pv_F) (st : Int64 × Int32) : Option ((Int64 × Int32) ⊕ (Int64 × Int32)) := match st with
  | (v1, v3) =>
    if (4:Int32) ≤ v3 then
      some (.inr (v1, v3))
    else
      (pv_ra 2 4 v3).bind fun o17 =>
      (f31_mixedInto o17 v1 s).bind fun q21 =>
      some (.inl (q21, v3 + (1:Int32)))
def f98_digest_b3_H (xs : Nat → Int32) (L d : Nat) (r : Option Value × pv_M) (T : pv_T) (s : pv_F) (st : Int64 × Int32) : Prop := match st with
  | (v1, v3) => pv_Ev xs L (d + 4) 98 (0, 0, 91, [some (.ref 0), some (.long v1), none, some (.int v3)], [], pv_mm s T) r
def f98_digest_b3_X (xs : Nat → Int32) (L d : Nat) (r : Option Value × pv_M) (T : pv_T) (s : pv_F) (st : Int64 × Int32) : Prop := match st with
  | (v1, v3) => ∀ z3 : Option Value, pv_Ev xs L (d + 4) 98 (0, 0, 113, [some (.ref 0), some (.long v1), none, z3], [], pv_mm s T) r
def f98_digest (s : pv_F) : Option (Int64) :=
  (pv_lq (f98_digest_b1 s) 20000 ((17:Int64), (0:Int32))).bind fun (w4, w5) =>
  (f52_mixedInto (((31:Int64) * (((31:Int64) * w4) + ((s 0 6).toInt64))) + ((s 0 7).toInt64)) s).bind fun q7 =>
  (pv_lq (f98_digest_b2 s) 20000 (q7, (0:Int32))).bind fun (w14, w15) =>
  (pv_lq (f98_digest_b3 s) 20000 (w14, (0:Int32))).bind fun (w22, w23) =>
  some w22
theorem f98_digest_b1_ok {xs : Nat → Int32} {L d : Nat} {r : Option Value × pv_M} {T : pv_T} {s : pv_F} (st : Int64 × Int32) (o : (Int64 × Int32) ⊕ (Int64 × Int32)) (h : f98_digest_b1 s st = some o) (hK : pv_Kq (f98_digest_b1_H xs L d r T s) (f98_digest_b1_X xs L d r T s) o) : f98_digest_b1_H xs L d r T s st := by
  obtain ⟨v1, v3⟩ := st
  show pv_Ev xs L (d + 4) 98 (0, 0, 6, [some (.ref 0), some (.long v1), none, some (.int v3)], [], pv_mm s T) r
  unfold f98_digest_b1 at h
  dsimp only at h
  refine pv_e_bk (ps := [(6, .iload_n 3, 1), (7, .bipush 9, 2)]) (t' := (0, 0, 9, [some (.ref 0), some (.long v1), none, some (.int v3)], [.int (9:Int32), .int v3], pv_mm s T)) (by decide +kernel) rfl ?_
  refine pv_e_icmpge (off := 22) (b := 31) (pc' := 12) (by decide +kernel) (by decide +kernel) rfl (fun c1 => ?_) (fun c1 => ?_)
  · rw [if_pos c1] at h
    obtain rfl := Option.some.inj h
    exact hK _
  · rw [if_neg c1] at h
    refine pv_e_bk (ps := [(12, .ldc2_w 321, 3), (15, .lload_n 1, 1), (16, .lmul, 1), (17, .aload_n 0, 1), (18, .iload_n 3, 1)]) (t' := (0, 0, 19, [some (.ref 0), some (.long v1), none, some (.int v3)], [.int v3, .ref 0, .long ((31:Int64) * v1)], pv_mm s T)) (by decide +kernel) rfl ?_
    obtain ⟨q3, e2, h⟩ := Option.bind_eq_some_iff.mp h
    refine pv_e_cvi (d := d + 3) (i := 323) (z := 95) (np := 1) (ml := 2) (ci := 5) (As := [.int v3]) (rs := [.long ((31:Int64) * v1)]) (pc' := 22) (by decide +kernel) rfl rfl rfl rfl (Nat.le_of_ble_eq_true rfl) (Nat.le_of_ble_eq_true rfl) rfl (ee95 (d + 0) v3 e2) ?_
    refine pv_e_bk (ps := [(22, .i2l, 1), (23, .ladd, 1), (24, .lstore_n 1, 1), (25, .iinc 3 1, 3), (28, .goto (-22), 3)]) (t' := (0, 0, 6, [some (.ref 0), some (.long (((31:Int64) * v1) + q3.toInt64)), none, some (.int (v3 + (1:Int32)))], [], pv_mm s T)) (by decide +kernel) rfl ?_
    obtain rfl := Option.some.inj h
    exact hK
theorem f98_digest_b2_ok {xs : Nat → Int32} {L d : Nat} {r : Option Value × pv_M} {T : pv_T} {s : pv_F} (st : Int64 × Int32) (o : (Int64 × Int32) ⊕ (Int64 × Int32)) (h : f98_digest_b2 s st = some o) (hK : pv_Kq (f98_digest_b2_H xs L d r T s) (f98_digest_b2_X xs L d r T s) o) : f98_digest_b2_H xs L d r T s st := by
  obtain ⟨v1, v3⟩ := st
  show pv_Ev xs L (d + 4) 98 (0, 0, 66, [some (.ref 0), some (.long v1), none, some (.int v3)], [], pv_mm s T) r
  unfold f98_digest_b2 at h
  dsimp only at h
  refine pv_e_bk (ps := [(66, .iload_n 3, 1), (67, .bipush 6, 2)]) (t' := (0, 0, 69, [some (.ref 0), some (.long v1), none, some (.int v3)], [.int (6:Int32), .int v3], pv_mm s T)) (by decide +kernel) rfl ?_
  refine pv_e_icmpge (off := 20) (b := 89) (pc' := 72) (by decide +kernel) (by decide +kernel) rfl (fun c8 => ?_) (fun c8 => ?_)
  · rw [if_pos c8] at h
    obtain rfl := Option.some.inj h
    exact hK _
  · rw [if_neg c8] at h
    refine pv_e_bk (ps := [(72, .aload_n 0, 1)]) (t' := (0, 0, 73, [some (.ref 0), some (.long v1), none, some (.int v3)], [.ref 0], pv_mm s T)) (by decide +kernel) rfl ?_
    refine pv_e_gr (i := 11) (ci := 5) (j := 0) (b := 1) (pc' := 76) (by decide +kernel) rfl rfl rfl ?_
    refine pv_e_bk (ps := [(76, .iload_n 3, 1)]) (t' := (0, 0, 77, [some (.ref 0), some (.long v1), none, some (.int v3)], [.int v3, .ref 1], pv_mm s T)) (by decide +kernel) rfl ?_
    obtain ⟨o9, e10, h⟩ := Option.bind_eq_some_iff.mp h
    have g11 := ra_rows e10
    refine pv_e_ra (zz := 6) (pc' := 78) (by decide +kernel) rfl (by decide) e10 rfl ?_
    refine pv_e_bk (ps := [(78, .lload_n 1, 1)]) (t' := (0, 0, 79, [some (.ref 0), some (.long v1), none, some (.int v3)], [.long v1, .ref o9], pv_mm s T)) (by decide +kernel) rfl ?_
    obtain ⟨q13, e12, h⟩ := Option.bind_eq_some_iff.mp h
    refine pv_e_cvl (d := d + 3) (i := 330) (z := 31) (np := 1) (ml := 6) (ci := 2) (As := [.long v1]) (rs := []) (pc' := 82) (by decide +kernel) (rw_ g11).1 rfl rfl rfl (Nat.le_of_ble_eq_true rfl) (Nat.le_of_ble_eq_true rfl) rfl (ee31 (d + 3) o9 v1 g11 e12) ?_
    refine pv_e_bk (ps := [(82, .lstore_n 1, 1), (83, .iinc 3 1, 3), (86, .goto (-20), 3)]) (t' := (0, 0, 66, [some (.ref 0), some (.long q13), none, some (.int (v3 + (1:Int32)))], [], pv_mm s T)) (by decide +kernel) rfl ?_
    obtain rfl := Option.some.inj h
    exact hK
theorem f98_digest_b3_ok {xs : Nat → Int32} {L d : Nat} {r : Option Value × pv_M} {T : pv_T} {s : pv_F} (st : Int64 × Int32) (o : (Int64 × Int32) ⊕ (Int64 × Int32)) (h : f98_digest_b3 s st = some o) (hK : pv_Kq (f98_digest_b3_H xs L d r T s) (f98_digest_b3_X xs L d r T s) o) : f98_digest_b3_H xs L d r T s st := by
  obtain ⟨v1, v3⟩ := st
  show pv_Ev xs L (d + 4) 98 (0, 0, 91, [some (.ref 0), some (.long v1), none, some (.int v3)], [], pv_mm s T) r
  unfold f98_digest_b3 at h
  dsimp only at h
  refine pv_e_bk (ps := [(91, .iload_n 3, 1), (92, .iconst 4, 1)]) (t' := (0, 0, 93, [some (.ref 0), some (.long v1), none, some (.int v3)], [.int (4:Int32), .int v3], pv_mm s T)) (by decide +kernel) rfl ?_
  refine pv_e_icmpge (off := 20) (b := 113) (pc' := 96) (by decide +kernel) (by decide +kernel) rfl (fun c16 => ?_) (fun c16 => ?_)
  · rw [if_pos c16] at h
    obtain rfl := Option.some.inj h
    exact hK _
  · rw [if_neg c16] at h
    refine pv_e_bk (ps := [(96, .aload_n 0, 1)]) (t' := (0, 0, 97, [some (.ref 0), some (.long v1), none, some (.int v3)], [.ref 0], pv_mm s T)) (by decide +kernel) rfl ?_
    refine pv_e_gr (i := 15) (ci := 5) (j := 1) (b := 2) (pc' := 100) (by decide +kernel) rfl rfl rfl ?_
    refine pv_e_bk (ps := [(100, .iload_n 3, 1)]) (t' := (0, 0, 101, [some (.ref 0), some (.long v1), none, some (.int v3)], [.int v3, .ref 2], pv_mm s T)) (by decide +kernel) rfl ?_
    obtain ⟨o17, e18, h⟩ := Option.bind_eq_some_iff.mp h
    have g19 := ra_texts e18
    refine pv_e_ra (zz := 4) (pc' := 102) (by decide +kernel) rfl (by decide) e18 rfl ?_
    refine pv_e_bk (ps := [(102, .lload_n 1, 1)]) (t' := (0, 0, 103, [some (.ref 0), some (.long v1), none, some (.int v3)], [.long v1, .ref o17], pv_mm s T)) (by decide +kernel) rfl ?_
    obtain ⟨q21, e20, h⟩ := Option.bind_eq_some_iff.mp h
    refine pv_e_cvl (d := d + 3) (i := 330) (z := 31) (np := 1) (ml := 6) (ci := 2) (As := [.long v1]) (rs := []) (pc' := 106) (by decide +kernel) (rw_ g19).1 rfl rfl rfl (Nat.le_of_ble_eq_true rfl) (Nat.le_of_ble_eq_true rfl) rfl (ee31 (d + 3) o17 v1 g19 e20) ?_
    refine pv_e_bk (ps := [(106, .lstore_n 1, 1), (107, .iinc 3 1, 3), (110, .goto (-19), 3)]) (t' := (0, 0, 91, [some (.ref 0), some (.long q21), none, some (.int (v3 + (1:Int32)))], [], pv_mm s T)) (by decide +kernel) rfl ?_
    obtain rfl := Option.some.inj h
    exact hK
theorem ee98 {xs : Nat → Int32} {L : Nat} (d : Nat)  {s : pv_F} {T : pv_T} {q : Int64}  (h : f98_digest s = some q) : pv_Ev xs L (d + 4) 98 (0, 0, 0, [some (.ref 0), none, none, none], [], pv_mm s T) (some (.long q), pv_mm s T) := by
  generalize hr : ((some (.long q), pv_mm s T) : Option Value × pv_M) = r
  unfold f98_digest at h
  refine pv_e_bk (ps := [(0, .ldc2_w 319, 3), (3, .lstore_n 1, 1), (4, .iconst 0, 1), (5, .istore_n 3, 1)]) (t' := (0, 0, 6, [some (.ref 0), some (.long (17:Int64)), none, some (.int (0:Int32))], [], pv_mm s T)) (by decide +kernel) rfl ?_
  obtain ⟨⟨w4, w5⟩, e29, h⟩ := Option.bind_eq_some_iff.mp h
  dsimp only at h
  have hx28 : f98_digest_b1_X xs L d r T s (w4, w5) := by
    show ∀ z3 : Option Value, pv_Ev xs L (d + 4) 98 (0, 0, 31, [some (.ref 0), some (.long w4), none, z3], [], pv_mm s T) r
    intro z3
    refine pv_e_bk (ps := [(31, .ldc2_w 321, 3), (34, .lload_n 1, 1), (35, .lmul, 1), (36, .aload_n 0, 1)]) (t' := (0, 0, 37, [some (.ref 0), some (.long w4), none, z3], [.ref 0, .long ((31:Int64) * w4)], pv_mm s T)) (by decide +kernel) rfl ?_
    refine pv_e_gc (i := 43) (ci := 5) (j := 6) (pc' := 40) (by decide +kernel) (by decide) rfl rfl rfl ?_
    refine pv_e_bk (ps := [(40, .i2l, 1), (41, .ladd, 1), (42, .lstore_n 1, 1), (43, .ldc2_w 321, 3), (46, .lload_n 1, 1), (47, .lmul, 1), (48, .aload_n 0, 1)]) (t' := (0, 0, 49, [some (.ref 0), some (.long (((31:Int64) * w4) + ((s 0 6).toInt64))), none, z3], [.ref 0, .long ((31:Int64) * (((31:Int64) * w4) + ((s 0 6).toInt64)))], pv_mm s T)) (by decide +kernel) rfl ?_
    refine pv_e_gc (i := 47) (ci := 5) (j := 7) (pc' := 52) (by decide +kernel) (by decide) rfl rfl rfl ?_
    refine pv_e_bk (ps := [(52, .i2l, 1), (53, .ladd, 1), (54, .lstore_n 1, 1), (55, .aload_n 0, 1)]) (t' := (0, 0, 56, [some (.ref 0), some (.long (((31:Int64) * (((31:Int64) * w4) + ((s 0 6).toInt64))) + ((s 0 7).toInt64))), none, z3], [.ref 0], pv_mm s T)) (by decide +kernel) rfl ?_
    refine pv_e_gr (i := 21) (ci := 5) (j := 2) (b := 3) (pc' := 59) (by decide +kernel) rfl rfl rfl ?_
    refine pv_e_bk (ps := [(59, .lload_n 1, 1)]) (t' := (0, 0, 60, [some (.ref 0), some (.long (((31:Int64) * (((31:Int64) * w4) + ((s 0 6).toInt64))) + ((s 0 7).toInt64))), none, z3], [.long (((31:Int64) * (((31:Int64) * w4) + ((s 0 6).toInt64))) + ((s 0 7).toInt64)), .ref 3], pv_mm s T)) (by decide +kernel) rfl ?_
    obtain ⟨q7, e6, h⟩ := Option.bind_eq_some_iff.mp h
    refine pv_e_cvl (d := d + 3) (i := 326) (z := 52) (np := 1) (ml := 7) (ci := 4) (As := [.long (((31:Int64) * (((31:Int64) * w4) + ((s 0 6).toInt64))) + ((s 0 7).toInt64))]) (rs := []) (pc' := 63) (by decide +kernel) rfl rfl rfl rfl (Nat.le_of_ble_eq_true rfl) (Nat.le_of_ble_eq_true rfl) rfl (ee52 (d + 1) (((31:Int64) * (((31:Int64) * w4) + ((s 0 6).toInt64))) + ((s 0 7).toInt64)) e6) ?_
    refine pv_e_bk (ps := [(63, .lstore_n 1, 1), (64, .iconst 0, 1), (65, .istore_n 3, 1)]) (t' := (0, 0, 66, [some (.ref 0), some (.long q7), none, some (.int (0:Int32))], [], pv_mm s T)) (by decide +kernel) rfl ?_
    obtain ⟨⟨w14, w15⟩, e27, h⟩ := Option.bind_eq_some_iff.mp h
    dsimp only at h
    have hx26 : f98_digest_b2_X xs L d r T s (w14, w15) := by
      show ∀ z3 : Option Value, pv_Ev xs L (d + 4) 98 (0, 0, 89, [some (.ref 0), some (.long w14), none, z3], [], pv_mm s T) r
      intro z3
      refine pv_e_bk (ps := [(89, .iconst 0, 1), (90, .istore_n 3, 1)]) (t' := (0, 0, 91, [some (.ref 0), some (.long w14), none, some (.int (0:Int32))], [], pv_mm s T)) (by decide +kernel) rfl ?_
      obtain ⟨⟨w22, w23⟩, e25, h⟩ := Option.bind_eq_some_iff.mp h
      dsimp only at h
      have hx24 : f98_digest_b3_X xs L d r T s (w22, w23) := by
        show ∀ z3 : Option Value, pv_Ev xs L (d + 4) 98 (0, 0, 113, [some (.ref 0), some (.long w22), none, z3], [], pv_mm s T) r
        intro z3
        refine pv_e_bk (ps := [(113, .lload_n 1, 1)]) (t' := (0, 0, 114, [some (.ref 0), some (.long w22), none, z3], [.long w22], pv_mm s T)) (by decide +kernel) rfl ?_
        obtain rfl := Option.some.inj h
        cases hr
        exact pv_e_rl (by decide +kernel)
      exact pv_lq_ok (H := f98_digest_b3_H xs L d r T s) (X := f98_digest_b3_X xs L d r T s) (f98_digest_b3_ok (xs := xs) (L := L) (d := d) (r := r) (T := T) (s := s)) 20000 _ _ e25 hx24
    exact pv_lq_ok (H := f98_digest_b2_H xs L d r T s) (X := f98_digest_b2_X xs L d r T s) (f98_digest_b2_ok (xs := xs) (L := L) (d := d) (r := r) (T := T) (s := s)) 20000 _ _ e27 hx26
  exact pv_lq_ok (H := f98_digest_b1_H xs L d r T s) (X := f98_digest_b1_X xs L d r T s) (f98_digest_b1_ok (xs := xs) (L := L) (d := d) (r := r) (T := T) (s := s)) 20000 _ _ e29 hx28
