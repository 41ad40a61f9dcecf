-- printed by wip/whole/gen/parts.py: methods as functions over the ints of the memory, and that the pure machine runs so
def f130_mean_b1 (v1 : Int32) (T : pv_T) (st : Int64 × Int32) : Option ((Int64 × Int32) ⊕ (Int64 × Int32)) := match st with
  | (v3, v5) =>
    (pv_rd T.1 96 6 v1).bind fun q5 =>
    if q5 ≤ v5 then
      some (.inr (v3, v5))
    else
      (f123_rowAt v1 v5 T).bind fun q9 =>
      some (.inl (v3 + q9.toInt64, v5 + (1:Int32)))
def f130_mean_b1_H (xs : Nat → Int32) (L d : Nat) (r : Option Value × pv_M) (s : pv_F) (v1 : Int32) (T : pv_T) (v2 : Int32) (st : Int64 × Int32) : Prop := match st with
  | (v3, v5) => pv_Ev xs L (d + 3) 130 (0, 0, 17, [some (.ref 94), some (.int v1), some (.int v2), some (.long v3), none, some (.int v5)], [], pv_mm s T) r
def f130_mean_b1_X (xs : Nat → Int32) (L d : Nat) (r : Option Value × pv_M) (s : pv_F) (v1 : Int32) (T : pv_T) (v2 : Int32) (st : Int64 × Int32) : Prop := match st with
  | (v3, v5) => ∀ z5 : Option Value, pv_Ev xs L (d + 3) 130 (0, 0, 45, [some (.ref 94), some (.int v1), some (.int v2), some (.long v3), none, z5], [], pv_mm s T) r
def f130_mean (x1 : Int32) (T : pv_T) : Option (Int32 × pv_T) :=
  (f121_askedRow x1 T).bind fun (q2, T3) =>
  if 0 ≤ q2 then
    (pv_lq (f130_mean_b1 x1 T3) 20000 ((0:Int64), (0:Int32))).bind fun (w10, w11) =>
    (pv_rd T3.1 96 6 x1).bind fun q12 =>
    ((
      if q12 = 0 then
        (f115_meet (4:Int32) T3).bind fun (q20, T21) =>
        some (q20, T21)
      else
        (pv_rd T3.1 96 6 x1).bind fun q22 =>
        (pv_ldv w10 q22.toInt64).bind fun q24 =>
        (f116_ask q24.toInt32 (1:Int32) T3).bind fun (q27, T28) =>
        some (q27, T28)) : Option (Int32 × pv_T)).bind fun (t14, T15) =>
    some (t14, T15)
  else
    some (q2, T3)
theorem f130_mean_b1_ok {xs : Nat → Int32} {L d : Nat} {r : Option Value × pv_M} {s : pv_F} {v1 : Int32} {T : pv_T} {v2 : Int32} (st : Int64 × Int32) (o : (Int64 × Int32) ⊕ (Int64 × Int32)) (h : f130_mean_b1 v1 T st = some o) (hK : pv_Kq (f130_mean_b1_H xs L d r s v1 T v2) (f130_mean_b1_X xs L d r s v1 T v2) o) : f130_mean_b1_H xs L d r s v1 T v2 st := by
  obtain ⟨v3, v5⟩ := st
  show pv_Ev xs L (d + 3) 130 (0, 0, 17, [some (.ref 94), some (.int v1), some (.int v2), some (.long v3), none, some (.int v5)], [], pv_mm s T) r
  unfold f130_mean_b1 at h
  dsimp only at h
  refine pv_e_bk (ps := [(17, .iload 5, 2), (19, .aload_n 0, 1)]) (t' := (0, 0, 20, [some (.ref 94), some (.int v1), some (.int v2), some (.long v3), none, some (.int v5)], [.ref 94, .int v5], pv_mm s T)) (by decide +kernel) rfl ?_
  refine pv_e_gr (i := 13) (ci := 6) (j := 3) (b := 96) (pc' := 23) (by decide +kernel) rfl rfl rfl ?_
  refine pv_e_bk (ps := [(23, .iload_n 1, 1)]) (t' := (0, 0, 24, [some (.ref 94), some (.int v1), some (.int v2), some (.long v3), none, some (.int v5)], [.int v1, .ref 96, .int v5], pv_mm s T)) (by decide +kernel) rfl ?_
  obtain ⟨q5, e6, h⟩ := Option.bind_eq_some_iff.mp h
  refine pv_e_rm (pc' := 25) (by decide +kernel) (by decide) rfl e6 rfl ?_
  refine pv_e_icmpge (off := 20) (b := 45) (pc' := 28) (by decide +kernel) (by decide +kernel) rfl (fun c7 => ?_) (fun c7 => ?_)
  · rw [if_pos c7] at h
    obtain rfl := Option.some.inj h
    exact hK _
  · rw [if_neg c7] at h
    refine pv_e_bk (ps := [(28, .lload_n 3, 1), (29, .aload_n 0, 1), (30, .iload_n 1, 1), (31, .iload 5, 2)]) (t' := (0, 0, 33, [some (.ref 94), some (.int v1), some (.int v2), some (.long v3), none, some (.int v5)], [.int v5, .int v1, .ref 94, .long v3], pv_mm s T)) (by decide +kernel) rfl ?_
    obtain ⟨q9, e8, h⟩ := Option.bind_eq_some_iff.mp h
    refine pv_e_cvi (d := d + 2) (i := 105) (z := 123) (np := 2) (ml := 3) (ci := 6) (As := [.int v1, .int v5]) (rs := [.long v3]) (pc' := 36) (by decide +kernel) rfl rfl rfl rfl (Nat.le_of_ble_eq_true rfl) (Nat.le_of_ble_eq_true rfl) rfl (ee123 (d + 2) v1 v5 e8) ?_
    refine pv_e_bk (ps := [(36, .i2l, 1), (37, .ladd, 1), (38, .lstore_n 3, 1), (39, .iinc 5 1, 3), (42, .goto (-25), 3)]) (t' := (0, 0, 17, [some (.ref 94), some (.int v1), some (.int v2), some (.long (v3 + q9.toInt64)), none, some (.int (v5 + (1:Int32)))], [], pv_mm s T)) (by decide +kernel) rfl ?_
    obtain rfl := Option.some.inj h
    exact hK
theorem ee130 {xs : Nat → Int32} {L : Nat} (d : Nat) (x1 : Int32) {s : pv_F} {T : pv_T} {q : Int32 × pv_T}  (h : f130_mean x1 T = some q) : pv_Ev xs L (d + 3) 130 (0, 0, 0, [some (.ref 94), some (.int x1), none, none, none, none], [], pv_mm s T) (some (.int q.1), pv_mm s q.2) := by
  generalize hr : ((some (.int q.1), pv_mm s q.2) : Option Value × pv_M) = r
  unfold f130_mean at h
  refine pv_e_bk (ps := [(0, .aload_n 0, 1), (1, .iload_n 1, 1)]) (t' := (0, 0, 2, [some (.ref 94), some (.int x1), none, none, none, none], [.int x1, .ref 94], pv_mm s T)) (by decide +kernel) rfl ?_
  obtain ⟨⟨q2, T3⟩, e1, h⟩ := Option.bind_eq_some_iff.mp h
  dsimp only at h
  refine pv_e_cvi (d := d + 2) (i := 102) (z := 121) (np := 1) (ml := 2) (ci := 6) (As := [.int x1]) (rs := []) (pc' := 5) (by decide +kernel) rfl rfl rfl rfl (Nat.le_of_ble_eq_true rfl) (Nat.le_of_ble_eq_true rfl) rfl (ee121 (d + 0) x1 e1) ?_
  refine pv_e_bk (ps := [(5, .istore_n 2, 1), (6, .iload_n 2, 1)]) (t' := (0, 0, 7, [some (.ref 94), some (.int x1), some (.int q2), none, none, none], [.int q2], pv_mm s T3)) (by decide +kernel) rfl ?_
  refine pv_e_ifge (off := 5) (b := 12) (pc' := 10) (by decide +kernel) (by decide +kernel) rfl (fun c4 => ?_) (fun c4 => ?_)
  · rw [if_pos c4] at h
    refine pv_e_bk (ps := [(12, .lconst 0, 1), (13, .lstore_n 3, 1), (14, .iconst 0, 1), (15, .istore 5, 2)]) (t' := (0, 0, 17, [some (.ref 94), some (.int x1), some (.int q2), some (.long (0:Int64)), none, some (.int (0:Int32))], [], pv_mm s T3)) (by decide +kernel) rfl ?_
    obtain ⟨⟨w10, w11⟩, e30, h⟩ := Option.bind_eq_some_iff.mp h
    dsimp only at h
    have hx29 : f130_mean_b1_X xs L d r s x1 T3 q2 (w10, w11) := by
      show ∀ z5 : Option Value, pv_Ev xs L (d + 3) 130 (0, 0, 45, [some (.ref 94), some (.int x1), some (.int q2), some (.long w10), none, z5], [], pv_mm s T3) r
      intro z5
      refine pv_e_bk (ps := [(45, .aload_n 0, 1)]) (t' := (0, 0, 46, [some (.ref 94), some (.int x1), some (.int q2), some (.long w10), none, z5], [.ref 94], pv_mm s T3)) (by decide +kernel) rfl ?_
      refine pv_e_gr (i := 13) (ci := 6) (j := 3) (b := 96) (pc' := 49) (by decide +kernel) rfl rfl rfl ?_
      refine pv_e_bk (ps := [(49, .iload_n 1, 1)]) (t' := (0, 0, 50, [some (.ref 94), some (.int x1), some (.int q2), some (.long w10), none, z5], [.int x1, .ref 96], pv_mm s T3)) (by decide +kernel) rfl ?_
      obtain ⟨q12, e13, h⟩ := Option.bind_eq_some_iff.mp h
      refine pv_e_rm (pc' := 51) (by decide +kernel) (by decide) rfl e13 rfl ?_
      obtain ⟨⟨t14, T15⟩, hv16, h⟩ := Option.bind_eq_some_iff.mp h
      dsimp only at h
      have hJ17 : pv_Ev xs L (d + 3) 130 (0, 0, 77, [some (.ref 94), some (.int x1), some (.int q2), some (.long w10), none, z5], [.int t14], pv_mm s T15) r := by
        obtain rfl := Option.some.inj h
        cases hr
        exact pv_e_ri (by decide +kernel)
      clear h
      have h := hv16
      clear hv16
      refine pv_e_ifne (off := 11) (b := 62) (pc' := 54) (by decide +kernel) (by decide +kernel) rfl (fun c18 => ?_) (fun c18 => ?_)
      · rw [if_pos c18] at h
        refine pv_e_bk (ps := [(54, .aload_n 0, 1), (55, .iconst 4, 1)]) (t' := (0, 0, 56, [some (.ref 94), some (.int x1), some (.int q2), some (.long w10), none, z5], [.int (4:Int32), .ref 94], pv_mm s T3)) (by decide +kernel) rfl ?_
        obtain ⟨⟨q20, T21⟩, e19, h⟩ := Option.bind_eq_some_iff.mp h
        dsimp only at h
        refine pv_e_cvi (d := d + 2) (i := 91) (z := 115) (np := 1) (ml := 2) (ci := 6) (As := [.int (4:Int32)]) (rs := []) (pc' := 59) (by decide +kernel) rfl rfl rfl rfl (Nat.le_of_ble_eq_true rfl) (Nat.le_of_ble_eq_true rfl) rfl (ee115 (d + 2) (4:Int32) e19) ?_
        refine pv_e_bk (ps := [(59, .goto 18, 3)]) (t' := (0, 0, 77, [some (.ref 94), some (.int x1), some (.int q2), some (.long w10), none, z5], [.int q20], pv_mm s T21)) (by decide +kernel) rfl ?_
        cases h
        exact hJ17
      · rw [if_neg c18] at h
        refine pv_e_bk (ps := [(62, .aload_n 0, 1), (63, .lload_n 3, 1), (64, .aload_n 0, 1)]) (t' := (0, 0, 65, [some (.ref 94), some (.int x1), some (.int q2), some (.long w10), none, z5], [.ref 94, .long w10, .ref 94], pv_mm s T3)) (by decide +kernel) rfl ?_
        refine pv_e_gr (i := 13) (ci := 6) (j := 3) (b := 96) (pc' := 68) (by decide +kernel) rfl rfl rfl ?_
        refine pv_e_bk (ps := [(68, .iload_n 1, 1)]) (t' := (0, 0, 69, [some (.ref 94), some (.int x1), some (.int q2), some (.long w10), none, z5], [.int x1, .ref 96, .long w10, .ref 94], pv_mm s T3)) (by decide +kernel) rfl ?_
        obtain ⟨q22, e23, h⟩ := Option.bind_eq_some_iff.mp h
        refine pv_e_rm (pc' := 70) (by decide +kernel) (by decide) rfl e23 rfl ?_
        refine pv_e_bk (ps := [(70, .i2l, 1)]) (t' := (0, 0, 71, [some (.ref 94), some (.int x1), some (.int q2), some (.long w10), none, z5], [.long q22.toInt64, .long w10, .ref 94], pv_mm s T3)) (by decide +kernel) rfl ?_
        obtain ⟨q24, e25, h⟩ := Option.bind_eq_some_iff.mp h
        refine pv_e_ldv (pc' := 72) (by decide +kernel) e25 rfl ?_
        refine pv_e_bk (ps := [(72, .l2i, 1), (73, .iconst 1, 1)]) (t' := (0, 0, 74, [some (.ref 94), some (.int x1), some (.int q2), some (.long w10), none, z5], [.int (1:Int32), .int q24.toInt32, .ref 94], pv_mm s T3)) (by decide +kernel) rfl ?_
        obtain ⟨⟨q27, T28⟩, e26, h⟩ := Option.bind_eq_some_iff.mp h
        dsimp only at h
        refine pv_e_cvi (d := d + 2) (i := 109) (z := 116) (np := 2) (ml := 3) (ci := 6) (As := [.int q24.toInt32, .int (1:Int32)]) (rs := []) (pc' := 77) (by decide +kernel) rfl rfl rfl rfl (Nat.le_of_ble_eq_true rfl) (Nat.le_of_ble_eq_true rfl) rfl (ee116 (d + 2) q24.toInt32 (1:Int32) e26) ?_
        cases h
        exact hJ17
    exact pv_lq_ok (H := f130_mean_b1_H xs L d r s x1 T3 q2) (X := f130_mean_b1_X xs L d r s x1 T3 q2) (f130_mean_b1_ok (xs := xs) (L := L) (d := d) (r := r) (s := s) (v1 := x1) (T := T3) (v2 := q2)) 20000 _ _ e30 hx29
  · rw [if_neg c4] at h
    refine pv_e_bk (ps := [(10, .iload_n 2, 1)]) (t' := (0, 0, 11, [some (.ref 94), some (.int x1), some (.int q2), none, none, none], [.int q2], pv_mm s T3)) (by decide +kernel) rfl ?_
    obtain rfl := Option.some.inj h
    cases hr
    exact pv_e_ri (by decide +kernel)
def f131_text_b1 (v1 : Int32) (v2 : Int32) (st : Int32 × pv_T) : Option ((Int32 × pv_T) ⊕ (Int32 × pv_T)) := match st with
  | (v3, T) =>
    if (80:Int32) ≤ v3 then
      some (.inr (v3, T))
    else
      (pv_wm T 100 320 (((80:Int32) * v1) + v3) (32:Int32)).bind fun T9 =>
      some (.inl (v3 + (1:Int32), T9))
def f131_text_b1_H (xs : Nat → Int32) (L d : Nat) (r : Option Value × pv_M) (s : pv_F) (v1 : Int32) (v2 : Int32) (st : Int32 × pv_T) : Prop := match st with
  | (v3, T) => pv_Ev xs L (d + 2) 131 (0, 0, 34, [some (.ref 94), some (.int v1), some (.int v2), some (.int v3)], [], pv_mm s T) r
def f131_text_b1_X (xs : Nat → Int32) (L d : Nat) (r : Option Value × pv_M) (s : pv_F) (v1 : Int32) (v2 : Int32) (st : Int32 × pv_T) : Prop := match st with
  | (v3, T) => ∀ z3 : Option Value, pv_Ev xs L (d + 2) 131 (0, 0, 59, [some (.ref 94), some (.int v1), some (.int v2), z3], [], pv_mm s T) r
def f131_text (x1 : Int32) (x2 : Int32) (T : pv_T) : Option (Int32 × pv_T) :=
  (f120_isText x1).bind fun q2 =>
  if q2 = 0 then
    some ((-1:Int32), T)
  else
    if x2 ≤ (80:Int32) then
      if 0 ≤ x2 then
        (pv_wm T 99 4 x1 x2).bind fun T6 =>
        (pv_lq (f131_text_b1 x1 x2) 20000 ((0:Int32), T6)).bind fun (w11, T12) =>
        some (x2, T12)
      else
        (f115_meet (5:Int32) T).bind fun (q16, T17) =>
        some (q16, T17)
    else
      some ((-1:Int32), T)
theorem f131_text_b1_ok {xs : Nat → Int32} {L d : Nat} {r : Option Value × pv_M} {s : pv_F} {v1 : Int32} {v2 : Int32} (st : Int32 × pv_T) (o : (Int32 × pv_T) ⊕ (Int32 × pv_T)) (h : f131_text_b1 v1 v2 st = some o) (hK : pv_Kq (f131_text_b1_H xs L d r s v1 v2) (f131_text_b1_X xs L d r s v1 v2) o) : f131_text_b1_H xs L d r s v1 v2 st := by
  obtain ⟨v3, T⟩ := st
  show pv_Ev xs L (d + 2) 131 (0, 0, 34, [some (.ref 94), some (.int v1), some (.int v2), some (.int v3)], [], pv_mm s T) r
  unfold f131_text_b1 at h
  dsimp only at h
  refine pv_e_bk (ps := [(34, .iload_n 3, 1), (35, .bipush 80, 2)]) (t' := (0, 0, 37, [some (.ref 94), some (.int v1), some (.int v2), some (.int v3)], [.int (80:Int32), .int v3], pv_mm s T)) (by decide +kernel) rfl ?_
  refine pv_e_icmpge (off := 22) (b := 59) (pc' := 40) (by decide +kernel) (by decide +kernel) rfl (fun c8 => ?_) (fun c8 => ?_)
  · rw [if_pos c8] at h
    obtain rfl := Option.some.inj h
    exact hK _
  · rw [if_neg c8] at h
    refine pv_e_bk (ps := [(40, .aload_n 0, 1)]) (t' := (0, 0, 41, [some (.ref 94), some (.int v1), some (.int v2), some (.int v3)], [.ref 94], pv_mm s T)) (by decide +kernel) rfl ?_
    refine pv_e_gr (i := 25) (ci := 6) (j := 7) (b := 100) (pc' := 44) (by decide +kernel) rfl rfl rfl ?_
    refine pv_e_bk (ps := [(44, .bipush 80, 2), (46, .iload_n 1, 1), (47, .imul, 1), (48, .iload_n 3, 1), (49, .iadd, 1), (50, .bipush 32, 2)]) (t' := (0, 0, 52, [some (.ref 94), some (.int v1), some (.int v2), some (.int v3)], [.int (32:Int32), .int (((80:Int32) * v1) + v3), .ref 100], pv_mm s T)) (by decide +kernel) rfl ?_
    obtain ⟨T9, e10, h⟩ := Option.bind_eq_some_iff.mp h
    refine pv_e_wm (pc' := 53) (by decide +kernel) (by decide) rfl e10 rfl ?_
    refine pv_e_bk (ps := [(53, .iinc 3 1, 3), (56, .goto (-22), 3)]) (t' := (0, 0, 34, [some (.ref 94), some (.int v1), some (.int v2), some (.int (v3 + (1:Int32)))], [], pv_mm s T9)) (by decide +kernel) rfl ?_
    obtain rfl := Option.some.inj h
    exact hK
theorem ee131 {xs : Nat → Int32} {L : Nat} (d : Nat) (x1 : Int32) (x2 : Int32) {s : pv_F} {T : pv_T} {q : Int32 × pv_T}  (h : f131_text x1 x2 T = some q) : pv_Ev xs L (d + 2) 131 (0, 0, 0, [some (.ref 94), some (.int x1), some (.int x2), none], [], pv_mm s T) (some (.int q.1), pv_mm s q.2) := by
  generalize hr : ((some (.int q.1), pv_mm s q.2) : Option Value × pv_M) = r
  unfold f131_text at h
  refine pv_e_bk (ps := [(0, .iload_n 1, 1)]) (t' := (0, 0, 1, [some (.ref 94), some (.int x1), some (.int x2), none], [.int x1], pv_mm s T)) (by decide +kernel) rfl ?_
  obtain ⟨q2, e1, h⟩ := Option.bind_eq_some_iff.mp h
  refine pv_e_csi (d := d + 1) (i := 95) (z := 120) (np := 1) (ml := 1) (As := [.int x1]) (rs := []) (pc' := 4) (by decide +kernel) rfl rfl rfl (Nat.le_of_ble_eq_true rfl) (Nat.le_of_ble_eq_true rfl) rfl (ee120 (d + 0) x1 e1) ?_
  refine pv_e_ifeq (off := 9) (b := 13) (pc' := 7) (by decide +kernel) (by decide +kernel) rfl (fun c3 => ?_) (fun c3 => ?_)
  · rw [if_pos c3] at h
    refine pv_e_bk (ps := [(13, .iconst (-1), 1)]) (t' := (0, 0, 14, [some (.ref 94), some (.int x1), some (.int x2), none], [.int (-1:Int32)], pv_mm s T)) (by decide +kernel) rfl ?_
    obtain rfl := Option.some.inj h
    cases hr
    exact pv_e_ri (by decide +kernel)
  · rw [if_neg c3] at h
    refine pv_e_bk (ps := [(7, .iload_n 2, 1), (8, .bipush 80, 2)]) (t' := (0, 0, 10, [some (.ref 94), some (.int x1), some (.int x2), none], [.int (80:Int32), .int x2], pv_mm s T)) (by decide +kernel) rfl ?_
    refine pv_e_icmple (off := 5) (b := 15) (pc' := 13) (by decide +kernel) (by decide +kernel) rfl (fun c4 => ?_) (fun c4 => ?_)
    · rw [if_pos c4] at h
      refine pv_e_bk (ps := [(15, .iload_n 2, 1)]) (t' := (0, 0, 16, [some (.ref 94), some (.int x1), some (.int x2), none], [.int x2], pv_mm s T)) (by decide +kernel) rfl ?_
      refine pv_e_ifge (off := 9) (b := 25) (pc' := 19) (by decide +kernel) (by decide +kernel) rfl (fun c5 => ?_) (fun c5 => ?_)
      · rw [if_pos c5] at h
        refine pv_e_bk (ps := [(25, .aload_n 0, 1)]) (t' := (0, 0, 26, [some (.ref 94), some (.int x1), some (.int x2), none], [.ref 94], pv_mm s T)) (by decide +kernel) rfl ?_
        refine pv_e_gr (i := 22) (ci := 6) (j := 6) (b := 99) (pc' := 29) (by decide +kernel) rfl rfl rfl ?_
        refine pv_e_bk (ps := [(29, .iload_n 1, 1), (30, .iload_n 2, 1)]) (t' := (0, 0, 31, [some (.ref 94), some (.int x1), some (.int x2), none], [.int x2, .int x1, .ref 99], pv_mm s T)) (by decide +kernel) rfl ?_
        obtain ⟨T6, e7, h⟩ := Option.bind_eq_some_iff.mp h
        refine pv_e_wm (pc' := 32) (by decide +kernel) (by decide) rfl e7 rfl ?_
        refine pv_e_bk (ps := [(32, .iconst 0, 1), (33, .istore_n 3, 1)]) (t' := (0, 0, 34, [some (.ref 94), some (.int x1), some (.int x2), some (.int (0:Int32))], [], pv_mm s T6)) (by decide +kernel) rfl ?_
        obtain ⟨⟨w11, T12⟩, e14, h⟩ := Option.bind_eq_some_iff.mp h
        dsimp only at h
        have hx13 : f131_text_b1_X xs L d r s x1 x2 (w11, T12) := by
          show ∀ z3 : Option Value, pv_Ev xs L (d + 2) 131 (0, 0, 59, [some (.ref 94), some (.int x1), some (.int x2), z3], [], pv_mm s T12) r
          intro z3
          refine pv_e_bk (ps := [(59, .iload_n 2, 1)]) (t' := (0, 0, 60, [some (.ref 94), some (.int x1), some (.int x2), z3], [.int x2], pv_mm s T12)) (by decide +kernel) rfl ?_
          obtain rfl := Option.some.inj h
          cases hr
          exact pv_e_ri (by decide +kernel)
        exact pv_lq_ok (H := f131_text_b1_H xs L d r s x1 x2) (X := f131_text_b1_X xs L d r s x1 x2) (f131_text_b1_ok (xs := xs) (L := L) (d := d) (r := r) (s := s) (v1 := x1) (v2 := x2)) 20000 _ _ e14 hx13
      · rw [if_neg c5] at h
        refine pv_e_bk (ps := [(19, .aload_n 0, 1), (20, .iconst 5, 1)]) (t' := (0, 0, 21, [some (.ref 94), some (.int x1), some (.int x2), none], [.int (5:Int32), .ref 94], pv_mm s T)) (by decide +kernel) rfl ?_
        obtain ⟨⟨q16, T17⟩, e15, h⟩ := Option.bind_eq_some_iff.mp h
        dsimp only at h
        refine pv_e_cvi (d := d + 1) (i := 91) (z := 115) (np := 1) (ml := 2) (ci := 6) (As := [.int (5:Int32)]) (rs := []) (pc' := 24) (by decide +kernel) rfl rfl rfl rfl (Nat.le_of_ble_eq_true rfl) (Nat.le_of_ble_eq_true rfl) rfl (ee115 (d + 1) (5:Int32) e15) ?_
        obtain rfl := Option.some.inj h
        cases hr
        exact pv_e_ri (by decide +kernel)
    · rw [if_neg c4] at h
      refine pv_e_bk (ps := [(13, .iconst (-1), 1)]) (t' := (0, 0, 14, [some (.ref 94), some (.int x1), some (.int x2), none], [.int (-1:Int32)], pv_mm s T)) (by decide +kernel) rfl ?_
      obtain rfl := Option.some.inj h
      cases hr
      exact pv_e_ri (by decide +kernel)
def f132_put (x1 : Int32) (x2 : Int32) (x3 : Int32) (T : pv_T) : Option (Int32 × pv_T) :=
  (f122_askedText x1 T).bind fun (q2, T3) =>
  if 0 ≤ q2 then
    (pv_rd T3.1 99 4 x1).bind fun q5 =>
    (f114_in x2 (0:Int32) (q5 - (1:Int32))).bind fun q8 =>
    if q8 = 0 then
      (f115_meet (2:Int32) T3).bind fun (q11, T12) =>
      some (q11, T12)
    else
      (pv_rd T3.1 100 320 (((80:Int32) * x1) + x2)).bind fun q13 =>
      (pv_wm T3 100 320 (((80:Int32) * x1) + x2) x3.toInt8.toInt32).bind fun T15 =>
      some (q13 + (1000:Int32), T15)
  else
    some (q2, T3)
theorem ee132 {xs : Nat → Int32} {L : Nat} (d : Nat) (x1 : Int32) (x2 : Int32) (x3 : Int32) {s : pv_F} {T : pv_T} {q : Int32 × pv_T}  (h : f132_put x1 x2 x3 T = some q) : pv_Ev xs L (d + 3) 132 (0, 0, 0, [some (.ref 94), some (.int x1), some (.int x2), some (.int x3), none, none], [], pv_mm s T) (some (.int q.1), pv_mm s q.2) := by
  generalize hr : ((some (.int q.1), pv_mm s q.2) : Option Value × pv_M) = r
  unfold f132_put at h
  refine pv_e_bk (ps := [(0, .aload_n 0, 1), (1, .iload_n 1, 1)]) (t' := (0, 0, 2, [some (.ref 94), some (.int x1), some (.int x2), some (.int x3), none, none], [.int x1, .ref 94], pv_mm s T)) (by decide +kernel) rfl ?_
  obtain ⟨⟨q2, T3⟩, e1, h⟩ := Option.bind_eq_some_iff.mp h
  dsimp only at h
  refine pv_e_cvi (d := d + 2) (i := 115) (z := 122) (np := 1) (ml := 2) (ci := 6) (As := [.int x1]) (rs := []) (pc' := 5) (by decide +kernel) rfl rfl rfl rfl (Nat.le_of_ble_eq_true rfl) (Nat.le_of_ble_eq_true rfl) rfl (ee122 (d + 0) x1 e1) ?_
  refine pv_e_bk (ps := [(5, .istore 4, 2), (7, .iload 4, 2)]) (t' := (0, 0, 9, [some (.ref 94), some (.int x1), some (.int x2), some (.int x3), some (.int q2), none], [.int q2], pv_mm s T3)) (by decide +kernel) rfl ?_
  refine pv_e_ifge (off := 6) (b := 15) (pc' := 12) (by decide +kernel) (by decide +kernel) rfl (fun c4 => ?_) (fun c4 => ?_)
  · rw [if_pos c4] at h
    refine pv_e_bk (ps := [(15, .iload_n 2, 1), (16, .iconst 0, 1), (17, .aload_n 0, 1)]) (t' := (0, 0, 18, [some (.ref 94), some (.int x1), some (.int x2), some (.int x3), some (.int q2), none], [.ref 94, .int (0:Int32), .int x2], pv_mm s T3)) (by decide +kernel) rfl ?_
    refine pv_e_gr (i := 22) (ci := 6) (j := 6) (b := 99) (pc' := 21) (by decide +kernel) rfl rfl rfl ?_
    refine pv_e_bk (ps := [(21, .iload_n 1, 1)]) (t' := (0, 0, 22, [some (.ref 94), some (.int x1), some (.int x2), some (.int x3), some (.int q2), none], [.int x1, .ref 99, .int (0:Int32), .int x2], pv_mm s T3)) (by decide +kernel) rfl ?_
    obtain ⟨q5, e6, h⟩ := Option.bind_eq_some_iff.mp h
    refine pv_e_rm (pc' := 23) (by decide +kernel) (by decide) rfl e6 rfl ?_
    refine pv_e_bk (ps := [(23, .iconst 1, 1), (24, .isub, 1)]) (t' := (0, 0, 25, [some (.ref 94), some (.int x1), some (.int x2), some (.int x3), some (.int q2), none], [.int (q5 - (1:Int32)), .int (0:Int32), .int x2], pv_mm s T3)) (by decide +kernel) rfl ?_
    obtain ⟨q8, e7, h⟩ := Option.bind_eq_some_iff.mp h
    refine pv_e_csi (d := d + 2) (i := 83) (z := 114) (np := 3) (ml := 3) (As := [.int x2, .int (0:Int32), .int (q5 - (1:Int32))]) (rs := []) (pc' := 28) (by decide +kernel) rfl rfl rfl (Nat.le_of_ble_eq_true rfl) (Nat.le_of_ble_eq_true rfl) rfl (ee114 (d + 2) x2 (0:Int32) (q5 - (1:Int32)) e7) ?_
    refine pv_e_ifne (off := 9) (b := 37) (pc' := 31) (by decide +kernel) (by decide +kernel) rfl (fun c9 => ?_) (fun c9 => ?_)
    · rw [if_pos c9] at h
      refine pv_e_bk (ps := [(31, .aload_n 0, 1), (32, .iconst 2, 1)]) (t' := (0, 0, 33, [some (.ref 94), some (.int x1), some (.int x2), some (.int x3), some (.int q2), none], [.int (2:Int32), .ref 94], pv_mm s T3)) (by decide +kernel) rfl ?_
      obtain ⟨⟨q11, T12⟩, e10, h⟩ := Option.bind_eq_some_iff.mp h
      dsimp only at h
      refine pv_e_cvi (d := d + 2) (i := 91) (z := 115) (np := 1) (ml := 2) (ci := 6) (As := [.int (2:Int32)]) (rs := []) (pc' := 36) (by decide +kernel) rfl rfl rfl rfl (Nat.le_of_ble_eq_true rfl) (Nat.le_of_ble_eq_true rfl) rfl (ee115 (d + 2) (2:Int32) e10) ?_
      obtain rfl := Option.some.inj h
      cases hr
      exact pv_e_ri (by decide +kernel)
    · rw [if_neg c9] at h
      refine pv_e_bk (ps := [(37, .aload_n 0, 1)]) (t' := (0, 0, 38, [some (.ref 94), some (.int x1), some (.int x2), some (.int x3), some (.int q2), none], [.ref 94], pv_mm s T3)) (by decide +kernel) rfl ?_
      refine pv_e_gr (i := 25) (ci := 6) (j := 7) (b := 100) (pc' := 41) (by decide +kernel) rfl rfl rfl ?_
      refine pv_e_bk (ps := [(41, .bipush 80, 2), (43, .iload_n 1, 1), (44, .imul, 1), (45, .iload_n 2, 1), (46, .iadd, 1)]) (t' := (0, 0, 47, [some (.ref 94), some (.int x1), some (.int x2), some (.int x3), some (.int q2), none], [.int (((80:Int32) * x1) + x2), .ref 100], pv_mm s T3)) (by decide +kernel) rfl ?_
      obtain ⟨q13, e14, h⟩ := Option.bind_eq_some_iff.mp h
      refine pv_e_rm (pc' := 48) (by decide +kernel) (by decide) rfl e14 rfl ?_
      refine pv_e_bk (ps := [(48, .istore 5, 2), (50, .aload_n 0, 1)]) (t' := (0, 0, 51, [some (.ref 94), some (.int x1), some (.int x2), some (.int x3), some (.int q2), some (.int q13)], [.ref 94], pv_mm s T3)) (by decide +kernel) rfl ?_
      refine pv_e_gr (i := 25) (ci := 6) (j := 7) (b := 100) (pc' := 54) (by decide +kernel) rfl rfl rfl ?_
      refine pv_e_bk (ps := [(54, .bipush 80, 2), (56, .iload_n 1, 1), (57, .imul, 1), (58, .iload_n 2, 1), (59, .iadd, 1), (60, .iload_n 3, 1), (61, .i2b, 1)]) (t' := (0, 0, 62, [some (.ref 94), some (.int x1), some (.int x2), some (.int x3), some (.int q2), some (.int q13)], [.int x3.toInt8.toInt32, .int (((80:Int32) * x1) + x2), .ref 100], pv_mm s T3)) (by decide +kernel) rfl ?_
      obtain ⟨T15, e16, h⟩ := Option.bind_eq_some_iff.mp h
      refine pv_e_wm (pc' := 63) (by decide +kernel) (by decide) rfl e16 rfl ?_
      refine pv_e_bk (ps := [(63, .iload 5, 2), (65, .sipush 1000, 3), (68, .iadd, 1)]) (t' := (0, 0, 69, [some (.ref 94), some (.int x1), some (.int x2), some (.int x3), some (.int q2), some (.int q13)], [.int (q13 + (1000:Int32))], pv_mm s T15)) (by decide +kernel) rfl ?_
      obtain rfl := Option.some.inj h
      cases hr
      exact pv_e_ri (by decide +kernel)
  · rw [if_neg c4] at h
    refine pv_e_bk (ps := [(12, .iload 4, 2)]) (t' := (0, 0, 14, [some (.ref 94), some (.int x1), some (.int x2), some (.int x3), some (.int q2), none], [.int q2], pv_mm s T3)) (by decide +kernel) rfl ?_
    obtain rfl := Option.some.inj h
    cases hr
    exact pv_e_ri (by decide +kernel)
def f133_here (x1 : Int32) (T : pv_T) : Option (Int32) :=
  (pv_rd T.1 99 4 x1).bind fun q1 =>
  ((
    if q1 ≤ (T.1 94 12) then
      some (-9:Int32)
    else
      (pv_rd T.1 100 320 (((80:Int32) * x1) + (T.1 94 12))).bind fun q7 =>
      some q7) : Option (Int32)).bind fun t3 =>
  some t3
theorem ee133 {xs : Nat → Int32} {L : Nat} (d : Nat) (x1 : Int32) {s : pv_F} {T : pv_T} {q : Int32}  (h : f133_here x1 T = some q) : pv_Ev xs L (d + 0) 133 (0, 0, 0, [some (.ref 94), some (.int x1)], [], pv_mm s T) (some (.int q), pv_mm s T) := by
  generalize hr : ((some (.int q), pv_mm s T) : Option Value × pv_M) = r
  unfold f133_here at h
  refine pv_e_bk (ps := [(0, .aload_n 0, 1)]) (t' := (0, 0, 1, [some (.ref 94), some (.int x1)], [.ref 94], pv_mm s T)) (by decide +kernel) rfl ?_
  refine pv_e_gm (i := 118) (ci := 6) (j := 12) (pc' := 4) (by decide +kernel) (by decide) rfl rfl rfl ?_
  refine pv_e_bk (ps := [(4, .aload_n 0, 1)]) (t' := (0, 0, 5, [some (.ref 94), some (.int x1)], [.ref 94, .int (T.1 94 12)], pv_mm s T)) (by decide +kernel) rfl ?_
  refine pv_e_gr (i := 22) (ci := 6) (j := 6) (b := 99) (pc' := 8) (by decide +kernel) rfl rfl rfl ?_
  refine pv_e_bk (ps := [(8, .iload_n 1, 1)]) (t' := (0, 0, 9, [some (.ref 94), some (.int x1)], [.int x1, .ref 99, .int (T.1 94 12)], pv_mm s T)) (by decide +kernel) rfl ?_
  obtain ⟨q1, e2, h⟩ := Option.bind_eq_some_iff.mp h
  refine pv_e_rm (pc' := 10) (by decide +kernel) (by decide) rfl e2 rfl ?_
  obtain ⟨t3, hv4, h⟩ := Option.bind_eq_some_iff.mp h
  have hJ5 : pv_Ev xs L (d + 0) 133 (0, 0, 32, [some (.ref 94), some (.int x1)], [.int t3], pv_mm s T) r := by
    obtain rfl := Option.some.inj h
    cases hr
    exact pv_e_ri (by decide +kernel)
  clear h
  have h := hv4
  clear hv4
  refine pv_e_icmpge (off := 20) (b := 30) (pc' := 13) (by decide +kernel) (by decide +kernel) rfl (fun c6 => ?_) (fun c6 => ?_)
  · rw [if_pos c6] at h
    refine pv_e_bk (ps := [(30, .bipush (-9), 2)]) (t' := (0, 0, 32, [some (.ref 94), some (.int x1)], [.int (-9:Int32)], pv_mm s T)) (by decide +kernel) rfl ?_
    obtain rfl := Option.some.inj h
    exact hJ5
  · rw [if_neg c6] at h
    refine pv_e_bk (ps := [(13, .aload_n 0, 1)]) (t' := (0, 0, 14, [some (.ref 94), some (.int x1)], [.ref 94], pv_mm s T)) (by decide +kernel) rfl ?_
    refine pv_e_gr (i := 25) (ci := 6) (j := 7) (b := 100) (pc' := 17) (by decide +kernel) rfl rfl rfl ?_
    refine pv_e_bk (ps := [(17, .bipush 80, 2), (19, .iload_n 1, 1), (20, .imul, 1), (21, .aload_n 0, 1)]) (t' := (0, 0, 22, [some (.ref 94), some (.int x1)], [.ref 94, .int ((80:Int32) * x1), .ref 100], pv_mm s T)) (by decide +kernel) rfl ?_
    refine pv_e_gm (i := 118) (ci := 6) (j := 12) (pc' := 25) (by decide +kernel) (by decide) rfl rfl rfl ?_
    refine pv_e_bk (ps := [(25, .iadd, 1)]) (t' := (0, 0, 26, [some (.ref 94), some (.int x1)], [.int (((80:Int32) * x1) + (T.1 94 12)), .ref 100], pv_mm s T)) (by decide +kernel) rfl ?_
    obtain ⟨q7, e8, h⟩ := Option.bind_eq_some_iff.mp h
    refine pv_e_rm (pc' := 27) (by decide +kernel) (by decide) rfl e8 rfl ?_
    refine pv_e_bk (ps := [(27, .goto 5, 3)]) (t' := (0, 0, 32, [some (.ref 94), some (.int x1)], [.int q7], pv_mm s T)) (by decide +kernel) rfl ?_
    obtain rfl := Option.some.inj h
    exact hJ5
def f134_isLetter (x0 : Int32) : Option (Int32) :=
  (f114_in x0 (97:Int32) (122:Int32)).bind fun q2 =>
  (pv_bl q2).bind fun q3 => some q3
theorem ee134 {xs : Nat → Int32} {L : Nat} (d : Nat) (x0 : Int32) {M : pv_M} {q : Int32}  (h : f134_isLetter x0 = some q) : pv_Ev xs L (d + 1) 134 (0, 0, 0, [some (.int x0)], [], M) (some (.int q), M) := by
  generalize hr : ((some (.int q), M) : Option Value × pv_M) = r
  unfold f134_isLetter at h
  refine pv_e_bk (ps := [(0, .iload_n 0, 1), (1, .bipush 97, 2), (3, .bipush 122, 2)]) (t' := (0, 0, 5, [some (.int x0)], [.int (122:Int32), .int (97:Int32), .int x0], M)) (by decide +kernel) rfl ?_
  obtain ⟨q2, e1, h⟩ := Option.bind_eq_some_iff.mp h
  refine pv_e_csi (d := d + 0) (i := 83) (z := 114) (np := 3) (ml := 3) (As := [.int x0, .int (97:Int32), .int (122:Int32)]) (rs := []) (pc' := 8) (by decide +kernel) rfl rfl rfl (Nat.le_of_ble_eq_true rfl) (Nat.le_of_ble_eq_true rfl) rfl (ee114 (d + 0) x0 (97:Int32) (122:Int32) e1) ?_
  obtain ⟨q3, e4, h⟩ := Option.bind_eq_some_iff.mp h
  obtain rfl := Option.some.inj h
  cases hr
  exact pv_e_rz (by decide +kernel) e4
def f135_isVowel (x0 : Int32) : Option (Int32) :=
  ((
    if x0 = (97:Int32) then
      some (1:Int32)
    else
      if x0 = (101:Int32) then
        some (1:Int32)
      else
        if x0 = (105:Int32) then
          some (1:Int32)
        else
          if x0 = (111:Int32) then
            some (1:Int32)
          else
            if x0 = (117:Int32) then
              some (1:Int32)
            else
              some (0:Int32)) : Option (Int32)).bind fun t1 =>
  (pv_bl t1).bind fun q2 => some q2
theorem ee135 {xs : Nat → Int32} {L : Nat} (d : Nat) (x0 : Int32) {M : pv_M} {q : Int32}  (h : f135_isVowel x0 = some q) : pv_Ev xs L (d + 0) 135 (0, 0, 0, [some (.int x0)], [], M) (some (.int q), M) := by
  generalize hr : ((some (.int q), M) : Option Value × pv_M) = r
  unfold f135_isVowel at h
  refine pv_e_bk (ps := [(0, .iload_n 0, 1), (1, .bipush 97, 2)]) (t' := (0, 0, 3, [some (.int x0)], [.int (97:Int32), .int x0], M)) (by decide +kernel) rfl ?_
  obtain ⟨t1, hv4, h⟩ := Option.bind_eq_some_iff.mp h
  have hJ5 : pv_Ev xs L (d + 0) 135 (0, 0, 35, [some (.int x0)], [.int t1], M) r := by
    obtain ⟨q2, e3, h⟩ := Option.bind_eq_some_iff.mp h
    obtain rfl := Option.some.inj h
    cases hr
    exact pv_e_rz (by decide +kernel) e3
  clear h
  have h := hv4
  clear hv4
  refine pv_e_icmpeq (off := 27) (b := 30) (pc' := 6) (by decide +kernel) (by decide +kernel) rfl (fun c6 => ?_) (fun c6 => ?_)
  · rw [if_pos c6] at h
    refine pv_e_bk (ps := [(30, .iconst 1, 1), (31, .goto 4, 3)]) (t' := (0, 0, 35, [some (.int x0)], [.int (1:Int32)], M)) (by decide +kernel) rfl ?_
    obtain rfl := Option.some.inj h
    exact hJ5
  · rw [if_neg c6] at h
    refine pv_e_bk (ps := [(6, .iload_n 0, 1), (7, .bipush 101, 2)]) (t' := (0, 0, 9, [some (.int x0)], [.int (101:Int32), .int x0], M)) (by decide +kernel) rfl ?_
    refine pv_e_icmpeq (off := 21) (b := 30) (pc' := 12) (by decide +kernel) (by decide +kernel) rfl (fun c7 => ?_) (fun c7 => ?_)
    · rw [if_pos c7] at h
      refine pv_e_bk (ps := [(30, .iconst 1, 1), (31, .goto 4, 3)]) (t' := (0, 0, 35, [some (.int x0)], [.int (1:Int32)], M)) (by decide +kernel) rfl ?_
      obtain rfl := Option.some.inj h
      exact hJ5
    · rw [if_neg c7] at h
      refine pv_e_bk (ps := [(12, .iload_n 0, 1), (13, .bipush 105, 2)]) (t' := (0, 0, 15, [some (.int x0)], [.int (105:Int32), .int x0], M)) (by decide +kernel) rfl ?_
      refine pv_e_icmpeq (off := 15) (b := 30) (pc' := 18) (by decide +kernel) (by decide +kernel) rfl (fun c8 => ?_) (fun c8 => ?_)
      · rw [if_pos c8] at h
        refine pv_e_bk (ps := [(30, .iconst 1, 1), (31, .goto 4, 3)]) (t' := (0, 0, 35, [some (.int x0)], [.int (1:Int32)], M)) (by decide +kernel) rfl ?_
        obtain rfl := Option.some.inj h
        exact hJ5
      · rw [if_neg c8] at h
        refine pv_e_bk (ps := [(18, .iload_n 0, 1), (19, .bipush 111, 2)]) (t' := (0, 0, 21, [some (.int x0)], [.int (111:Int32), .int x0], M)) (by decide +kernel) rfl ?_
        refine pv_e_icmpeq (off := 9) (b := 30) (pc' := 24) (by decide +kernel) (by decide +kernel) rfl (fun c9 => ?_) (fun c9 => ?_)
        · rw [if_pos c9] at h
          refine pv_e_bk (ps := [(30, .iconst 1, 1), (31, .goto 4, 3)]) (t' := (0, 0, 35, [some (.int x0)], [.int (1:Int32)], M)) (by decide +kernel) rfl ?_
          obtain rfl := Option.some.inj h
          exact hJ5
        · rw [if_neg c9] at h
          refine pv_e_bk (ps := [(24, .iload_n 0, 1), (25, .bipush 117, 2)]) (t' := (0, 0, 27, [some (.int x0)], [.int (117:Int32), .int x0], M)) (by decide +kernel) rfl ?_
          refine pv_e_icmpne (off := 7) (b := 34) (pc' := 30) (by decide +kernel) (by decide +kernel) rfl (fun c10 => ?_) (fun c10 => ?_)
          · rw [if_pos c10] at h
            refine pv_e_bk (ps := [(30, .iconst 1, 1), (31, .goto 4, 3)]) (t' := (0, 0, 35, [some (.int x0)], [.int (1:Int32)], M)) (by decide +kernel) rfl ?_
            obtain rfl := Option.some.inj h
            exact hJ5
          · rw [if_neg c10] at h
            refine pv_e_bk (ps := [(34, .iconst 0, 1)]) (t' := (0, 0, 35, [some (.int x0)], [.int (0:Int32)], M)) (by decide +kernel) rfl ?_
            obtain rfl := Option.some.inj h
            exact hJ5
def f136_readsPerson_b1 (v1 : Int32) (v2 : Int32) (st : Int32 × pv_T) : Option ((Int32 × pv_T) ⊕ (Int32 × pv_T)) := match st with
  | (v3, T) =>
    if (6:Int32) ≤ v3 then
      some (.inr (v3, T))
    else
      (f133_here v1 T).bind fun q13 =>
      (f134_isLetter q13).bind fun q15 =>
      if q15 = 0 then
        some (.inr (v3, T))
      else
        (f133_here v1 T).bind fun q18 =>
        (pv_wm T 104 42 (((6:Int32) * (T.1 94 13)) + v3) q18).bind fun T19 =>
        (pv_pm T19 94 12 ((T19.1 94 12) + (1:Int32))).bind fun T21 =>
        some (.inl (v3 + (1:Int32), T21))
def f136_readsPerson_b1_H (xs : Nat → Int32) (L d : Nat) (r : Option Value × pv_M) (s : pv_F) (v1 : Int32) (v2 : Int32) (st : Int32 × pv_T) : Prop := match st with
  | (v3, T) => pv_Ev xs L (d + 2) 136 (0, 0, 47, [some (.ref 94), some (.int v1), some (.int v2), some (.int v3)], [], pv_mm s T) r
def f136_readsPerson_b1_X (xs : Nat → Int32) (L d : Nat) (r : Option Value × pv_M) (s : pv_F) (v1 : Int32) (v2 : Int32) (st : Int32 × pv_T) : Prop := match st with
  | (v3, T) => pv_Ev xs L (d + 2) 136 (0, 0, 99, [some (.ref 94), some (.int v1), some (.int v2), some (.int v3)], [], pv_mm s T) r
def f136_readsPerson (x1 : Int32) (T : pv_T) : Option (Int32 × pv_T) :=
  (f133_here x1 T).bind fun q2 =>
  (f114_in q2 (49:Int32) (54:Int32)).bind fun q4 =>
  if q4 = 0 then
    some ((0:Int32), T)
  else
    if (T.1 94 13) = (7:Int32) then
      some ((0:Int32), T)
    else
      (f133_here x1 T).bind fun q8 =>
      (pv_pm T 94 12 ((T.1 94 12) + (1:Int32))).bind fun T9 =>
      (pv_lq (f136_readsPerson_b1 x1 (q8 - (49:Int32))) 20000 ((0:Int32), T9)).bind fun (w23, T24) =>
      if w23 = 0 then
        some ((0:Int32), T24)
      else
        (f133_here x1 T24).bind fun q27 =>
        (f134_isLetter q27).bind fun q29 =>
        if q29 = 0 then
          (pv_wm T24 102 7 (T24.1 94 13) (q8 - (49:Int32))).bind fun T31 =>
          (pv_wm T31 103 7 (T31.1 94 13) w23).bind fun T33 =>
          (pv_pm T33 94 13 ((T33.1 94 13) + (1:Int32))).bind fun T35 =>
          some ((1:Int32), T35)
        else
          some ((0:Int32), T24)
theorem f136_readsPerson_b1_ok {xs : Nat → Int32} {L d : Nat} {r : Option Value × pv_M} {s : pv_F} {v1 : Int32} {v2 : Int32} (st : Int32 × pv_T) (o : (Int32 × pv_T) ⊕ (Int32 × pv_T)) (h : f136_readsPerson_b1 v1 v2 st = some o) (hK : pv_Kq (f136_readsPerson_b1_H xs L d r s v1 v2) (f136_readsPerson_b1_X xs L d r s v1 v2) o) : f136_readsPerson_b1_H xs L d r s v1 v2 st := by
  obtain ⟨v3, T⟩ := st
  show pv_Ev xs L (d + 2) 136 (0, 0, 47, [some (.ref 94), some (.int v1), some (.int v2), some (.int v3)], [], pv_mm s T) r
  unfold f136_readsPerson_b1 at h
  dsimp only at h
  refine pv_e_bk (ps := [(47, .iload_n 3, 1), (48, .bipush 6, 2)]) (t' := (0, 0, 50, [some (.ref 94), some (.int v1), some (.int v2), some (.int v3)], [.int (6:Int32), .int v3], pv_mm s T)) (by decide +kernel) rfl ?_
  refine pv_e_icmpge (off := 49) (b := 99) (pc' := 53) (by decide +kernel) (by decide +kernel) rfl (fun c11 => ?_) (fun c11 => ?_)
  · rw [if_pos c11] at h
    obtain rfl := Option.some.inj h
    exact hK
  · rw [if_neg c11] at h
    refine pv_e_bk (ps := [(53, .aload_n 0, 1), (54, .iload_n 1, 1)]) (t' := (0, 0, 55, [some (.ref 94), some (.int v1), some (.int v2), some (.int v3)], [.int v1, .ref 94], pv_mm s T)) (by decide +kernel) rfl ?_
    obtain ⟨q13, e12, h⟩ := Option.bind_eq_some_iff.mp h
    refine pv_e_cvi (d := d + 1) (i := 121) (z := 133) (np := 1) (ml := 2) (ci := 6) (As := [.int v1]) (rs := []) (pc' := 58) (by decide +kernel) rfl rfl rfl rfl (Nat.le_of_ble_eq_true rfl) (Nat.le_of_ble_eq_true rfl) rfl (ee133 (d + 1) v1 e12) ?_
    obtain ⟨q15, e14, h⟩ := Option.bind_eq_some_iff.mp h
    refine pv_e_csi (d := d + 1) (i := 127) (z := 134) (np := 1) (ml := 1) (As := [.int q13]) (rs := []) (pc' := 61) (by decide +kernel) rfl rfl rfl (Nat.le_of_ble_eq_true rfl) (Nat.le_of_ble_eq_true rfl) rfl (ee134 (d + 0) q13 e14) ?_
    refine pv_e_ifeq (off := 38) (b := 99) (pc' := 64) (by decide +kernel) (by decide +kernel) rfl (fun c16 => ?_) (fun c16 => ?_)
    · rw [if_pos c16] at h
      obtain rfl := Option.some.inj h
      exact hK
    · rw [if_neg c16] at h
      refine pv_e_bk (ps := [(64, .aload_n 0, 1)]) (t' := (0, 0, 65, [some (.ref 94), some (.int v1), some (.int v2), some (.int v3)], [.ref 94], pv_mm s T)) (by decide +kernel) rfl ?_
      refine pv_e_gr (i := 41) (ci := 6) (j := 16) (b := 104) (pc' := 68) (by decide +kernel) rfl rfl rfl ?_
      refine pv_e_bk (ps := [(68, .bipush 6, 2), (70, .aload_n 0, 1)]) (t' := (0, 0, 71, [some (.ref 94), some (.int v1), some (.int v2), some (.int v3)], [.ref 94, .int (6:Int32), .ref 104], pv_mm s T)) (by decide +kernel) rfl ?_
      refine pv_e_gm (i := 124) (ci := 6) (j := 13) (pc' := 74) (by decide +kernel) (by decide) rfl rfl rfl ?_
      refine pv_e_bk (ps := [(74, .imul, 1), (75, .iload_n 3, 1), (76, .iadd, 1), (77, .aload_n 0, 1), (78, .iload_n 1, 1)]) (t' := (0, 0, 79, [some (.ref 94), some (.int v1), some (.int v2), some (.int v3)], [.int v1, .ref 94, .int (((6:Int32) * (T.1 94 13)) + v3), .ref 104], pv_mm s T)) (by decide +kernel) rfl ?_
      obtain ⟨q18, e17, h⟩ := Option.bind_eq_some_iff.mp h
      refine pv_e_cvi (d := d + 1) (i := 121) (z := 133) (np := 1) (ml := 2) (ci := 6) (As := [.int v1]) (rs := [.int (((6:Int32) * (T.1 94 13)) + v3), .ref 104]) (pc' := 82) (by decide +kernel) rfl rfl rfl rfl (Nat.le_of_ble_eq_true rfl) (Nat.le_of_ble_eq_true rfl) rfl (ee133 (d + 1) v1 e17) ?_
      obtain ⟨T19, e20, h⟩ := Option.bind_eq_some_iff.mp h
      refine pv_e_wm (pc' := 83) (by decide +kernel) (by decide) rfl e20 rfl ?_
      refine pv_e_bk (ps := [(83, .iinc 3 1, 3), (86, .aload_n 0, 1), (87, .dup, 1)]) (t' := (0, 0, 88, [some (.ref 94), some (.int v1), some (.int v2), some (.int (v3 + (1:Int32)))], [.ref 94, .ref 94], pv_mm s T19)) (by decide +kernel) rfl ?_
      refine pv_e_gm (i := 118) (ci := 6) (j := 12) (pc' := 91) (by decide +kernel) (by decide) rfl rfl rfl ?_
      refine pv_e_bk (ps := [(91, .iconst 1, 1), (92, .iadd, 1)]) (t' := (0, 0, 93, [some (.ref 94), some (.int v1), some (.int v2), some (.int (v3 + (1:Int32)))], [.int ((T19.1 94 12) + (1:Int32)), .ref 94], pv_mm s T19)) (by decide +kernel) rfl ?_
      obtain ⟨T21, e22, h⟩ := Option.bind_eq_some_iff.mp h
      refine pv_e_pms (i := 118) (ci := 6) (j := 12) (pc' := 96) (by decide +kernel) rfl rfl (by decide) rfl rfl e22 rfl ?_
      refine pv_e_bk (ps := [(96, .goto (-49), 3)]) (t' := (0, 0, 47, [some (.ref 94), some (.int v1), some (.int v2), some (.int (v3 + (1:Int32)))], [], pv_mm s T21)) (by decide +kernel) rfl ?_
      obtain rfl := Option.some.inj h
      exact hK
theorem ee136 {xs : Nat → Int32} {L : Nat} (d : Nat) (x1 : Int32) {s : pv_F} {T : pv_T} {q : Int32 × pv_T}  (h : f136_readsPerson x1 T = some q) : pv_Ev xs L (d + 2) 136 (0, 0, 0, [some (.ref 94), some (.int x1), none, none], [], pv_mm s T) (some (.int q.1), pv_mm s q.2) := by
  generalize hr : ((some (.int q.1), pv_mm s q.2) : Option Value × pv_M) = r
  unfold f136_readsPerson at h
  refine pv_e_bk (ps := [(0, .aload_n 0, 1), (1, .iload_n 1, 1)]) (t' := (0, 0, 2, [some (.ref 94), some (.int x1), none, none], [.int x1, .ref 94], pv_mm s T)) (by decide +kernel) rfl ?_
  obtain ⟨q2, e1, h⟩ := Option.bind_eq_some_iff.mp h
  refine pv_e_cvi (d := d + 1) (i := 121) (z := 133) (np := 1) (ml := 2) (ci := 6) (As := [.int x1]) (rs := []) (pc' := 5) (by decide +kernel) rfl rfl rfl rfl (Nat.le_of_ble_eq_true rfl) (Nat.le_of_ble_eq_true rfl) rfl (ee133 (d + 1) x1 e1) ?_
  refine pv_e_bk (ps := [(5, .bipush 49, 2), (7, .bipush 54, 2)]) (t' := (0, 0, 9, [some (.ref 94), some (.int x1), none, none], [.int (54:Int32), .int (49:Int32), .int q2], pv_mm s T)) (by decide +kernel) rfl ?_
  obtain ⟨q4, e3, h⟩ := Option.bind_eq_some_iff.mp h
  refine pv_e_csi (d := d + 1) (i := 83) (z := 114) (np := 3) (ml := 3) (As := [.int q2, .int (49:Int32), .int (54:Int32)]) (rs := []) (pc' := 12) (by decide +kernel) rfl rfl rfl (Nat.le_of_ble_eq_true rfl) (Nat.le_of_ble_eq_true rfl) rfl (ee114 (d + 1) q2 (49:Int32) (54:Int32) e3) ?_
  refine pv_e_ifeq (off := 12) (b := 24) (pc' := 15) (by decide +kernel) (by decide +kernel) rfl (fun c5 => ?_) (fun c5 => ?_)
  · rw [if_pos c5] at h
    refine pv_e_bk (ps := [(24, .iconst 0, 1)]) (t' := (0, 0, 25, [some (.ref 94), some (.int x1), none, none], [.int (0:Int32)], pv_mm s T)) (by decide +kernel) rfl ?_
    obtain rfl := Option.some.inj h
    cases hr
    exact pv_e_rz (by decide +kernel) pv_bl0
  · rw [if_neg c5] at h
    refine pv_e_bk (ps := [(15, .aload_n 0, 1)]) (t' := (0, 0, 16, [some (.ref 94), some (.int x1), none, none], [.ref 94], pv_mm s T)) (by decide +kernel) rfl ?_
    refine pv_e_gm (i := 124) (ci := 6) (j := 13) (pc' := 19) (by decide +kernel) (by decide) rfl rfl rfl ?_
    refine pv_e_bk (ps := [(19, .bipush 7, 2)]) (t' := (0, 0, 21, [some (.ref 94), some (.int x1), none, none], [.int (7:Int32), .int (T.1 94 13)], pv_mm s T)) (by decide +kernel) rfl ?_
    refine pv_e_icmpne (off := 5) (b := 26) (pc' := 24) (by decide +kernel) (by decide +kernel) rfl (fun c6 => ?_) (fun c6 => ?_)
    · rw [if_pos c6] at h
      refine pv_e_bk (ps := [(24, .iconst 0, 1)]) (t' := (0, 0, 25, [some (.ref 94), some (.int x1), none, none], [.int (0:Int32)], pv_mm s T)) (by decide +kernel) rfl ?_
      obtain rfl := Option.some.inj h
      cases hr
      exact pv_e_rz (by decide +kernel) pv_bl0
    · rw [if_neg c6] at h
      refine pv_e_bk (ps := [(26, .aload_n 0, 1), (27, .iload_n 1, 1)]) (t' := (0, 0, 28, [some (.ref 94), some (.int x1), none, none], [.int x1, .ref 94], pv_mm s T)) (by decide +kernel) rfl ?_
      obtain ⟨q8, e7, h⟩ := Option.bind_eq_some_iff.mp h
      refine pv_e_cvi (d := d + 1) (i := 121) (z := 133) (np := 1) (ml := 2) (ci := 6) (As := [.int x1]) (rs := []) (pc' := 31) (by decide +kernel) rfl rfl rfl rfl (Nat.le_of_ble_eq_true rfl) (Nat.le_of_ble_eq_true rfl) rfl (ee133 (d + 1) x1 e7) ?_
      refine pv_e_bk (ps := [(31, .bipush 49, 2), (33, .isub, 1), (34, .istore_n 2, 1), (35, .aload_n 0, 1), (36, .dup, 1)]) (t' := (0, 0, 37, [some (.ref 94), some (.int x1), some (.int (q8 - (49:Int32))), none], [.ref 94, .ref 94], pv_mm s T)) (by decide +kernel) rfl ?_
      refine pv_e_gm (i := 118) (ci := 6) (j := 12) (pc' := 40) (by decide +kernel) (by decide) rfl rfl rfl ?_
      refine pv_e_bk (ps := [(40, .iconst 1, 1), (41, .iadd, 1)]) (t' := (0, 0, 42, [some (.ref 94), some (.int x1), some (.int (q8 - (49:Int32))), none], [.int ((T.1 94 12) + (1:Int32)), .ref 94], pv_mm s T)) (by decide +kernel) rfl ?_
      obtain ⟨T9, e10, h⟩ := Option.bind_eq_some_iff.mp h
      refine pv_e_pms (i := 118) (ci := 6) (j := 12) (pc' := 45) (by decide +kernel) rfl rfl (by decide) rfl rfl e10 rfl ?_
      refine pv_e_bk (ps := [(45, .iconst 0, 1), (46, .istore_n 3, 1)]) (t' := (0, 0, 47, [some (.ref 94), some (.int x1), some (.int (q8 - (49:Int32))), some (.int (0:Int32))], [], pv_mm s T9)) (by decide +kernel) rfl ?_
      obtain ⟨⟨w23, T24⟩, e38, h⟩ := Option.bind_eq_some_iff.mp h
      dsimp only at h
      have hx37 : f136_readsPerson_b1_X xs L d r s x1 (q8 - (49:Int32)) (w23, T24) := by
        show pv_Ev xs L (d + 2) 136 (0, 0, 99, [some (.ref 94), some (.int x1), some (.int (q8 - (49:Int32))), some (.int w23)], [], pv_mm s T24) r
        refine pv_e_bk (ps := [(99, .iload_n 3, 1)]) (t' := (0, 0, 100, [some (.ref 94), some (.int x1), some (.int (q8 - (49:Int32))), some (.int w23)], [.int w23], pv_mm s T24)) (by decide +kernel) rfl ?_
        refine pv_e_ifeq (off := 14) (b := 114) (pc' := 103) (by decide +kernel) (by decide +kernel) rfl (fun c25 => ?_) (fun c25 => ?_)
        · rw [if_pos c25] at h
          refine pv_e_bk (ps := [(114, .iconst 0, 1)]) (t' := (0, 0, 115, [some (.ref 94), some (.int x1), some (.int (q8 - (49:Int32))), some (.int w23)], [.int (0:Int32)], pv_mm s T24)) (by decide +kernel) rfl ?_
          obtain rfl := Option.some.inj h
          cases hr
          exact pv_e_rz (by decide +kernel) pv_bl0
        · rw [if_neg c25] at h
          refine pv_e_bk (ps := [(103, .aload_n 0, 1), (104, .iload_n 1, 1)]) (t' := (0, 0, 105, [some (.ref 94), some (.int x1), some (.int (q8 - (49:Int32))), some (.int w23)], [.int x1, .ref 94], pv_mm s T24)) (by decide +kernel) rfl ?_
          obtain ⟨q27, e26, h⟩ := Option.bind_eq_some_iff.mp h
          refine pv_e_cvi (d := d + 1) (i := 121) (z := 133) (np := 1) (ml := 2) (ci := 6) (As := [.int x1]) (rs := []) (pc' := 108) (by decide +kernel) rfl rfl rfl rfl (Nat.le_of_ble_eq_true rfl) (Nat.le_of_ble_eq_true rfl) rfl (ee133 (d + 1) x1 e26) ?_
          obtain ⟨q29, e28, h⟩ := Option.bind_eq_some_iff.mp h
          refine pv_e_csi (d := d + 1) (i := 127) (z := 134) (np := 1) (ml := 1) (As := [.int q27]) (rs := []) (pc' := 111) (by decide +kernel) rfl rfl rfl (Nat.le_of_ble_eq_true rfl) (Nat.le_of_ble_eq_true rfl) rfl (ee134 (d + 0) q27 e28) ?_
          refine pv_e_ifeq (off := 5) (b := 116) (pc' := 114) (by decide +kernel) (by decide +kernel) rfl (fun c30 => ?_) (fun c30 => ?_)
          · rw [if_pos c30] at h
            refine pv_e_bk (ps := [(116, .aload_n 0, 1)]) (t' := (0, 0, 117, [some (.ref 94), some (.int x1), some (.int (q8 - (49:Int32))), some (.int w23)], [.ref 94], pv_mm s T24)) (by decide +kernel) rfl ?_
            refine pv_e_gr (i := 35) (ci := 6) (j := 14) (b := 102) (pc' := 120) (by decide +kernel) rfl rfl rfl ?_
            refine pv_e_bk (ps := [(120, .aload_n 0, 1)]) (t' := (0, 0, 121, [some (.ref 94), some (.int x1), some (.int (q8 - (49:Int32))), some (.int w23)], [.ref 94, .ref 102], pv_mm s T24)) (by decide +kernel) rfl ?_
            refine pv_e_gm (i := 124) (ci := 6) (j := 13) (pc' := 124) (by decide +kernel) (by decide) rfl rfl rfl ?_
            refine pv_e_bk (ps := [(124, .iload_n 2, 1)]) (t' := (0, 0, 125, [some (.ref 94), some (.int x1), some (.int (q8 - (49:Int32))), some (.int w23)], [.int (q8 - (49:Int32)), .int (T24.1 94 13), .ref 102], pv_mm s T24)) (by decide +kernel) rfl ?_
            obtain ⟨T31, e32, h⟩ := Option.bind_eq_some_iff.mp h
            refine pv_e_wm (pc' := 126) (by decide +kernel) (by decide) rfl e32 rfl ?_
            refine pv_e_bk (ps := [(126, .aload_n 0, 1)]) (t' := (0, 0, 127, [some (.ref 94), some (.int x1), some (.int (q8 - (49:Int32))), some (.int w23)], [.ref 94], pv_mm s T31)) (by decide +kernel) rfl ?_
            refine pv_e_gr (i := 38) (ci := 6) (j := 15) (b := 103) (pc' := 130) (by decide +kernel) rfl rfl rfl ?_
            refine pv_e_bk (ps := [(130, .aload_n 0, 1)]) (t' := (0, 0, 131, [some (.ref 94), some (.int x1), some (.int (q8 - (49:Int32))), some (.int w23)], [.ref 94, .ref 103], pv_mm s T31)) (by decide +kernel) rfl ?_
            refine pv_e_gm (i := 124) (ci := 6) (j := 13) (pc' := 134) (by decide +kernel) (by decide) rfl rfl rfl ?_
            refine pv_e_bk (ps := [(134, .iload_n 3, 1)]) (t' := (0, 0, 135, [some (.ref 94), some (.int x1), some (.int (q8 - (49:Int32))), some (.int w23)], [.int w23, .int (T31.1 94 13), .ref 103], pv_mm s T31)) (by decide +kernel) rfl ?_
            obtain ⟨T33, e34, h⟩ := Option.bind_eq_some_iff.mp h
            refine pv_e_wm (pc' := 136) (by decide +kernel) (by decide) rfl e34 rfl ?_
            refine pv_e_bk (ps := [(136, .aload_n 0, 1), (137, .dup, 1)]) (t' := (0, 0, 138, [some (.ref 94), some (.int x1), some (.int (q8 - (49:Int32))), some (.int w23)], [.ref 94, .ref 94], pv_mm s T33)) (by decide +kernel) rfl ?_
            refine pv_e_gm (i := 124) (ci := 6) (j := 13) (pc' := 141) (by decide +kernel) (by decide) rfl rfl rfl ?_
            refine pv_e_bk (ps := [(141, .iconst 1, 1), (142, .iadd, 1)]) (t' := (0, 0, 143, [some (.ref 94), some (.int x1), some (.int (q8 - (49:Int32))), some (.int w23)], [.int ((T33.1 94 13) + (1:Int32)), .ref 94], pv_mm s T33)) (by decide +kernel) rfl ?_
            obtain ⟨T35, e36, h⟩ := Option.bind_eq_some_iff.mp h
            refine pv_e_pms (i := 124) (ci := 6) (j := 13) (pc' := 146) (by decide +kernel) rfl rfl (by decide) rfl rfl e36 rfl ?_
            refine pv_e_bk (ps := [(146, .iconst 1, 1)]) (t' := (0, 0, 147, [some (.ref 94), some (.int x1), some (.int (q8 - (49:Int32))), some (.int w23)], [.int (1:Int32)], pv_mm s T35)) (by decide +kernel) rfl ?_
            obtain rfl := Option.some.inj h
            cases hr
            exact pv_e_rz (by decide +kernel) pv_bl1
          · rw [if_neg c30] at h
            refine pv_e_bk (ps := [(114, .iconst 0, 1)]) (t' := (0, 0, 115, [some (.ref 94), some (.int x1), some (.int (q8 - (49:Int32))), some (.int w23)], [.int (0:Int32)], pv_mm s T24)) (by decide +kernel) rfl ?_
            obtain rfl := Option.some.inj h
            cases hr
            exact pv_e_rz (by decide +kernel) pv_bl0
      exact pv_lq_ok (H := f136_readsPerson_b1_H xs L d r s x1 (q8 - (49:Int32))) (X := f136_readsPerson_b1_X xs L d r s x1 (q8 - (49:Int32))) (f136_readsPerson_b1_ok (xs := xs) (L := L) (d := d) (r := r) (s := s) (v1 := x1) (v2 := (q8 - (49:Int32)))) 20000 _ _ e38 hx37
def f137_goesOn_b1 (v1 : Int32) (st : pv_T) : Option (pv_T ⊕ (pv_T ⊕ (Int32 × pv_T))) := match st with
  | T =>
    (pv_rd T.1 99 4 v1).bind fun q5 =>
    if q5 ≤ (T.1 94 12) then
      some (.inr (.inl T))
    else
      (f133_here v1 T).bind fun q9 =>
      if q9 = (32:Int32) then
        (pv_pm T 94 12 ((T.1 94 12) + (1:Int32))).bind fun T11 =>
        some (.inl T11)
      else
        (f136_readsPerson v1 T).bind fun (q14, T15) =>
        if q14 = 0 then
          some (.inr (.inr (T15.1 94 12, T15)))
        else
          some (.inl T15)
def f137_goesOn_b1_H (xs : Nat → Int32) (L d : Nat) (r : Option Value × pv_M) (s : pv_F) (v1 : Int32) (st : pv_T) : Prop := match st with
  | T => pv_Ev xs L (d + 3) 137 (0, 0, 10, [some (.ref 94), some (.int v1)], [], pv_mm s T) r
def f137_goesOn_b1_X (xs : Nat → Int32) (L d : Nat) (r : Option Value × pv_M) (s : pv_F) (v1 : Int32) (st : pv_T) : Prop := match st with
  | T => pv_Ev xs L (d + 3) 137 (0, 0, 59, [some (.ref 94), some (.int v1)], [], pv_mm s T) r
def f137_goesOn (x1 : Int32) (T : pv_T) : Option (Int32 × pv_T) :=
  (pv_pm T 94 12 (0:Int32)).bind fun T1 =>
  (pv_pm T1 94 13 (0:Int32)).bind fun T3 =>
  (pv_lp (f137_goesOn_b1 x1) 20000 T3).bind fun o20 => match o20 with
    | .inl T17 =>
      some ((-9:Int32), T17)
    | .inr q => some q
theorem f137_goesOn_b1_ok {xs : Nat → Int32} {L d : Nat} {r : Option Value × pv_M} {s : pv_F} {v1 : Int32} (st : pv_T) (o : pv_T ⊕ (pv_T ⊕ (Int32 × pv_T))) (h : f137_goesOn_b1 v1 st = some o) (hK : pv_Kp (f137_goesOn_b1_H xs L d r s v1) (f137_goesOn_b1_X xs L d r s v1) (fun q => (some (.int q.1), pv_mm s q.2) = r) o) : f137_goesOn_b1_H xs L d r s v1 st := by
  obtain ⟨T, rfl⟩ : ∃ z, z = st := ⟨st, rfl⟩
  show pv_Ev xs L (d + 3) 137 (0, 0, 10, [some (.ref 94), some (.int v1)], [], pv_mm s T) r
  unfold f137_goesOn_b1 at h
  dsimp only at h
  refine pv_e_bk (ps := [(10, .aload_n 0, 1)]) (t' := (0, 0, 11, [some (.ref 94), some (.int v1)], [.ref 94], pv_mm s T)) (by decide +kernel) rfl ?_
  refine pv_e_gm (i := 118) (ci := 6) (j := 12) (pc' := 14) (by decide +kernel) (by decide) rfl rfl rfl ?_
  refine pv_e_bk (ps := [(14, .aload_n 0, 1)]) (t' := (0, 0, 15, [some (.ref 94), some (.int v1)], [.ref 94, .int (T.1 94 12)], pv_mm s T)) (by decide +kernel) rfl ?_
  refine pv_e_gr (i := 22) (ci := 6) (j := 6) (b := 99) (pc' := 18) (by decide +kernel) rfl rfl rfl ?_
  refine pv_e_bk (ps := [(18, .iload_n 1, 1)]) (t' := (0, 0, 19, [some (.ref 94), some (.int v1)], [.int v1, .ref 99, .int (T.1 94 12)], pv_mm s T)) (by decide +kernel) rfl ?_
  obtain ⟨q5, e6, h⟩ := Option.bind_eq_some_iff.mp h
  refine pv_e_rm (pc' := 20) (by decide +kernel) (by decide) rfl e6 rfl ?_
  refine pv_e_icmpge (off := 39) (b := 59) (pc' := 23) (by decide +kernel) (by decide +kernel) rfl (fun c7 => ?_) (fun c7 => ?_)
  · rw [if_pos c7] at h
    obtain rfl := Option.some.inj h
    exact hK
  · rw [if_neg c7] at h
    refine pv_e_bk (ps := [(23, .aload_n 0, 1), (24, .iload_n 1, 1)]) (t' := (0, 0, 25, [some (.ref 94), some (.int v1)], [.int v1, .ref 94], pv_mm s T)) (by decide +kernel) rfl ?_
    obtain ⟨q9, e8, h⟩ := Option.bind_eq_some_iff.mp h
    refine pv_e_cvi (d := d + 2) (i := 121) (z := 133) (np := 1) (ml := 2) (ci := 6) (As := [.int v1]) (rs := []) (pc' := 28) (by decide +kernel) rfl rfl rfl rfl (Nat.le_of_ble_eq_true rfl) (Nat.le_of_ble_eq_true rfl) rfl (ee133 (d + 2) v1 e8) ?_
    refine pv_e_bk (ps := [(28, .bipush 32, 2)]) (t' := (0, 0, 30, [some (.ref 94), some (.int v1)], [.int (32:Int32), .int q9], pv_mm s T)) (by decide +kernel) rfl ?_
    refine pv_e_icmpne (off := 16) (b := 46) (pc' := 33) (by decide +kernel) (by decide +kernel) rfl (fun c10 => ?_) (fun c10 => ?_)
    · rw [if_pos c10] at h
      refine pv_e_bk (ps := [(33, .aload_n 0, 1), (34, .dup, 1)]) (t' := (0, 0, 35, [some (.ref 94), some (.int v1)], [.ref 94, .ref 94], pv_mm s T)) (by decide +kernel) rfl ?_
      refine pv_e_gm (i := 118) (ci := 6) (j := 12) (pc' := 38) (by decide +kernel) (by decide) rfl rfl rfl ?_
      refine pv_e_bk (ps := [(38, .iconst 1, 1), (39, .iadd, 1)]) (t' := (0, 0, 40, [some (.ref 94), some (.int v1)], [.int ((T.1 94 12) + (1:Int32)), .ref 94], pv_mm s T)) (by decide +kernel) rfl ?_
      obtain ⟨T11, e12, h⟩ := Option.bind_eq_some_iff.mp h
      refine pv_e_pms (i := 118) (ci := 6) (j := 12) (pc' := 43) (by decide +kernel) rfl rfl (by decide) rfl rfl e12 rfl ?_
      refine pv_e_bk (ps := [(43, .goto (-33), 3)]) (t' := (0, 0, 10, [some (.ref 94), some (.int v1)], [], pv_mm s T11)) (by decide +kernel) rfl ?_
      obtain rfl := Option.some.inj h
      exact hK
    · rw [if_neg c10] at h
      refine pv_e_bk (ps := [(46, .aload_n 0, 1), (47, .iload_n 1, 1)]) (t' := (0, 0, 48, [some (.ref 94), some (.int v1)], [.int v1, .ref 94], pv_mm s T)) (by decide +kernel) rfl ?_
      obtain ⟨⟨q14, T15⟩, e13, h⟩ := Option.bind_eq_some_iff.mp h
      dsimp only at h
      refine pv_e_cvi (d := d + 2) (i := 130) (z := 136) (np := 1) (ml := 4) (ci := 6) (As := [.int v1]) (rs := []) (pc' := 51) (by decide +kernel) rfl rfl rfl rfl (Nat.le_of_ble_eq_true rfl) (Nat.le_of_ble_eq_true rfl) rfl (ee136 (d + 0) v1 e13) ?_
      refine pv_e_ifne (off := (-41)) (b := 10) (pc' := 54) (by decide +kernel) (by decide +kernel) rfl (fun c16 => ?_) (fun c16 => ?_)
      · rw [if_pos c16] at h
        refine pv_e_bk (ps := [(54, .aload_n 0, 1)]) (t' := (0, 0, 55, [some (.ref 94), some (.int v1)], [.ref 94], pv_mm s T15)) (by decide +kernel) rfl ?_
        refine pv_e_gm (i := 118) (ci := 6) (j := 12) (pc' := 58) (by decide +kernel) (by decide) rfl rfl rfl ?_
        obtain rfl := Option.some.inj h
        cases hK
        exact pv_e_ri (by decide +kernel)
      · rw [if_neg c16] at h
        obtain rfl := Option.some.inj h
        exact hK
theorem ee137 {xs : Nat → Int32} {L : Nat} (d : Nat) (x1 : Int32) {s : pv_F} {T : pv_T} {q : Int32 × pv_T}  (h : f137_goesOn x1 T = some q) : pv_Ev xs L (d + 3) 137 (0, 0, 0, [some (.ref 94), some (.int x1)], [], pv_mm s T) (some (.int q.1), pv_mm s q.2) := by
  generalize hr : ((some (.int q.1), pv_mm s q.2) : Option Value × pv_M) = r
  unfold f137_goesOn at h
  refine pv_e_bk (ps := [(0, .aload_n 0, 1), (1, .iconst 0, 1)]) (t' := (0, 0, 2, [some (.ref 94), some (.int x1)], [.int (0:Int32), .ref 94], pv_mm s T)) (by decide +kernel) rfl ?_
  obtain ⟨T1, e2, h⟩ := Option.bind_eq_some_iff.mp h
  refine pv_e_pms (i := 118) (ci := 6) (j := 12) (pc' := 5) (by decide +kernel) rfl rfl (by decide) rfl rfl e2 rfl ?_
  refine pv_e_bk (ps := [(5, .aload_n 0, 1), (6, .iconst 0, 1)]) (t' := (0, 0, 7, [some (.ref 94), some (.int x1)], [.int (0:Int32), .ref 94], pv_mm s T1)) (by decide +kernel) rfl ?_
  obtain ⟨T3, e4, h⟩ := Option.bind_eq_some_iff.mp h
  refine pv_e_pms (i := 124) (ci := 6) (j := 13) (pc' := 10) (by decide +kernel) rfl rfl (by decide) rfl rfl e4 rfl ?_
  obtain ⟨o20, e19, h⟩ := Option.bind_eq_some_iff.mp h
  refine pv_lp_ok (H := f137_goesOn_b1_H xs L d r s x1) (X := f137_goesOn_b1_X xs L d r s x1) (Z := (fun q => (some (.int q.1), pv_mm s q.2) = r)) (f137_goesOn_b1_ok (xs := xs) (L := L) (d := d) (r := r) (s := s) (v1 := x1)) 20000 _ _ e19 ?_
  rcases o20 with T17 | q
  · dsimp only at h ⊢
    show pv_Ev xs L (d + 3) 137 (0, 0, 59, [some (.ref 94), some (.int x1)], [], pv_mm s T17) r
    refine pv_e_bk (ps := [(59, .bipush (-9), 2)]) (t' := (0, 0, 61, [some (.ref 94), some (.int x1)], [.int (-9:Int32)], pv_mm s T17)) (by decide +kernel) rfl ?_
    obtain rfl := Option.some.inj h
    cases hr
    exact pv_e_ri (by decide +kernel)
  · dsimp only at h ⊢
    obtain rfl := Option.some.inj h
    exact hr
def f138_fault (x1 : Int32) (T : pv_T) : Option (Int32 × pv_T) :=
  (f122_askedText x1 T).bind fun (q2, T3) =>
  ((
    if 0 ≤ q2 then
      (f137_goesOn x1 T3).bind fun (q10, T11) =>
      some (q10, T11)
    else
      some (q2, T3)) : Option (Int32 × pv_T)).bind fun (t4, T5) =>
  some (t4, T5)
theorem ee138 {xs : Nat → Int32} {L : Nat} (d : Nat) (x1 : Int32) {s : pv_F} {T : pv_T} {q : Int32 × pv_T}  (h : f138_fault x1 T = some q) : pv_Ev xs L (d + 4) 138 (0, 0, 0, [some (.ref 94), some (.int x1), none], [], pv_mm s T) (some (.int q.1), pv_mm s q.2) := by
  generalize hr : ((some (.int q.1), pv_mm s q.2) : Option Value × pv_M) = r
  unfold f138_fault at h
  refine pv_e_bk (ps := [(0, .aload_n 0, 1), (1, .iload_n 1, 1)]) (t' := (0, 0, 2, [some (.ref 94), some (.int x1), none], [.int x1, .ref 94], pv_mm s T)) (by decide +kernel) rfl ?_
  obtain ⟨⟨q2, T3⟩, e1, h⟩ := Option.bind_eq_some_iff.mp h
  dsimp only at h
  refine pv_e_cvi (d := d + 3) (i := 115) (z := 122) (np := 1) (ml := 2) (ci := 6) (As := [.int x1]) (rs := []) (pc' := 5) (by decide +kernel) rfl rfl rfl rfl (Nat.le_of_ble_eq_true rfl) (Nat.le_of_ble_eq_true rfl) rfl (ee122 (d + 1) x1 e1) ?_
  refine pv_e_bk (ps := [(5, .istore_n 2, 1), (6, .iload_n 2, 1)]) (t' := (0, 0, 7, [some (.ref 94), some (.int x1), some (.int q2)], [.int q2], pv_mm s T3)) (by decide +kernel) rfl ?_
  obtain ⟨⟨t4, T5⟩, hv6, h⟩ := Option.bind_eq_some_iff.mp h
  dsimp only at h
  have hJ7 : pv_Ev xs L (d + 4) 138 (0, 0, 19, [some (.ref 94), some (.int x1), some (.int q2)], [.int t4], pv_mm s T5) r := by
    obtain rfl := Option.some.inj h
    cases hr
    exact pv_e_ri (by decide +kernel)
  clear h
  have h := hv6
  clear hv6
  refine pv_e_ifge (off := 7) (b := 14) (pc' := 10) (by decide +kernel) (by decide +kernel) rfl (fun c8 => ?_) (fun c8 => ?_)
  · rw [if_pos c8] at h
    refine pv_e_bk (ps := [(14, .aload_n 0, 1), (15, .iload_n 1, 1)]) (t' := (0, 0, 16, [some (.ref 94), some (.int x1), some (.int q2)], [.int x1, .ref 94], pv_mm s T3)) (by decide +kernel) rfl ?_
    obtain ⟨⟨q10, T11⟩, e9, h⟩ := Option.bind_eq_some_iff.mp h
    dsimp only at h
    refine pv_e_cvi (d := d + 3) (i := 133) (z := 137) (np := 1) (ml := 2) (ci := 6) (As := [.int x1]) (rs := []) (pc' := 19) (by decide +kernel) rfl rfl rfl rfl (Nat.le_of_ble_eq_true rfl) (Nat.le_of_ble_eq_true rfl) rfl (ee137 (d + 0) x1 e9) ?_
    cases h
    exact hJ7
  · rw [if_neg c8] at h
    refine pv_e_bk (ps := [(10, .iload_n 2, 1), (11, .goto 8, 3)]) (t' := (0, 0, 19, [some (.ref 94), some (.int x1), some (.int q2)], [.int q2], pv_mm s T3)) (by decide +kernel) rfl ?_
    cases h
    exact hJ7
