-- printed by wip/whole/gen/parts.py: methods as functions over the ints of the memory, and that the pure machine runs so
def f157_doCall_b1 (v1 : Int32) (v2 : Int32) (v3 : Int32) (st : Int32 × pv_T) : Option ((Int32 × pv_T) ⊕ (Int32 × pv_T)) := match st with
  | (v4, T) =>
    if (T.1 94 8) ≤ v4 then
      some (.inr (v4, T))
    else
      (f117_has v3 v4).bind fun q9 =>
      ((
        if q9 = 0 then
          some T
        else
          (pv_rd T.1 105 78 ((56:Int32) + v4)).bind fun q14 =>
          (pv_wm T 105 78 ((56:Int32) + v4) (q14 + (1:Int32))).bind fun T16 =>
          (pv_rd T16.1 105 78 ((63:Int32) + v4)).bind fun q18 =>
          ((
            if v4 = v2 then
              some (0:Int32)
            else
              some (1:Int32)) : Option (Int32)).bind fun t20 =>
          (pv_wm T16 105 78 ((63:Int32) + v4) (q18 + t20)).bind fun T21 =>
          (f141_isA v1 (1:Int32) T21).bind fun q24 =>
          if q24 = 0 then
            (f156_comeOne v4 T21).bind fun T27 =>
            some T27
          else
            some T21) : Option (pv_T)).bind fun T10 =>
      some (.inl (v4 + (1:Int32), T10))
def f157_doCall_b1_H (xs : Nat → Int32) (L d : Nat) (r : Option Value × pv_M) (s : pv_F) (v1 : Int32) (v2 : Int32) (v3 : Int32) (st : Int32 × pv_T) : Prop := match st with
  | (v4, T) => pv_Ev xs L (d + 4) 157 (0, 0, 23, [some (.ref 94), some (.int v1), some (.int v2), some (.int v3), some (.int v4)], [], pv_mm s T) r
def f157_doCall_b1_X (xs : Nat → Int32) (L d : Nat) (r : Option Value × pv_M) (s : pv_F) (v1 : Int32) (v2 : Int32) (v3 : Int32) (st : Int32 × pv_T) : Prop := match st with
  | (v4, T) => ∀ z4 : Option Value, pv_Ev xs L (d + 4) 157 (0, 0, 100, [some (.ref 94), some (.int v1), some (.int v2), some (.int v3), z4], [], pv_mm s T) r
def f157_doCall (x1 : Int32) (x2 : Int32) (T : pv_T) : Option (Int32 × pv_T) :=
  (f153_comers x1 x2 T).bind fun q2 =>
  (pv_rd T.1 105 78 ((70:Int32) + x1)).bind fun q3 =>
  (pv_wm T 105 78 ((70:Int32) + x1) (q3 + (1:Int32))).bind fun T5 =>
  (pv_lq (f157_doCall_b1 x1 x2 q2) 20000 ((0:Int32), T5)).bind fun (w31, T32) =>
  some (q2, T32)
theorem f157_doCall_b1_ok {xs : Nat → Int32} {L d : Nat} {r : Option Value × pv_M} {s : pv_F} {v1 : Int32} {v2 : Int32} {v3 : Int32} (st : Int32 × pv_T) (o : (Int32 × pv_T) ⊕ (Int32 × pv_T)) (h : f157_doCall_b1 v1 v2 v3 st = some o) (hK : pv_Kq (f157_doCall_b1_H xs L d r s v1 v2 v3) (f157_doCall_b1_X xs L d r s v1 v2 v3) o) : f157_doCall_b1_H xs L d r s v1 v2 v3 st := by
  obtain ⟨v4, T⟩ := st
  show pv_Ev xs L (d + 4) 157 (0, 0, 23, [some (.ref 94), some (.int v1), some (.int v2), some (.int v3), some (.int v4)], [], pv_mm s T) r
  unfold f157_doCall_b1 at h
  dsimp only at h
  refine pv_e_bk (ps := [(23, .iload 4, 2), (25, .aload_n 0, 1)]) (t' := (0, 0, 26, [some (.ref 94), some (.int v1), some (.int v2), some (.int v3), some (.int v4)], [.ref 94, .int v4], pv_mm s T)) (by decide +kernel) rfl ?_
  refine pv_e_gm (i := 136) (ci := 6) (j := 8) (pc' := 29) (by decide +kernel) (by decide) rfl rfl rfl ?_
  refine pv_e_icmpge (off := 71) (b := 100) (pc' := 32) (by decide +kernel) (by decide +kernel) rfl (fun c7 => ?_) (fun c7 => ?_)
  · rw [if_pos c7] at h
    obtain rfl := Option.some.inj h
    exact hK _
  · rw [if_neg c7] at h
    refine pv_e_bk (ps := [(32, .iload_n 3, 1), (33, .iload 4, 2)]) (t' := (0, 0, 35, [some (.ref 94), some (.int v1), some (.int v2), some (.int v3), some (.int v4)], [.int v4, .int v3], pv_mm s T)) (by decide +kernel) rfl ?_
    obtain ⟨q9, e8, h⟩ := Option.bind_eq_some_iff.mp h
    refine pv_e_csi (d := d + 3) (i := 186) (z := 117) (np := 2) (ml := 2) (As := [.int v3, .int v4]) (rs := []) (pc' := 38) (by decide +kernel) rfl rfl rfl (Nat.le_of_ble_eq_true rfl) (Nat.le_of_ble_eq_true rfl) rfl (ee117 (d + 3) v3 v4 e8) ?_
    obtain ⟨T10, hv11, h⟩ := Option.bind_eq_some_iff.mp h
    have hJ12 : pv_Ev xs L (d + 4) 157 (0, 0, 94, [some (.ref 94), some (.int v1), some (.int v2), some (.int v3), some (.int v4)], [], pv_mm s T10) r := by
      refine pv_e_bk (ps := [(94, .iinc 4 1, 3), (97, .goto (-74), 3)]) (t' := (0, 0, 23, [some (.ref 94), some (.int v1), some (.int v2), some (.int v3), some (.int (v4 + (1:Int32)))], [], pv_mm s T10)) (by decide +kernel) rfl ?_
      obtain rfl := Option.some.inj h
      exact hK
    clear h
    have h := hv11
    clear hv11
    refine pv_e_ifeq (off := 56) (b := 94) (pc' := 41) (by decide +kernel) (by decide +kernel) rfl (fun c13 => ?_) (fun c13 => ?_)
    · rw [if_pos c13] at h
      obtain rfl := Option.some.inj h
      exact hJ12
    · rw [if_neg c13] at h
      refine pv_e_bk (ps := [(41, .aload_n 0, 1)]) (t' := (0, 0, 42, [some (.ref 94), some (.int v1), some (.int v2), some (.int v3), some (.int v4)], [.ref 94], pv_mm s T)) (by decide +kernel) rfl ?_
      refine pv_e_gr (i := 44) (ci := 6) (j := 17) (b := 105) (pc' := 45) (by decide +kernel) rfl rfl rfl ?_
      refine pv_e_bk (ps := [(45, .bipush 56, 2), (47, .iload 4, 2), (49, .iadd, 1), (50, .dup2, 1)]) (t' := (0, 0, 51, [some (.ref 94), some (.int v1), some (.int v2), some (.int v3), some (.int v4)], [.int ((56:Int32) + v4), .ref 105, .int ((56:Int32) + v4), .ref 105], pv_mm s T)) (by decide +kernel) rfl ?_
      obtain ⟨q14, e15, h⟩ := Option.bind_eq_some_iff.mp h
      refine pv_e_rm (pc' := 52) (by decide +kernel) (by decide) rfl e15 rfl ?_
      refine pv_e_bk (ps := [(52, .iconst 1, 1), (53, .iadd, 1)]) (t' := (0, 0, 54, [some (.ref 94), some (.int v1), some (.int v2), some (.int v3), some (.int v4)], [.int (q14 + (1:Int32)), .int ((56:Int32) + v4), .ref 105], pv_mm s T)) (by decide +kernel) rfl ?_
      obtain ⟨T16, e17, h⟩ := Option.bind_eq_some_iff.mp h
      refine pv_e_wm (pc' := 55) (by decide +kernel) (by decide) rfl e17 rfl ?_
      refine pv_e_bk (ps := [(55, .aload_n 0, 1)]) (t' := (0, 0, 56, [some (.ref 94), some (.int v1), some (.int v2), some (.int v3), some (.int v4)], [.ref 94], pv_mm s T16)) (by decide +kernel) rfl ?_
      refine pv_e_gr (i := 44) (ci := 6) (j := 17) (b := 105) (pc' := 59) (by decide +kernel) rfl rfl rfl ?_
      refine pv_e_bk (ps := [(59, .bipush 63, 2), (61, .iload 4, 2), (63, .iadd, 1), (64, .dup2, 1)]) (t' := (0, 0, 65, [some (.ref 94), some (.int v1), some (.int v2), some (.int v3), some (.int v4)], [.int ((63:Int32) + v4), .ref 105, .int ((63:Int32) + v4), .ref 105], pv_mm s T16)) (by decide +kernel) rfl ?_
      obtain ⟨q18, e19, h⟩ := Option.bind_eq_some_iff.mp h
      refine pv_e_rm (pc' := 66) (by decide +kernel) (by decide) rfl e19 rfl ?_
      refine pv_e_bk (ps := [(66, .iload 4, 2), (68, .iload_n 2, 1)]) (t' := (0, 0, 69, [some (.ref 94), some (.int v1), some (.int v2), some (.int v3), some (.int v4)], [.int v2, .int v4, .int q18, .int ((63:Int32) + v4), .ref 105], pv_mm s T16)) (by decide +kernel) rfl ?_
      obtain ⟨t20, hv28, h⟩ := Option.bind_eq_some_iff.mp h
      have hJ29 : pv_Ev xs L (d + 4) 157 (0, 0, 77, [some (.ref 94), some (.int v1), some (.int v2), some (.int v3), some (.int v4)], [.int t20, .int q18, .int ((63:Int32) + v4), .ref 105], pv_mm s T16) r := by
        refine pv_e_bk (ps := [(77, .iadd, 1)]) (t' := (0, 0, 78, [some (.ref 94), some (.int v1), some (.int v2), some (.int v3), some (.int v4)], [.int (q18 + t20), .int ((63:Int32) + v4), .ref 105], pv_mm s T16)) (by decide +kernel) rfl ?_
        obtain ⟨T21, e22, h⟩ := Option.bind_eq_some_iff.mp h
        refine pv_e_wm (pc' := 79) (by decide +kernel) (by decide) rfl e22 rfl ?_
        refine pv_e_bk (ps := [(79, .aload_n 0, 1), (80, .iload_n 1, 1), (81, .iconst 1, 1)]) (t' := (0, 0, 82, [some (.ref 94), some (.int v1), some (.int v2), some (.int v3), some (.int v4)], [.int (1:Int32), .int v1, .ref 94], pv_mm s T21)) (by decide +kernel) rfl ?_
        obtain ⟨q24, e23, h⟩ := Option.bind_eq_some_iff.mp h
        refine pv_e_cvi (d := d + 3) (i := 158) (z := 141) (np := 2) (ml := 3) (ci := 6) (As := [.int v1, .int (1:Int32)]) (rs := []) (pc' := 85) (by decide +kernel) rfl rfl rfl rfl (Nat.le_of_ble_eq_true rfl) (Nat.le_of_ble_eq_true rfl) rfl (ee141 (d + 3) v1 (1:Int32) e23) ?_
        refine pv_e_ifne (off := 9) (b := 94) (pc' := 88) (by decide +kernel) (by decide +kernel) rfl (fun c25 => ?_) (fun c25 => ?_)
        · rw [if_pos c25] at h
          refine pv_e_bk (ps := [(88, .aload_n 0, 1), (89, .iload 4, 2)]) (t' := (0, 0, 91, [some (.ref 94), some (.int v1), some (.int v2), some (.int v3), some (.int v4)], [.int v4, .ref 94], pv_mm s T21)) (by decide +kernel) rfl ?_
          obtain ⟨T27, e26, h⟩ := Option.bind_eq_some_iff.mp h
          refine pv_e_cvv (d := d + 3) (i := 189) (z := 156) (np := 1) (ml := 3) (ci := 6) (As := [.int v4]) (rs := []) (pc' := 94) (by decide +kernel) rfl rfl rfl rfl (Nat.le_of_ble_eq_true rfl) (Nat.le_of_ble_eq_true rfl) rfl (ee156 (d + 0) v4 e26) ?_
          obtain rfl := Option.some.inj h
          exact hJ12
        · rw [if_neg c25] at h
          obtain rfl := Option.some.inj h
          exact hJ12
      clear h
      have h := hv28
      clear hv28
      refine pv_e_icmpne (off := 7) (b := 76) (pc' := 72) (by decide +kernel) (by decide +kernel) rfl (fun c30 => ?_) (fun c30 => ?_)
      · rw [if_pos c30] at h
        refine pv_e_bk (ps := [(72, .iconst 0, 1), (73, .goto 4, 3)]) (t' := (0, 0, 77, [some (.ref 94), some (.int v1), some (.int v2), some (.int v3), some (.int v4)], [.int (0:Int32), .int q18, .int ((63:Int32) + v4), .ref 105], pv_mm s T16)) (by decide +kernel) rfl ?_
        obtain rfl := Option.some.inj h
        exact hJ29
      · rw [if_neg c30] at h
        refine pv_e_bk (ps := [(76, .iconst 1, 1)]) (t' := (0, 0, 77, [some (.ref 94), some (.int v1), some (.int v2), some (.int v3), some (.int v4)], [.int (1:Int32), .int q18, .int ((63:Int32) + v4), .ref 105], pv_mm s T16)) (by decide +kernel) rfl ?_
        obtain rfl := Option.some.inj h
        exact hJ29
theorem ee157 {xs : Nat → Int32} {L : Nat} (d : Nat) (x1 : Int32) (x2 : Int32) {s : pv_F} {T : pv_T} {q : Int32 × pv_T}  (h : f157_doCall x1 x2 T = some q) : pv_Ev xs L (d + 4) 157 (0, 0, 0, [some (.ref 94), some (.int x1), some (.int x2), none, none], [], pv_mm s T) (some (.int q.1), pv_mm s q.2) := by
  generalize hr : ((some (.int q.1), pv_mm s q.2) : Option Value × pv_M) = r
  unfold f157_doCall at h
  refine pv_e_bk (ps := [(0, .aload_n 0, 1), (1, .iload_n 1, 1), (2, .iload_n 2, 1)]) (t' := (0, 0, 3, [some (.ref 94), some (.int x1), some (.int x2), none, none], [.int x2, .int x1, .ref 94], pv_mm s T)) (by decide +kernel) rfl ?_
  obtain ⟨q2, e1, h⟩ := Option.bind_eq_some_iff.mp h
  refine pv_e_cvi (d := d + 3) (i := 164) (z := 153) (np := 2) (ml := 6) (ci := 6) (As := [.int x1, .int x2]) (rs := []) (pc' := 6) (by decide +kernel) rfl rfl rfl rfl (Nat.le_of_ble_eq_true rfl) (Nat.le_of_ble_eq_true rfl) rfl (ee153 (d + 1) x1 x2 e1) ?_
  refine pv_e_bk (ps := [(6, .istore_n 3, 1), (7, .aload_n 0, 1)]) (t' := (0, 0, 8, [some (.ref 94), some (.int x1), some (.int x2), some (.int q2), none], [.ref 94], pv_mm s T)) (by decide +kernel) rfl ?_
  refine pv_e_gr (i := 44) (ci := 6) (j := 17) (b := 105) (pc' := 11) (by decide +kernel) rfl rfl rfl ?_
  refine pv_e_bk (ps := [(11, .bipush 70, 2), (13, .iload_n 1, 1), (14, .iadd, 1), (15, .dup2, 1)]) (t' := (0, 0, 16, [some (.ref 94), some (.int x1), some (.int x2), some (.int q2), none], [.int ((70:Int32) + x1), .ref 105, .int ((70:Int32) + x1), .ref 105], pv_mm s T)) (by decide +kernel) rfl ?_
  obtain ⟨q3, e4, h⟩ := Option.bind_eq_some_iff.mp h
  refine pv_e_rm (pc' := 17) (by decide +kernel) (by decide) rfl e4 rfl ?_
  refine pv_e_bk (ps := [(17, .iconst 1, 1), (18, .iadd, 1)]) (t' := (0, 0, 19, [some (.ref 94), some (.int x1), some (.int x2), some (.int q2), none], [.int (q3 + (1:Int32)), .int ((70:Int32) + x1), .ref 105], pv_mm s T)) (by decide +kernel) rfl ?_
  obtain ⟨T5, e6, h⟩ := Option.bind_eq_some_iff.mp h
  refine pv_e_wm (pc' := 20) (by decide +kernel) (by decide) rfl e6 rfl ?_
  refine pv_e_bk (ps := [(20, .iconst 0, 1), (21, .istore 4, 2)]) (t' := (0, 0, 23, [some (.ref 94), some (.int x1), some (.int x2), some (.int q2), some (.int (0:Int32))], [], pv_mm s T5)) (by decide +kernel) rfl ?_
  obtain ⟨⟨w31, T32⟩, e34, h⟩ := Option.bind_eq_some_iff.mp h
  dsimp only at h
  have hx33 : f157_doCall_b1_X xs L d r s x1 x2 q2 (w31, T32) := by
    show ∀ z4 : Option Value, pv_Ev xs L (d + 4) 157 (0, 0, 100, [some (.ref 94), some (.int x1), some (.int x2), some (.int q2), z4], [], pv_mm s T32) r
    intro z4
    refine pv_e_bk (ps := [(100, .iload_n 3, 1)]) (t' := (0, 0, 101, [some (.ref 94), some (.int x1), some (.int x2), some (.int q2), z4], [.int q2], pv_mm s T32)) (by decide +kernel) rfl ?_
    obtain rfl := Option.some.inj h
    cases hr
    exact pv_e_ri (by decide +kernel)
  exact pv_lq_ok (H := f157_doCall_b1_H xs L d r s x1 x2 q2) (X := f157_doCall_b1_X xs L d r s x1 x2 q2) (f157_doCall_b1_ok (xs := xs) (L := L) (d := d) (r := r) (s := s) (v1 := x1) (v2 := x2) (v3 := q2)) 20000 _ _ e34 hx33
def f158_note_b1 (st : Int32 × pv_T) : Option ((Int32 × pv_T) ⊕ (Int32 × pv_T)) := match st with
  | (v1, T) =>
    if (78:Int32) ≤ v1 then
      some (.inr (v1, T))
    else
      (pv_rd T.1 105 78 v1).bind fun q2 =>
      (pv_wm T 106 4680 (((78:Int32) * (T.1 94 18)) + v1) q2).bind fun T4 =>
      some (.inl (v1 + (1:Int32), T4))
def f158_note_b1_H (xs : Nat → Int32) (L d : Nat) (r : Option Value × pv_M) (s : pv_F) (st : Int32 × pv_T) : Prop := match st with
  | (v1, T) => pv_Ev xs L (d + 0) 158 (0, 0, 2, [some (.ref 94), some (.int v1)], [], pv_mm s T) r
def f158_note_b1_X (xs : Nat → Int32) (L d : Nat) (r : Option Value × pv_M) (s : pv_F) (st : Int32 × pv_T) : Prop := match st with
  | (v1, T) => ∀ z1 : Option Value, pv_Ev xs L (d + 0) 158 (0, 0, 34, [some (.ref 94), z1], [], pv_mm s T) r
def f158_note (T : pv_T) : Option (pv_T) :=
  (pv_lq (f158_note_b1) 20000 ((0:Int32), T)).bind fun (w6, T7) =>
  (pv_pm T7 94 18 ((T7.1 94 18) + (1:Int32))).bind fun T8 =>
  some T8
theorem f158_note_b1_ok {xs : Nat → Int32} {L d : Nat} {r : Option Value × pv_M} {s : pv_F} (st : Int32 × pv_T) (o : (Int32 × pv_T) ⊕ (Int32 × pv_T)) (h : f158_note_b1 st = some o) (hK : pv_Kq (f158_note_b1_H xs L d r s ) (f158_note_b1_X xs L d r s ) o) : f158_note_b1_H xs L d r s  st := by
  obtain ⟨v1, T⟩ := st
  show pv_Ev xs L (d + 0) 158 (0, 0, 2, [some (.ref 94), some (.int v1)], [], pv_mm s T) r
  unfold f158_note_b1 at h
  dsimp only at h
  refine pv_e_bk (ps := [(2, .iload_n 1, 1), (3, .bipush 78, 2)]) (t' := (0, 0, 5, [some (.ref 94), some (.int v1)], [.int (78:Int32), .int v1], pv_mm s T)) (by decide +kernel) rfl ?_
  refine pv_e_icmpge (off := 29) (b := 34) (pc' := 8) (by decide +kernel) (by decide +kernel) rfl (fun c1 => ?_) (fun c1 => ?_)
  · rw [if_pos c1] at h
    obtain rfl := Option.some.inj h
    exact hK _
  · rw [if_neg c1] at h
    refine pv_e_bk (ps := [(8, .aload_n 0, 1)]) (t' := (0, 0, 9, [some (.ref 94), some (.int v1)], [.ref 94], pv_mm s T)) (by decide +kernel) rfl ?_
    refine pv_e_gr (i := 47) (ci := 6) (j := 19) (b := 106) (pc' := 12) (by decide +kernel) rfl rfl rfl ?_
    refine pv_e_bk (ps := [(12, .bipush 78, 2), (14, .aload_n 0, 1)]) (t' := (0, 0, 15, [some (.ref 94), some (.int v1)], [.ref 94, .int (78:Int32), .ref 106], pv_mm s T)) (by decide +kernel) rfl ?_
    refine pv_e_gm (i := 139) (ci := 6) (j := 18) (pc' := 18) (by decide +kernel) (by decide) rfl rfl rfl ?_
    refine pv_e_bk (ps := [(18, .imul, 1), (19, .iload_n 1, 1), (20, .iadd, 1), (21, .aload_n 0, 1)]) (t' := (0, 0, 22, [some (.ref 94), some (.int v1)], [.ref 94, .int (((78:Int32) * (T.1 94 18)) + v1), .ref 106], pv_mm s T)) (by decide +kernel) rfl ?_
    refine pv_e_gr (i := 44) (ci := 6) (j := 17) (b := 105) (pc' := 25) (by decide +kernel) rfl rfl rfl ?_
    refine pv_e_bk (ps := [(25, .iload_n 1, 1)]) (t' := (0, 0, 26, [some (.ref 94), some (.int v1)], [.int v1, .ref 105, .int (((78:Int32) * (T.1 94 18)) + v1), .ref 106], pv_mm s T)) (by decide +kernel) rfl ?_
    obtain ⟨q2, e3, h⟩ := Option.bind_eq_some_iff.mp h
    refine pv_e_rm (pc' := 27) (by decide +kernel) (by decide) rfl e3 rfl ?_
    obtain ⟨T4, e5, h⟩ := Option.bind_eq_some_iff.mp h
    refine pv_e_wm (pc' := 28) (by decide +kernel) (by decide) rfl e5 rfl ?_
    refine pv_e_bk (ps := [(28, .iinc 1 1, 3), (31, .goto (-29), 3)]) (t' := (0, 0, 2, [some (.ref 94), some (.int (v1 + (1:Int32)))], [], pv_mm s T4)) (by decide +kernel) rfl ?_
    obtain rfl := Option.some.inj h
    exact hK
theorem ee158 {xs : Nat → Int32} {L : Nat} (d : Nat)  {s : pv_F} {T : pv_T} {q : pv_T}  (h : f158_note T = some q) : pv_Ev xs L (d + 0) 158 (0, 0, 0, [some (.ref 94), none], [], pv_mm s T) (none, pv_mm s q) := by
  generalize hr : ((none, pv_mm s q) : Option Value × pv_M) = r
  unfold f158_note at h
  refine pv_e_bk (ps := [(0, .iconst 0, 1), (1, .istore_n 1, 1)]) (t' := (0, 0, 2, [some (.ref 94), some (.int (0:Int32))], [], pv_mm s T)) (by decide +kernel) rfl ?_
  obtain ⟨⟨w6, T7⟩, e11, h⟩ := Option.bind_eq_some_iff.mp h
  dsimp only at h
  have hx10 : f158_note_b1_X xs L d r s (w6, T7) := by
    show ∀ z1 : Option Value, pv_Ev xs L (d + 0) 158 (0, 0, 34, [some (.ref 94), z1], [], pv_mm s T7) r
    intro z1
    refine pv_e_bk (ps := [(34, .aload_n 0, 1), (35, .dup, 1)]) (t' := (0, 0, 36, [some (.ref 94), z1], [.ref 94, .ref 94], pv_mm s T7)) (by decide +kernel) rfl ?_
    refine pv_e_gm (i := 139) (ci := 6) (j := 18) (pc' := 39) (by decide +kernel) (by decide) rfl rfl rfl ?_
    refine pv_e_bk (ps := [(39, .iconst 1, 1), (40, .iadd, 1)]) (t' := (0, 0, 41, [some (.ref 94), z1], [.int ((T7.1 94 18) + (1:Int32)), .ref 94], pv_mm s T7)) (by decide +kernel) rfl ?_
    obtain ⟨T8, e9, h⟩ := Option.bind_eq_some_iff.mp h
    refine pv_e_pms (i := 139) (ci := 6) (j := 18) (pc' := 44) (by decide +kernel) rfl rfl (by decide) rfl rfl e9 rfl ?_
    obtain rfl := Option.some.inj h
    cases hr
    exact pv_e_rv (by decide +kernel)
  exact pv_lq_ok (H := f158_note_b1_H xs L d r s) (X := f158_note_b1_X xs L d r s) (f158_note_b1_ok (xs := xs) (L := L) (d := d) (r := r) (s := s)) 20000 _ _ e11 hx10
def f159_areTwo (x1 : Int32) (x2 : Int32) (T : pv_T) : Option (Int32) :=
  (f140_isOne x1 T).bind fun q2 =>
  ((
    if q2 = 0 then
      some (0:Int32)
    else
      (f140_isOne x2 T).bind fun q10 =>
      if q10 = 0 then
        some (0:Int32)
      else
        if x1 = x2 then
          some (0:Int32)
        else
          some (1:Int32)) : Option (Int32)).bind fun t3 =>
  (pv_bl t3).bind fun q4 => some q4
theorem ee159 {xs : Nat → Int32} {L : Nat} (d : Nat) (x1 : Int32) (x2 : Int32) {s : pv_F} {T : pv_T} {q : Int32}  (h : f159_areTwo x1 x2 T = some q) : pv_Ev xs L (d + 2) 159 (0, 0, 0, [some (.ref 94), some (.int x1), some (.int x2)], [], pv_mm s T) (some (.int q), pv_mm s T) := by
  generalize hr : ((some (.int q), pv_mm s T) : Option Value × pv_M) = r
  unfold f159_areTwo at h
  refine pv_e_bk (ps := [(0, .aload_n 0, 1), (1, .iload_n 1, 1)]) (t' := (0, 0, 2, [some (.ref 94), some (.int x1), some (.int x2)], [.int x1, .ref 94], pv_mm s T)) (by decide +kernel) rfl ?_
  obtain ⟨q2, e1, h⟩ := Option.bind_eq_some_iff.mp h
  refine pv_e_cvi (d := d + 1) (i := 152) (z := 140) (np := 1) (ml := 2) (ci := 6) (As := [.int x1]) (rs := []) (pc' := 5) (by decide +kernel) rfl rfl rfl rfl (Nat.le_of_ble_eq_true rfl) (Nat.le_of_ble_eq_true rfl) rfl (ee140 (d + 0) x1 e1) ?_
  obtain ⟨t3, hv6, h⟩ := Option.bind_eq_some_iff.mp h
  have hJ7 : pv_Ev xs L (d + 2) 159 (0, 0, 26, [some (.ref 94), some (.int x1), some (.int x2)], [.int t3], pv_mm s T) r := by
    obtain ⟨q4, e5, h⟩ := Option.bind_eq_some_iff.mp h
    obtain rfl := Option.some.inj h
    cases hr
    exact pv_e_rz (by decide +kernel) e5
  clear h
  have h := hv6
  clear hv6
  refine pv_e_ifeq (off := 20) (b := 25) (pc' := 8) (by decide +kernel) (by decide +kernel) rfl (fun c8 => ?_) (fun c8 => ?_)
  · rw [if_pos c8] at h
    refine pv_e_bk (ps := [(25, .iconst 0, 1)]) (t' := (0, 0, 26, [some (.ref 94), some (.int x1), some (.int x2)], [.int (0:Int32)], pv_mm s T)) (by decide +kernel) rfl ?_
    obtain rfl := Option.some.inj h
    exact hJ7
  · rw [if_neg c8] at h
    refine pv_e_bk (ps := [(8, .aload_n 0, 1), (9, .iload_n 2, 1)]) (t' := (0, 0, 10, [some (.ref 94), some (.int x1), some (.int x2)], [.int x2, .ref 94], pv_mm s T)) (by decide +kernel) rfl ?_
    obtain ⟨q10, e9, h⟩ := Option.bind_eq_some_iff.mp h
    refine pv_e_cvi (d := d + 1) (i := 152) (z := 140) (np := 1) (ml := 2) (ci := 6) (As := [.int x2]) (rs := []) (pc' := 13) (by decide +kernel) rfl rfl rfl rfl (Nat.le_of_ble_eq_true rfl) (Nat.le_of_ble_eq_true rfl) rfl (ee140 (d + 0) x2 e9) ?_
    refine pv_e_ifeq (off := 12) (b := 25) (pc' := 16) (by decide +kernel) (by decide +kernel) rfl (fun c11 => ?_) (fun c11 => ?_)
    · rw [if_pos c11] at h
      refine pv_e_bk (ps := [(25, .iconst 0, 1)]) (t' := (0, 0, 26, [some (.ref 94), some (.int x1), some (.int x2)], [.int (0:Int32)], pv_mm s T)) (by decide +kernel) rfl ?_
      obtain rfl := Option.some.inj h
      exact hJ7
    · rw [if_neg c11] at h
      refine pv_e_bk (ps := [(16, .iload_n 1, 1), (17, .iload_n 2, 1)]) (t' := (0, 0, 18, [some (.ref 94), some (.int x1), some (.int x2)], [.int x2, .int x1], pv_mm s T)) (by decide +kernel) rfl ?_
      refine pv_e_icmpeq (off := 7) (b := 25) (pc' := 21) (by decide +kernel) (by decide +kernel) rfl (fun c12 => ?_) (fun c12 => ?_)
      · rw [if_pos c12] at h
        refine pv_e_bk (ps := [(25, .iconst 0, 1)]) (t' := (0, 0, 26, [some (.ref 94), some (.int x1), some (.int x2)], [.int (0:Int32)], pv_mm s T)) (by decide +kernel) rfl ?_
        obtain rfl := Option.some.inj h
        exact hJ7
      · rw [if_neg c12] at h
        refine pv_e_bk (ps := [(21, .iconst 1, 1), (22, .goto 4, 3)]) (t' := (0, 0, 26, [some (.ref 94), some (.int x1), some (.int x2)], [.int (1:Int32)], pv_mm s T)) (by decide +kernel) rfl ?_
        obtain rfl := Option.some.inj h
        exact hJ7
def f160_call (x1 : Int32) (x2 : Int32) (T : pv_T) : Option (Int32 × pv_T) :=
  (f159_areTwo x1 x2 T).bind fun q2 =>
  if q2 = 0 then
    some ((-1:Int32), T)
  else
    (f152_mayCall x1 x2 T).bind fun q5 =>
    if q5 = 0 then
      some ((-4:Int32), T)
    else
      if (T.1 94 18) = (60:Int32) then
        some ((-2:Int32), T)
      else
        (f158_note T).bind fun T9 =>
        (f157_doCall x1 x2 T9).bind fun (q11, T12) =>
        some (q11, T12)
theorem ee160 {xs : Nat → Int32} {L : Nat} (d : Nat) (x1 : Int32) (x2 : Int32) {s : pv_F} {T : pv_T} {q : Int32 × pv_T}  (h : f160_call x1 x2 T = some q) : pv_Ev xs L (d + 5) 160 (0, 0, 0, [some (.ref 94), some (.int x1), some (.int x2)], [], pv_mm s T) (some (.int q.1), pv_mm s q.2) := by
  generalize hr : ((some (.int q.1), pv_mm s q.2) : Option Value × pv_M) = r
  unfold f160_call at h
  refine pv_e_bk (ps := [(0, .aload_n 0, 1), (1, .iload_n 1, 1), (2, .iload_n 2, 1)]) (t' := (0, 0, 3, [some (.ref 94), some (.int x1), some (.int x2)], [.int x2, .int x1, .ref 94], pv_mm s T)) (by decide +kernel) rfl ?_
  obtain ⟨q2, e1, h⟩ := Option.bind_eq_some_iff.mp h
  refine pv_e_cvi (d := d + 4) (i := 193) (z := 159) (np := 2) (ml := 3) (ci := 6) (As := [.int x1, .int x2]) (rs := []) (pc' := 6) (by decide +kernel) rfl rfl rfl rfl (Nat.le_of_ble_eq_true rfl) (Nat.le_of_ble_eq_true rfl) rfl (ee159 (d + 2) x1 x2 e1) ?_
  refine pv_e_ifne (off := 5) (b := 11) (pc' := 9) (by decide +kernel) (by decide +kernel) rfl (fun c3 => ?_) (fun c3 => ?_)
  · rw [if_pos c3] at h
    refine pv_e_bk (ps := [(9, .iconst (-1), 1)]) (t' := (0, 0, 10, [some (.ref 94), some (.int x1), some (.int x2)], [.int (-1:Int32)], pv_mm s T)) (by decide +kernel) rfl ?_
    obtain rfl := Option.some.inj h
    cases hr
    exact pv_e_ri (by decide +kernel)
  · rw [if_neg c3] at h
    refine pv_e_bk (ps := [(11, .aload_n 0, 1), (12, .iload_n 1, 1), (13, .iload_n 2, 1)]) (t' := (0, 0, 14, [some (.ref 94), some (.int x1), some (.int x2)], [.int x2, .int x1, .ref 94], pv_mm s T)) (by decide +kernel) rfl ?_
    obtain ⟨q5, e4, h⟩ := Option.bind_eq_some_iff.mp h
    refine pv_e_cvi (d := d + 4) (i := 161) (z := 152) (np := 2) (ml := 3) (ci := 6) (As := [.int x1, .int x2]) (rs := []) (pc' := 17) (by decide +kernel) rfl rfl rfl rfl (Nat.le_of_ble_eq_true rfl) (Nat.le_of_ble_eq_true rfl) rfl (ee152 (d + 3) x1 x2 e4) ?_
    refine pv_e_ifne (off := 6) (b := 23) (pc' := 20) (by decide +kernel) (by decide +kernel) rfl (fun c6 => ?_) (fun c6 => ?_)
    · rw [if_pos c6] at h
      refine pv_e_bk (ps := [(20, .bipush (-4), 2)]) (t' := (0, 0, 22, [some (.ref 94), some (.int x1), some (.int x2)], [.int (-4:Int32)], pv_mm s T)) (by decide +kernel) rfl ?_
      obtain rfl := Option.some.inj h
      cases hr
      exact pv_e_ri (by decide +kernel)
    · rw [if_neg c6] at h
      refine pv_e_bk (ps := [(23, .aload_n 0, 1)]) (t' := (0, 0, 24, [some (.ref 94), some (.int x1), some (.int x2)], [.ref 94], pv_mm s T)) (by decide +kernel) rfl ?_
      refine pv_e_gm (i := 139) (ci := 6) (j := 18) (pc' := 27) (by decide +kernel) (by decide) rfl rfl rfl ?_
      refine pv_e_bk (ps := [(27, .bipush 60, 2)]) (t' := (0, 0, 29, [some (.ref 94), some (.int x1), some (.int x2)], [.int (60:Int32), .int (T.1 94 18)], pv_mm s T)) (by decide +kernel) rfl ?_
      refine pv_e_icmpne (off := 6) (b := 35) (pc' := 32) (by decide +kernel) (by decide +kernel) rfl (fun c7 => ?_) (fun c7 => ?_)
      · rw [if_pos c7] at h
        refine pv_e_bk (ps := [(32, .bipush (-2), 2)]) (t' := (0, 0, 34, [some (.ref 94), some (.int x1), some (.int x2)], [.int (-2:Int32)], pv_mm s T)) (by decide +kernel) rfl ?_
        obtain rfl := Option.some.inj h
        cases hr
        exact pv_e_ri (by decide +kernel)
      · rw [if_neg c7] at h
        refine pv_e_bk (ps := [(35, .aload_n 0, 1)]) (t' := (0, 0, 36, [some (.ref 94), some (.int x1), some (.int x2)], [.ref 94], pv_mm s T)) (by decide +kernel) rfl ?_
        obtain ⟨T9, e8, h⟩ := Option.bind_eq_some_iff.mp h
        refine pv_e_cvv (d := d + 4) (i := 196) (z := 158) (np := 0) (ml := 2) (ci := 6) (As := []) (rs := []) (pc' := 39) (by decide +kernel) rfl rfl rfl rfl (Nat.le_of_ble_eq_true rfl) (Nat.le_of_ble_eq_true rfl) rfl (ee158 (d + 4) e8) ?_
        refine pv_e_bk (ps := [(39, .aload_n 0, 1), (40, .iload_n 1, 1), (41, .iload_n 2, 1)]) (t' := (0, 0, 42, [some (.ref 94), some (.int x1), some (.int x2)], [.int x2, .int x1, .ref 94], pv_mm s T9)) (by decide +kernel) rfl ?_
        obtain ⟨⟨q11, T12⟩, e10, h⟩ := Option.bind_eq_some_iff.mp h
        dsimp only at h
        refine pv_e_cvi (d := d + 4) (i := 199) (z := 157) (np := 2) (ml := 5) (ci := 6) (As := [.int x1, .int x2]) (rs := []) (pc' := 45) (by decide +kernel) rfl rfl rfl rfl (Nat.le_of_ble_eq_true rfl) (Nat.le_of_ble_eq_true rfl) rfl (ee157 (d + 0) x1 x2 e10) ?_
        obtain rfl := Option.some.inj h
        cases hr
        exact pv_e_ri (by decide +kernel)
def f161_mend (x1 : Int32) (x2 : Int32) (x3 : Int32) (T : pv_T) : Option (Int32 × pv_T) :=
  (f140_isOne x1 T).bind fun q2 =>
  if q2 = 0 then
    some ((-1:Int32), T)
  else
    (f140_isOne x2 T).bind fun q5 =>
    if q5 = 0 then
      some ((-1:Int32), T)
    else
      (f134_isLetter x3).bind fun q8 =>
      if q8 = 0 then
        some ((-1:Int32), T)
      else
        (pv_rd T.1 101 7 x1).bind fun q10 =>
        if q10 = (2:Int32) then
          (pv_rd T.1 101 7 x2).bind fun q13 =>
          if q13 = (3:Int32) then
            some ((-4:Int32), T)
          else
            (f142_lenOf x2 T).bind fun q17 =>
            if q17 = (6:Int32) then
              some ((-4:Int32), T)
            else
              if (T.1 94 18) = (60:Int32) then
                some ((-2:Int32), T)
              else
                (f158_note T).bind fun T21 =>
                (f142_lenOf x2 T21).bind fun q23 =>
                (pv_wm T21 105 78 (((6:Int32) * x2) + q23) x3).bind fun T24 =>
                (pv_rd T24.1 105 78 ((42:Int32) + x2)).bind fun q26 =>
                (pv_wm T24 105 78 ((42:Int32) + x2) (q26 + (1:Int32))).bind fun T28 =>
                (f135_isVowel x3).bind fun q31 =>
                ((
                  if q31 = 0 then
                    some (1:Int32)
                  else
                    some (T28.1 94 10)) : Option (Int32)).bind fun t32 =>
                (pv_rd T28.1 105 78 (77:Int32)).bind fun q33 =>
                (pv_wm T28 105 78 (77:Int32) (q33 + t32)).bind fun T35 =>
                some (t32, T35)
        else
          (f115_meet (3:Int32) T).bind fun (q41, T42) =>
          some (q41, T42)
theorem ee161 {xs : Nat → Int32} {L : Nat} (d : Nat) (x1 : Int32) (x2 : Int32) (x3 : Int32) {s : pv_F} {T : pv_T} {q : Int32 × pv_T}  (h : f161_mend x1 x2 x3 T = some q) : pv_Ev xs L (d + 2) 161 (0, 0, 0, [some (.ref 94), some (.int x1), some (.int x2), some (.int x3), none], [], pv_mm s T) (some (.int q.1), pv_mm s q.2) := by
  generalize hr : ((some (.int q.1), pv_mm s q.2) : Option Value × pv_M) = r
  unfold f161_mend at h
  refine pv_e_bk (ps := [(0, .aload_n 0, 1), (1, .iload_n 1, 1)]) (t' := (0, 0, 2, [some (.ref 94), some (.int x1), some (.int x2), some (.int x3), none], [.int x1, .ref 94], pv_mm s T)) (by decide +kernel) rfl ?_
  obtain ⟨q2, e1, h⟩ := Option.bind_eq_some_iff.mp h
  refine pv_e_cvi (d := d + 1) (i := 152) (z := 140) (np := 1) (ml := 2) (ci := 6) (As := [.int x1]) (rs := []) (pc' := 5) (by decide +kernel) rfl rfl rfl rfl (Nat.le_of_ble_eq_true rfl) (Nat.le_of_ble_eq_true rfl) rfl (ee140 (d + 0) x1 e1) ?_
  refine pv_e_ifeq (off := 18) (b := 23) (pc' := 8) (by decide +kernel) (by decide +kernel) rfl (fun c3 => ?_) (fun c3 => ?_)
  · rw [if_pos c3] at h
    refine pv_e_bk (ps := [(23, .iconst (-1), 1)]) (t' := (0, 0, 24, [some (.ref 94), some (.int x1), some (.int x2), some (.int x3), none], [.int (-1:Int32)], pv_mm s T)) (by decide +kernel) rfl ?_
    obtain rfl := Option.some.inj h
    cases hr
    exact pv_e_ri (by decide +kernel)
  · rw [if_neg c3] at h
    refine pv_e_bk (ps := [(8, .aload_n 0, 1), (9, .iload_n 2, 1)]) (t' := (0, 0, 10, [some (.ref 94), some (.int x1), some (.int x2), some (.int x3), none], [.int x2, .ref 94], pv_mm s T)) (by decide +kernel) rfl ?_
    obtain ⟨q5, e4, h⟩ := Option.bind_eq_some_iff.mp h
    refine pv_e_cvi (d := d + 1) (i := 152) (z := 140) (np := 1) (ml := 2) (ci := 6) (As := [.int x2]) (rs := []) (pc' := 13) (by decide +kernel) rfl rfl rfl rfl (Nat.le_of_ble_eq_true rfl) (Nat.le_of_ble_eq_true rfl) rfl (ee140 (d + 0) x2 e4) ?_
    refine pv_e_ifeq (off := 10) (b := 23) (pc' := 16) (by decide +kernel) (by decide +kernel) rfl (fun c6 => ?_) (fun c6 => ?_)
    · rw [if_pos c6] at h
      refine pv_e_bk (ps := [(23, .iconst (-1), 1)]) (t' := (0, 0, 24, [some (.ref 94), some (.int x1), some (.int x2), some (.int x3), none], [.int (-1:Int32)], pv_mm s T)) (by decide +kernel) rfl ?_
      obtain rfl := Option.some.inj h
      cases hr
      exact pv_e_ri (by decide +kernel)
    · rw [if_neg c6] at h
      refine pv_e_bk (ps := [(16, .iload_n 3, 1)]) (t' := (0, 0, 17, [some (.ref 94), some (.int x1), some (.int x2), some (.int x3), none], [.int x3], pv_mm s T)) (by decide +kernel) rfl ?_
      obtain ⟨q8, e7, h⟩ := Option.bind_eq_some_iff.mp h
      refine pv_e_csi (d := d + 1) (i := 127) (z := 134) (np := 1) (ml := 1) (As := [.int x3]) (rs := []) (pc' := 20) (by decide +kernel) rfl rfl rfl (Nat.le_of_ble_eq_true rfl) (Nat.le_of_ble_eq_true rfl) rfl (ee134 (d + 0) x3 e7) ?_
      refine pv_e_ifne (off := 5) (b := 25) (pc' := 23) (by decide +kernel) (by decide +kernel) rfl (fun c9 => ?_) (fun c9 => ?_)
      · rw [if_pos c9] at h
        refine pv_e_bk (ps := [(23, .iconst (-1), 1)]) (t' := (0, 0, 24, [some (.ref 94), some (.int x1), some (.int x2), some (.int x3), none], [.int (-1:Int32)], pv_mm s T)) (by decide +kernel) rfl ?_
        obtain rfl := Option.some.inj h
        cases hr
        exact pv_e_ri (by decide +kernel)
      · rw [if_neg c9] at h
        refine pv_e_bk (ps := [(25, .aload_n 0, 1)]) (t' := (0, 0, 26, [some (.ref 94), some (.int x1), some (.int x2), some (.int x3), none], [.ref 94], pv_mm s T)) (by decide +kernel) rfl ?_
        refine pv_e_gr (i := 32) (ci := 6) (j := 11) (b := 101) (pc' := 29) (by decide +kernel) rfl rfl rfl ?_
        refine pv_e_bk (ps := [(29, .iload_n 1, 1)]) (t' := (0, 0, 30, [some (.ref 94), some (.int x1), some (.int x2), some (.int x3), none], [.int x1, .ref 101], pv_mm s T)) (by decide +kernel) rfl ?_
        obtain ⟨q10, e11, h⟩ := Option.bind_eq_some_iff.mp h
        refine pv_e_rm (pc' := 31) (by decide +kernel) (by decide) rfl e11 rfl ?_
        refine pv_e_bk (ps := [(31, .iconst 2, 1)]) (t' := (0, 0, 32, [some (.ref 94), some (.int x1), some (.int x2), some (.int x3), none], [.int (2:Int32), .int q10], pv_mm s T)) (by decide +kernel) rfl ?_
        refine pv_e_icmpeq (off := 9) (b := 41) (pc' := 35) (by decide +kernel) (by decide +kernel) rfl (fun c12 => ?_) (fun c12 => ?_)
        · rw [if_pos c12] at h
          refine pv_e_bk (ps := [(41, .aload_n 0, 1)]) (t' := (0, 0, 42, [some (.ref 94), some (.int x1), some (.int x2), some (.int x3), none], [.ref 94], pv_mm s T)) (by decide +kernel) rfl ?_
          refine pv_e_gr (i := 32) (ci := 6) (j := 11) (b := 101) (pc' := 45) (by decide +kernel) rfl rfl rfl ?_
          refine pv_e_bk (ps := [(45, .iload_n 2, 1)]) (t' := (0, 0, 46, [some (.ref 94), some (.int x1), some (.int x2), some (.int x3), none], [.int x2, .ref 101], pv_mm s T)) (by decide +kernel) rfl ?_
          obtain ⟨q13, e14, h⟩ := Option.bind_eq_some_iff.mp h
          refine pv_e_rm (pc' := 47) (by decide +kernel) (by decide) rfl e14 rfl ?_
          refine pv_e_bk (ps := [(47, .iconst 3, 1)]) (t' := (0, 0, 48, [some (.ref 94), some (.int x1), some (.int x2), some (.int x3), none], [.int (3:Int32), .int q13], pv_mm s T)) (by decide +kernel) rfl ?_
          refine pv_e_icmpeq (off := 13) (b := 61) (pc' := 51) (by decide +kernel) (by decide +kernel) rfl (fun c15 => ?_) (fun c15 => ?_)
          · rw [if_pos c15] at h
            refine pv_e_bk (ps := [(61, .bipush (-4), 2)]) (t' := (0, 0, 63, [some (.ref 94), some (.int x1), some (.int x2), some (.int x3), none], [.int (-4:Int32)], pv_mm s T)) (by decide +kernel) rfl ?_
            obtain rfl := Option.some.inj h
            cases hr
            exact pv_e_ri (by decide +kernel)
          · rw [if_neg c15] at h
            refine pv_e_bk (ps := [(51, .aload_n 0, 1), (52, .iload_n 2, 1)]) (t' := (0, 0, 53, [some (.ref 94), some (.int x1), some (.int x2), some (.int x3), none], [.int x2, .ref 94], pv_mm s T)) (by decide +kernel) rfl ?_
            obtain ⟨q17, e16, h⟩ := Option.bind_eq_some_iff.mp h
            refine pv_e_cvi (d := d + 1) (i := 142) (z := 142) (np := 1) (ml := 2) (ci := 6) (As := [.int x2]) (rs := []) (pc' := 56) (by decide +kernel) rfl rfl rfl rfl (Nat.le_of_ble_eq_true rfl) (Nat.le_of_ble_eq_true rfl) rfl (ee142 (d + 1) x2 e16) ?_
            refine pv_e_bk (ps := [(56, .bipush 6, 2)]) (t' := (0, 0, 58, [some (.ref 94), some (.int x1), some (.int x2), some (.int x3), none], [.int (6:Int32), .int q17], pv_mm s T)) (by decide +kernel) rfl ?_
            refine pv_e_icmpne (off := 6) (b := 64) (pc' := 61) (by decide +kernel) (by decide +kernel) rfl (fun c18 => ?_) (fun c18 => ?_)
            · rw [if_pos c18] at h
              refine pv_e_bk (ps := [(61, .bipush (-4), 2)]) (t' := (0, 0, 63, [some (.ref 94), some (.int x1), some (.int x2), some (.int x3), none], [.int (-4:Int32)], pv_mm s T)) (by decide +kernel) rfl ?_
              obtain rfl := Option.some.inj h
              cases hr
              exact pv_e_ri (by decide +kernel)
            · rw [if_neg c18] at h
              refine pv_e_bk (ps := [(64, .aload_n 0, 1)]) (t' := (0, 0, 65, [some (.ref 94), some (.int x1), some (.int x2), some (.int x3), none], [.ref 94], pv_mm s T)) (by decide +kernel) rfl ?_
              refine pv_e_gm (i := 139) (ci := 6) (j := 18) (pc' := 68) (by decide +kernel) (by decide) rfl rfl rfl ?_
              refine pv_e_bk (ps := [(68, .bipush 60, 2)]) (t' := (0, 0, 70, [some (.ref 94), some (.int x1), some (.int x2), some (.int x3), none], [.int (60:Int32), .int (T.1 94 18)], pv_mm s T)) (by decide +kernel) rfl ?_
              refine pv_e_icmpne (off := 6) (b := 76) (pc' := 73) (by decide +kernel) (by decide +kernel) rfl (fun c19 => ?_) (fun c19 => ?_)
              · rw [if_pos c19] at h
                refine pv_e_bk (ps := [(73, .bipush (-2), 2)]) (t' := (0, 0, 75, [some (.ref 94), some (.int x1), some (.int x2), some (.int x3), none], [.int (-2:Int32)], pv_mm s T)) (by decide +kernel) rfl ?_
                obtain rfl := Option.some.inj h
                cases hr
                exact pv_e_ri (by decide +kernel)
              · rw [if_neg c19] at h
                refine pv_e_bk (ps := [(76, .aload_n 0, 1)]) (t' := (0, 0, 77, [some (.ref 94), some (.int x1), some (.int x2), some (.int x3), none], [.ref 94], pv_mm s T)) (by decide +kernel) rfl ?_
                obtain ⟨T21, e20, h⟩ := Option.bind_eq_some_iff.mp h
                refine pv_e_cvv (d := d + 1) (i := 196) (z := 158) (np := 0) (ml := 2) (ci := 6) (As := []) (rs := []) (pc' := 80) (by decide +kernel) rfl rfl rfl rfl (Nat.le_of_ble_eq_true rfl) (Nat.le_of_ble_eq_true rfl) rfl (ee158 (d + 1) e20) ?_
                refine pv_e_bk (ps := [(80, .aload_n 0, 1)]) (t' := (0, 0, 81, [some (.ref 94), some (.int x1), some (.int x2), some (.int x3), none], [.ref 94], pv_mm s T21)) (by decide +kernel) rfl ?_
                refine pv_e_gr (i := 44) (ci := 6) (j := 17) (b := 105) (pc' := 84) (by decide +kernel) rfl rfl rfl ?_
                refine pv_e_bk (ps := [(84, .bipush 6, 2), (86, .iload_n 2, 1), (87, .imul, 1), (88, .aload_n 0, 1), (89, .iload_n 2, 1)]) (t' := (0, 0, 90, [some (.ref 94), some (.int x1), some (.int x2), some (.int x3), none], [.int x2, .ref 94, .int ((6:Int32) * x2), .ref 105], pv_mm s T21)) (by decide +kernel) rfl ?_
                obtain ⟨q23, e22, h⟩ := Option.bind_eq_some_iff.mp h
                refine pv_e_cvi (d := d + 1) (i := 142) (z := 142) (np := 1) (ml := 2) (ci := 6) (As := [.int x2]) (rs := [.int ((6:Int32) * x2), .ref 105]) (pc' := 93) (by decide +kernel) rfl rfl rfl rfl (Nat.le_of_ble_eq_true rfl) (Nat.le_of_ble_eq_true rfl) rfl (ee142 (d + 1) x2 e22) ?_
                refine pv_e_bk (ps := [(93, .iadd, 1), (94, .iload_n 3, 1)]) (t' := (0, 0, 95, [some (.ref 94), some (.int x1), some (.int x2), some (.int x3), none], [.int x3, .int (((6:Int32) * x2) + q23), .ref 105], pv_mm s T21)) (by decide +kernel) rfl ?_
                obtain ⟨T24, e25, h⟩ := Option.bind_eq_some_iff.mp h
                refine pv_e_wm (pc' := 96) (by decide +kernel) (by decide) rfl e25 rfl ?_
                refine pv_e_bk (ps := [(96, .aload_n 0, 1)]) (t' := (0, 0, 97, [some (.ref 94), some (.int x1), some (.int x2), some (.int x3), none], [.ref 94], pv_mm s T24)) (by decide +kernel) rfl ?_
                refine pv_e_gr (i := 44) (ci := 6) (j := 17) (b := 105) (pc' := 100) (by decide +kernel) rfl rfl rfl ?_
                refine pv_e_bk (ps := [(100, .bipush 42, 2), (102, .iload_n 2, 1), (103, .iadd, 1), (104, .dup2, 1)]) (t' := (0, 0, 105, [some (.ref 94), some (.int x1), some (.int x2), some (.int x3), none], [.int ((42:Int32) + x2), .ref 105, .int ((42:Int32) + x2), .ref 105], pv_mm s T24)) (by decide +kernel) rfl ?_
                obtain ⟨q26, e27, h⟩ := Option.bind_eq_some_iff.mp h
                refine pv_e_rm (pc' := 106) (by decide +kernel) (by decide) rfl e27 rfl ?_
                refine pv_e_bk (ps := [(106, .iconst 1, 1), (107, .iadd, 1)]) (t' := (0, 0, 108, [some (.ref 94), some (.int x1), some (.int x2), some (.int x3), none], [.int (q26 + (1:Int32)), .int ((42:Int32) + x2), .ref 105], pv_mm s T24)) (by decide +kernel) rfl ?_
                obtain ⟨T28, e29, h⟩ := Option.bind_eq_some_iff.mp h
                refine pv_e_wm (pc' := 109) (by decide +kernel) (by decide) rfl e29 rfl ?_
                refine pv_e_bk (ps := [(109, .iload_n 3, 1)]) (t' := (0, 0, 110, [some (.ref 94), some (.int x1), some (.int x2), some (.int x3), none], [.int x3], pv_mm s T28)) (by decide +kernel) rfl ?_
                obtain ⟨q31, e30, h⟩ := Option.bind_eq_some_iff.mp h
                refine pv_e_csi (d := d + 1) (i := 176) (z := 135) (np := 1) (ml := 1) (As := [.int x3]) (rs := []) (pc' := 113) (by decide +kernel) rfl rfl rfl (Nat.le_of_ble_eq_true rfl) (Nat.le_of_ble_eq_true rfl) rfl (ee135 (d + 1) x3 e30) ?_
                obtain ⟨t32, hv37, h⟩ := Option.bind_eq_some_iff.mp h
                have hJ38 : pv_Ev xs L (d + 2) 161 (0, 0, 124, [some (.ref 94), some (.int x1), some (.int x2), some (.int x3), none], [.int t32], pv_mm s T28) r := by
                  refine pv_e_bk (ps := [(124, .istore 4, 2), (126, .aload_n 0, 1)]) (t' := (0, 0, 127, [some (.ref 94), some (.int x1), some (.int x2), some (.int x3), some (.int t32)], [.ref 94], pv_mm s T28)) (by decide +kernel) rfl ?_
                  refine pv_e_gr (i := 44) (ci := 6) (j := 17) (b := 105) (pc' := 130) (by decide +kernel) rfl rfl rfl ?_
                  refine pv_e_bk (ps := [(130, .bipush 77, 2), (132, .dup2, 1)]) (t' := (0, 0, 133, [some (.ref 94), some (.int x1), some (.int x2), some (.int x3), some (.int t32)], [.int (77:Int32), .ref 105, .int (77:Int32), .ref 105], pv_mm s T28)) (by decide +kernel) rfl ?_
                  obtain ⟨q33, e34, h⟩ := Option.bind_eq_some_iff.mp h
                  refine pv_e_rm (pc' := 134) (by decide +kernel) (by decide) rfl e34 rfl ?_
                  refine pv_e_bk (ps := [(134, .iload 4, 2), (136, .iadd, 1)]) (t' := (0, 0, 137, [some (.ref 94), some (.int x1), some (.int x2), some (.int x3), some (.int t32)], [.int (q33 + t32), .int (77:Int32), .ref 105], pv_mm s T28)) (by decide +kernel) rfl ?_
                  obtain ⟨T35, e36, h⟩ := Option.bind_eq_some_iff.mp h
                  refine pv_e_wm (pc' := 138) (by decide +kernel) (by decide) rfl e36 rfl ?_
                  refine pv_e_bk (ps := [(138, .iload 4, 2)]) (t' := (0, 0, 140, [some (.ref 94), some (.int x1), some (.int x2), some (.int x3), some (.int t32)], [.int t32], pv_mm s T35)) (by decide +kernel) rfl ?_
                  obtain rfl := Option.some.inj h
                  cases hr
                  exact pv_e_ri (by decide +kernel)
                clear h
                have h := hv37
                clear hv37
                refine pv_e_ifeq (off := 10) (b := 123) (pc' := 116) (by decide +kernel) (by decide +kernel) rfl (fun c39 => ?_) (fun c39 => ?_)
                · rw [if_pos c39] at h
                  refine pv_e_bk (ps := [(123, .iconst 1, 1)]) (t' := (0, 0, 124, [some (.ref 94), some (.int x1), some (.int x2), some (.int x3), none], [.int (1:Int32)], pv_mm s T28)) (by decide +kernel) rfl ?_
                  obtain rfl := Option.some.inj h
                  exact hJ38
                · rw [if_neg c39] at h
                  refine pv_e_bk (ps := [(116, .aload_n 0, 1)]) (t' := (0, 0, 117, [some (.ref 94), some (.int x1), some (.int x2), some (.int x3), none], [.ref 94], pv_mm s T28)) (by decide +kernel) rfl ?_
                  refine pv_e_gm (i := 28) (ci := 6) (j := 10) (pc' := 120) (by decide +kernel) (by decide) rfl rfl rfl ?_
                  refine pv_e_bk (ps := [(120, .goto 4, 3)]) (t' := (0, 0, 124, [some (.ref 94), some (.int x1), some (.int x2), some (.int x3), none], [.int (T28.1 94 10)], pv_mm s T28)) (by decide +kernel) rfl ?_
                  obtain rfl := Option.some.inj h
                  exact hJ38
        · rw [if_neg c12] at h
          refine pv_e_bk (ps := [(35, .aload_n 0, 1), (36, .iconst 3, 1)]) (t' := (0, 0, 37, [some (.ref 94), some (.int x1), some (.int x2), some (.int x3), none], [.int (3:Int32), .ref 94], pv_mm s T)) (by decide +kernel) rfl ?_
          obtain ⟨⟨q41, T42⟩, e40, h⟩ := Option.bind_eq_some_iff.mp h
          dsimp only at h
          refine pv_e_cvi (d := d + 1) (i := 91) (z := 115) (np := 1) (ml := 2) (ci := 6) (As := [.int (3:Int32)]) (rs := []) (pc' := 40) (by decide +kernel) rfl rfl rfl rfl (Nat.le_of_ble_eq_true rfl) (Nat.le_of_ble_eq_true rfl) rfl (ee115 (d + 1) (3:Int32) e40) ?_
          obtain rfl := Option.some.inj h
          cases hr
          exact pv_e_ri (by decide +kernel)
def f162_copies_b1 (v0 : Nat) (v1 : Int32) (v2 : Nat) (v3 : Int32) (st : Int32 × pv_T) : Option ((Int32 × pv_T) ⊕ (Int32 × pv_T)) := match st with
  | (v4, T) =>
    if (78:Int32) ≤ v4 then
      some (.inr (v4, T))
    else
      (pv_rd T.1 v0 (pv_an v0) (v1 + v4)).bind fun q2 =>
      (pv_wm T v2 (pv_an v2) (v3 + v4) q2).bind fun T4 =>
      some (.inl (v4 + (1:Int32), T4))
def f162_copies_b1_H (xs : Nat → Int32) (L d : Nat) (r : Option Value × pv_M) (s : pv_F) (v0 : Nat) (v1 : Int32) (v2 : Nat) (v3 : Int32) (st : Int32 × pv_T) : Prop := match st with
  | (v4, T) => pv_Ev xs L (d + 0) 162 (0, 0, 3, [some (.ref v0), some (.int v1), some (.ref v2), some (.int v3), some (.int v4)], [], pv_mm s T) r
def f162_copies_b1_X (xs : Nat → Int32) (L d : Nat) (r : Option Value × pv_M) (s : pv_F) (v0 : Nat) (v1 : Int32) (v2 : Nat) (v3 : Int32) (st : Int32 × pv_T) : Prop := match st with
  | (v4, T) => ∀ z4 : Option Value, pv_Ev xs L (d + 0) 162 (0, 0, 28, [some (.ref v0), some (.int v1), some (.ref v2), some (.int v3), z4], [], pv_mm s T) r
def f162_copies (x0 : Nat) (x1 : Int32) (x2 : Nat) (x3 : Int32) (T : pv_T) : Option (pv_T) :=
  (pv_lq (f162_copies_b1 x0 x1 x2 x3) 20000 ((0:Int32), T)).bind fun (w6, T7) =>
  some T7
theorem f162_copies_b1_ok {xs : Nat → Int32} {L d : Nat} {r : Option Value × pv_M} {s : pv_F} {v0 : Nat} {v1 : Int32} {v2 : Nat} {v3 : Int32} (g0 : v0 ∈ pv_iam) (g2 : v2 ∈ pv_iam) (st : Int32 × pv_T) (o : (Int32 × pv_T) ⊕ (Int32 × pv_T)) (h : f162_copies_b1 v0 v1 v2 v3 st = some o) (hK : pv_Kq (f162_copies_b1_H xs L d r s v0 v1 v2 v3) (f162_copies_b1_X xs L d r s v0 v1 v2 v3) o) : f162_copies_b1_H xs L d r s v0 v1 v2 v3 st := by
  obtain ⟨v4, T⟩ := st
  show pv_Ev xs L (d + 0) 162 (0, 0, 3, [some (.ref v0), some (.int v1), some (.ref v2), some (.int v3), some (.int v4)], [], pv_mm s T) r
  unfold f162_copies_b1 at h
  dsimp only at h
  refine pv_e_bk (ps := [(3, .iload 4, 2), (5, .bipush 78, 2)]) (t' := (0, 0, 7, [some (.ref v0), some (.int v1), some (.ref v2), some (.int v3), some (.int v4)], [.int (78:Int32), .int v4], pv_mm s T)) (by decide +kernel) rfl ?_
  refine pv_e_icmpge (off := 21) (b := 28) (pc' := 10) (by decide +kernel) (by decide +kernel) rfl (fun c1 => ?_) (fun c1 => ?_)
  · rw [if_pos c1] at h
    obtain rfl := Option.some.inj h
    exact hK _
  · rw [if_neg c1] at h
    refine pv_e_bk (ps := [(10, .aload_n 2, 1), (11, .iload_n 3, 1), (12, .iload 4, 2), (14, .iadd, 1), (15, .aload_n 0, 1), (16, .iload_n 1, 1), (17, .iload 4, 2), (19, .iadd, 1)]) (t' := (0, 0, 20, [some (.ref v0), some (.int v1), some (.ref v2), some (.int v3), some (.int v4)], [.int (v1 + v4), .ref v0, .int (v3 + v4), .ref v2], pv_mm s T)) (by decide +kernel) rfl ?_
    obtain ⟨q2, e3, h⟩ := Option.bind_eq_some_iff.mp h
    refine pv_e_rm (pc' := 21) (by decide +kernel) (im g0).2 (im g0).1 e3 rfl ?_
    obtain ⟨T4, e5, h⟩ := Option.bind_eq_some_iff.mp h
    refine pv_e_wm (pc' := 22) (by decide +kernel) (im g2).2 (im g2).1 e5 rfl ?_
    refine pv_e_bk (ps := [(22, .iinc 4 1, 3), (25, .goto (-22), 3)]) (t' := (0, 0, 3, [some (.ref v0), some (.int v1), some (.ref v2), some (.int v3), some (.int (v4 + (1:Int32)))], [], pv_mm s T4)) (by decide +kernel) rfl ?_
    obtain rfl := Option.some.inj h
    exact hK
theorem ee162 {xs : Nat → Int32} {L : Nat} (d : Nat) (x0 : Nat) (x1 : Int32) (x2 : Nat) (x3 : Int32) {s : pv_F} {T : pv_T} {q : pv_T} (g0 : x0 ∈ pv_iam) (g2 : x2 ∈ pv_iam) (h : f162_copies x0 x1 x2 x3 T = some q) : pv_Ev xs L (d + 0) 162 (0, 0, 0, [some (.ref x0), some (.int x1), some (.ref x2), some (.int x3), none], [], pv_mm s T) (none, pv_mm s q) := by
  generalize hr : ((none, pv_mm s q) : Option Value × pv_M) = r
  unfold f162_copies at h
  refine pv_e_bk (ps := [(0, .iconst 0, 1), (1, .istore 4, 2)]) (t' := (0, 0, 3, [some (.ref x0), some (.int x1), some (.ref x2), some (.int x3), some (.int (0:Int32))], [], pv_mm s T)) (by decide +kernel) rfl ?_
  obtain ⟨⟨w6, T7⟩, e9, h⟩ := Option.bind_eq_some_iff.mp h
  dsimp only at h
  have hx8 : f162_copies_b1_X xs L d r s x0 x1 x2 x3 (w6, T7) := by
    show ∀ z4 : Option Value, pv_Ev xs L (d + 0) 162 (0, 0, 28, [some (.ref x0), some (.int x1), some (.ref x2), some (.int x3), z4], [], pv_mm s T7) r
    intro z4
    obtain rfl := Option.some.inj h
    cases hr
    exact pv_e_rv (by decide +kernel)
  exact pv_lq_ok (H := f162_copies_b1_H xs L d r s x0 x1 x2 x3) (X := f162_copies_b1_X xs L d r s x0 x1 x2 x3) (f162_copies_b1_ok (xs := xs) (L := L) (d := d) (r := r) (s := s) (v0 := x0) (v1 := x1) (v2 := x2) (v3 := x3) g0 g2) 20000 _ _ e9 hx8
def f163_undo (x1 : Int32) (T : pv_T) : Option (Int32 × pv_T) :=
  (f114_in x1 (0:Int32) (T.1 94 18)).bind fun q2 =>
  if q2 = 0 then
    some ((-1:Int32), T)
  else
    ((
      if ((T.1 94 18) - x1) ≤ 0 then
        some T
      else
        (f162_copies 106 ((78:Int32) * x1) 105 (0:Int32) T).bind fun T9 =>
        (pv_pm T9 94 18 x1).bind fun T10 =>
        some T10) : Option (pv_T)).bind fun T4 =>
    some ((T.1 94 18) - x1, T4)
theorem ee163 {xs : Nat → Int32} {L : Nat} (d : Nat) (x1 : Int32) {s : pv_F} {T : pv_T} {q : Int32 × pv_T}  (h : f163_undo x1 T = some q) : pv_Ev xs L (d + 1) 163 (0, 0, 0, [some (.ref 94), some (.int x1), none], [], pv_mm s T) (some (.int q.1), pv_mm s q.2) := by
  generalize hr : ((some (.int q.1), pv_mm s q.2) : Option Value × pv_M) = r
  unfold f163_undo at h
  refine pv_e_bk (ps := [(0, .iload_n 1, 1), (1, .iconst 0, 1), (2, .aload_n 0, 1)]) (t' := (0, 0, 3, [some (.ref 94), some (.int x1), none], [.ref 94, .int (0:Int32), .int x1], pv_mm s T)) (by decide +kernel) rfl ?_
  refine pv_e_gm (i := 139) (ci := 6) (j := 18) (pc' := 6) (by decide +kernel) (by decide) rfl rfl rfl ?_
  obtain ⟨q2, e1, h⟩ := Option.bind_eq_some_iff.mp h
  refine pv_e_csi (d := d + 0) (i := 83) (z := 114) (np := 3) (ml := 3) (As := [.int x1, .int (0:Int32), .int (T.1 94 18)]) (rs := []) (pc' := 9) (by decide +kernel) rfl rfl rfl (Nat.le_of_ble_eq_true rfl) (Nat.le_of_ble_eq_true rfl) rfl (ee114 (d + 0) x1 (0:Int32) (T.1 94 18) e1) ?_
  refine pv_e_ifne (off := 5) (b := 14) (pc' := 12) (by decide +kernel) (by decide +kernel) rfl (fun c3 => ?_) (fun c3 => ?_)
  · rw [if_pos c3] at h
    refine pv_e_bk (ps := [(12, .iconst (-1), 1)]) (t' := (0, 0, 13, [some (.ref 94), some (.int x1), none], [.int (-1:Int32)], pv_mm s T)) (by decide +kernel) rfl ?_
    obtain rfl := Option.some.inj h
    cases hr
    exact pv_e_ri (by decide +kernel)
  · rw [if_neg c3] at h
    refine pv_e_bk (ps := [(14, .aload_n 0, 1)]) (t' := (0, 0, 15, [some (.ref 94), some (.int x1), none], [.ref 94], pv_mm s T)) (by decide +kernel) rfl ?_
    refine pv_e_gm (i := 139) (ci := 6) (j := 18) (pc' := 18) (by decide +kernel) (by decide) rfl rfl rfl ?_
    refine pv_e_bk (ps := [(18, .iload_n 1, 1), (19, .isub, 1), (20, .istore_n 2, 1), (21, .iload_n 2, 1)]) (t' := (0, 0, 22, [some (.ref 94), some (.int x1), some (.int ((T.1 94 18) - x1))], [.int ((T.1 94 18) - x1)], pv_mm s T)) (by decide +kernel) rfl ?_
    obtain ⟨T4, hv5, h⟩ := Option.bind_eq_some_iff.mp h
    have hJ6 : pv_Ev xs L (d + 1) 163 (0, 0, 46, [some (.ref 94), some (.int x1), some (.int ((T.1 94 18) - x1))], [], pv_mm s T4) r := by
      refine pv_e_bk (ps := [(46, .iload_n 2, 1)]) (t' := (0, 0, 47, [some (.ref 94), some (.int x1), some (.int ((T.1 94 18) - x1))], [.int ((T.1 94 18) - x1)], pv_mm s T4)) (by decide +kernel) rfl ?_
      obtain rfl := Option.some.inj h
      cases hr
      exact pv_e_ri (by decide +kernel)
    clear h
    have h := hv5
    clear hv5
    refine pv_e_ifle (off := 24) (b := 46) (pc' := 25) (by decide +kernel) (by decide +kernel) rfl (fun c7 => ?_) (fun c7 => ?_)
    · rw [if_pos c7] at h
      obtain rfl := Option.some.inj h
      exact hJ6
    · rw [if_neg c7] at h
      refine pv_e_bk (ps := [(25, .aload_n 0, 1)]) (t' := (0, 0, 26, [some (.ref 94), some (.int x1), some (.int ((T.1 94 18) - x1))], [.ref 94], pv_mm s T)) (by decide +kernel) rfl ?_
      refine pv_e_gr (i := 47) (ci := 6) (j := 19) (b := 106) (pc' := 29) (by decide +kernel) rfl rfl rfl ?_
      refine pv_e_bk (ps := [(29, .bipush 78, 2), (31, .iload_n 1, 1), (32, .imul, 1), (33, .aload_n 0, 1)]) (t' := (0, 0, 34, [some (.ref 94), some (.int x1), some (.int ((T.1 94 18) - x1))], [.ref 94, .int ((78:Int32) * x1), .ref 106], pv_mm s T)) (by decide +kernel) rfl ?_
      refine pv_e_gr (i := 44) (ci := 6) (j := 17) (b := 105) (pc' := 37) (by decide +kernel) rfl rfl rfl ?_
      refine pv_e_bk (ps := [(37, .iconst 0, 1)]) (t' := (0, 0, 38, [some (.ref 94), some (.int x1), some (.int ((T.1 94 18) - x1))], [.int (0:Int32), .ref 105, .int ((78:Int32) * x1), .ref 106], pv_mm s T)) (by decide +kernel) rfl ?_
      obtain ⟨T9, e8, h⟩ := Option.bind_eq_some_iff.mp h
      refine pv_e_csv (d := d + 0) (i := 202) (z := 162) (np := 4) (ml := 5) (As := [.ref 106, .int ((78:Int32) * x1), .ref 105, .int (0:Int32)]) (rs := []) (pc' := 41) (by decide +kernel) rfl rfl rfl (Nat.le_of_ble_eq_true rfl) (Nat.le_of_ble_eq_true rfl) rfl (ee162 (d + 0) 106 ((78:Int32) * x1) 105 (0:Int32) (by decide) (by decide) e8) ?_
      refine pv_e_bk (ps := [(41, .aload_n 0, 1), (42, .iload_n 1, 1)]) (t' := (0, 0, 43, [some (.ref 94), some (.int x1), some (.int ((T.1 94 18) - x1))], [.int x1, .ref 94], pv_mm s T9)) (by decide +kernel) rfl ?_
      obtain ⟨T10, e11, h⟩ := Option.bind_eq_some_iff.mp h
      refine pv_e_pms (i := 139) (ci := 6) (j := 18) (pc' := 46) (by decide +kernel) rfl rfl (by decide) rfl rfl e11 rfl ?_
      obtain rfl := Option.some.inj h
      exact hJ6
def f164_comes (x1 : Int32) (x2 : Int32) (T : pv_T) : Option (Int32) :=
  (f159_areTwo x1 x2 T).bind fun q2 =>
  if q2 = 0 then
    some (-1:Int32)
  else
    (f152_mayCall x1 x2 T).bind fun q5 =>
    ((
      if q5 = 0 then
        some (-4:Int32)
      else
        (f153_comers x1 x2 T).bind fun q11 =>
        some q11) : Option (Int32)).bind fun t6 =>
    some t6
theorem ee164 {xs : Nat → Int32} {L : Nat} (d : Nat) (x1 : Int32) (x2 : Int32) {s : pv_F} {T : pv_T} {q : Int32}  (h : f164_comes x1 x2 T = some q) : pv_Ev xs L (d + 3) 164 (0, 0, 0, [some (.ref 94), some (.int x1), some (.int x2)], [], pv_mm s T) (some (.int q), pv_mm s T) := by
  generalize hr : ((some (.int q), pv_mm s T) : Option Value × pv_M) = r
  unfold f164_comes at h
  refine pv_e_bk (ps := [(0, .aload_n 0, 1), (1, .iload_n 1, 1), (2, .iload_n 2, 1)]) (t' := (0, 0, 3, [some (.ref 94), some (.int x1), some (.int x2)], [.int x2, .int x1, .ref 94], pv_mm s T)) (by decide +kernel) rfl ?_
  obtain ⟨q2, e1, h⟩ := Option.bind_eq_some_iff.mp h
  refine pv_e_cvi (d := d + 2) (i := 193) (z := 159) (np := 2) (ml := 3) (ci := 6) (As := [.int x1, .int x2]) (rs := []) (pc' := 6) (by decide +kernel) rfl rfl rfl rfl (Nat.le_of_ble_eq_true rfl) (Nat.le_of_ble_eq_true rfl) rfl (ee159 (d + 0) x1 x2 e1) ?_
  refine pv_e_ifne (off := 5) (b := 11) (pc' := 9) (by decide +kernel) (by decide +kernel) rfl (fun c3 => ?_) (fun c3 => ?_)
  · rw [if_pos c3] at h
    refine pv_e_bk (ps := [(9, .iconst (-1), 1)]) (t' := (0, 0, 10, [some (.ref 94), some (.int x1), some (.int x2)], [.int (-1:Int32)], pv_mm s T)) (by decide +kernel) rfl ?_
    obtain rfl := Option.some.inj h
    cases hr
    exact pv_e_ri (by decide +kernel)
  · rw [if_neg c3] at h
    refine pv_e_bk (ps := [(11, .aload_n 0, 1), (12, .iload_n 1, 1), (13, .iload_n 2, 1)]) (t' := (0, 0, 14, [some (.ref 94), some (.int x1), some (.int x2)], [.int x2, .int x1, .ref 94], pv_mm s T)) (by decide +kernel) rfl ?_
    obtain ⟨q5, e4, h⟩ := Option.bind_eq_some_iff.mp h
    refine pv_e_cvi (d := d + 2) (i := 161) (z := 152) (np := 2) (ml := 3) (ci := 6) (As := [.int x1, .int x2]) (rs := []) (pc' := 17) (by decide +kernel) rfl rfl rfl rfl (Nat.le_of_ble_eq_true rfl) (Nat.le_of_ble_eq_true rfl) rfl (ee152 (d + 1) x1 x2 e4) ?_
    obtain ⟨t6, hv7, h⟩ := Option.bind_eq_some_iff.mp h
    have hJ8 : pv_Ev xs L (d + 3) 164 (0, 0, 31, [some (.ref 94), some (.int x1), some (.int x2)], [.int t6], pv_mm s T) r := by
      obtain rfl := Option.some.inj h
      cases hr
      exact pv_e_ri (by decide +kernel)
    clear h
    have h := hv7
    clear hv7
    refine pv_e_ifeq (off := 12) (b := 29) (pc' := 20) (by decide +kernel) (by decide +kernel) rfl (fun c9 => ?_) (fun c9 => ?_)
    · rw [if_pos c9] at h
      refine pv_e_bk (ps := [(29, .bipush (-4), 2)]) (t' := (0, 0, 31, [some (.ref 94), some (.int x1), some (.int x2)], [.int (-4:Int32)], pv_mm s T)) (by decide +kernel) rfl ?_
      obtain rfl := Option.some.inj h
      exact hJ8
    · rw [if_neg c9] at h
      refine pv_e_bk (ps := [(20, .aload_n 0, 1), (21, .iload_n 1, 1), (22, .iload_n 2, 1)]) (t' := (0, 0, 23, [some (.ref 94), some (.int x1), some (.int x2)], [.int x2, .int x1, .ref 94], pv_mm s T)) (by decide +kernel) rfl ?_
      obtain ⟨q11, e10, h⟩ := Option.bind_eq_some_iff.mp h
      refine pv_e_cvi (d := d + 2) (i := 164) (z := 153) (np := 2) (ml := 6) (ci := 6) (As := [.int x1, .int x2]) (rs := []) (pc' := 26) (by decide +kernel) rfl rfl rfl rfl (Nat.le_of_ble_eq_true rfl) (Nat.le_of_ble_eq_true rfl) rfl (ee153 (d + 0) x1 x2 e10) ?_
      refine pv_e_bk (ps := [(26, .goto 5, 3)]) (t' := (0, 0, 31, [some (.ref 94), some (.int x1), some (.int x2)], [.int q11], pv_mm s T)) (by decide +kernel) rfl ?_
      obtain rfl := Option.some.inj h
      exact hJ8
def f165_alike (x1 : Int32) (T : pv_T) : Option (Int32) :=
  (f140_isOne x1 T).bind fun q2 =>
  ((
    if q2 = 0 then
      some (-1:Int32)
    else
      (f145_likes x1 T).bind fun q8 =>
      some (q8 ||| ((1:Int32) <<< (x1 &&& 31)))) : Option (Int32)).bind fun t3 =>
  some t3
theorem ee165 {xs : Nat → Int32} {L : Nat} (d : Nat) (x1 : Int32) {s : pv_F} {T : pv_T} {q : Int32}  (h : f165_alike x1 T = some q) : pv_Ev xs L (d + 3) 165 (0, 0, 0, [some (.ref 94), some (.int x1)], [], pv_mm s T) (some (.int q), pv_mm s T) := by
  generalize hr : ((some (.int q), pv_mm s T) : Option Value × pv_M) = r
  unfold f165_alike at h
  refine pv_e_bk (ps := [(0, .aload_n 0, 1), (1, .iload_n 1, 1)]) (t' := (0, 0, 2, [some (.ref 94), some (.int x1)], [.int x1, .ref 94], pv_mm s T)) (by decide +kernel) rfl ?_
  obtain ⟨q2, e1, h⟩ := Option.bind_eq_some_iff.mp h
  refine pv_e_cvi (d := d + 2) (i := 152) (z := 140) (np := 1) (ml := 2) (ci := 6) (As := [.int x1]) (rs := []) (pc' := 5) (by decide +kernel) rfl rfl rfl rfl (Nat.le_of_ble_eq_true rfl) (Nat.le_of_ble_eq_true rfl) rfl (ee140 (d + 1) x1 e1) ?_
  obtain ⟨t3, hv4, h⟩ := Option.bind_eq_some_iff.mp h
  have hJ5 : pv_Ev xs L (d + 3) 165 (0, 0, 21, [some (.ref 94), some (.int x1)], [.int t3], pv_mm s T) r := by
    obtain rfl := Option.some.inj h
    cases hr
    exact pv_e_ri (by decide +kernel)
  clear h
  have h := hv4
  clear hv4
  refine pv_e_ifeq (off := 15) (b := 20) (pc' := 8) (by decide +kernel) (by decide +kernel) rfl (fun c6 => ?_) (fun c6 => ?_)
  · rw [if_pos c6] at h
    refine pv_e_bk (ps := [(20, .iconst (-1), 1)]) (t' := (0, 0, 21, [some (.ref 94), some (.int x1)], [.int (-1:Int32)], pv_mm s T)) (by decide +kernel) rfl ?_
    obtain rfl := Option.some.inj h
    exact hJ5
  · rw [if_neg c6] at h
    refine pv_e_bk (ps := [(8, .aload_n 0, 1), (9, .iload_n 1, 1)]) (t' := (0, 0, 10, [some (.ref 94), some (.int x1)], [.int x1, .ref 94], pv_mm s T)) (by decide +kernel) rfl ?_
    obtain ⟨q8, e7, h⟩ := Option.bind_eq_some_iff.mp h
    refine pv_e_cvi (d := d + 2) (i := 170) (z := 145) (np := 1) (ml := 4) (ci := 6) (As := [.int x1]) (rs := []) (pc' := 13) (by decide +kernel) rfl rfl rfl rfl (Nat.le_of_ble_eq_true rfl) (Nat.le_of_ble_eq_true rfl) rfl (ee145 (d + 0) x1 e7) ?_
    refine pv_e_bk (ps := [(13, .iconst 1, 1), (14, .iload_n 1, 1), (15, .ishl, 1), (16, .ior, 1), (17, .goto 4, 3)]) (t' := (0, 0, 21, [some (.ref 94), some (.int x1)], [.int (q8 ||| ((1:Int32) <<< (x1 &&& 31)))], pv_mm s T)) (by decide +kernel) rfl ?_
    obtain rfl := Option.some.inj h
    exact hJ5
def f166_keep_b1 (v1 : Int32) (st : Int32 × pv_T) : Option ((Int32 × pv_T) ⊕ (Int32 × pv_T)) := match st with
  | (v2, T) =>
    if (4680:Int32) ≤ v2 then
      some (.inr (v2, T))
    else
      (pv_rd T.1 106 4680 v2).bind fun q10 =>
      (pv_wm T 109 14040 (((4680:Int32) * v1) + v2) q10).bind fun T12 =>
      some (.inl (v2 + (1:Int32), T12))
def f166_keep_b1_H (xs : Nat → Int32) (L d : Nat) (r : Option Value × pv_M) (s : pv_F) (v1 : Int32) (st : Int32 × pv_T) : Prop := match st with
  | (v2, T) => pv_Ev xs L (d + 1) 166 (0, 0, 49, [some (.ref 94), some (.int v1), some (.int v2)], [], pv_mm s T) r
def f166_keep_b1_X (xs : Nat → Int32) (L d : Nat) (r : Option Value × pv_M) (s : pv_F) (v1 : Int32) (st : Int32 × pv_T) : Prop := match st with
  | (v2, T) => ∀ z2 : Option Value, pv_Ev xs L (d + 1) 166 (0, 0, 80, [some (.ref 94), some (.int v1), z2], [], pv_mm s T) r
def f166_keep (x1 : Int32) (T : pv_T) : Option (Int32 × pv_T) :=
  (f114_in x1 (0:Int32) (2:Int32)).bind fun q2 =>
  if q2 = 0 then
    some ((-1:Int32), T)
  else
    if (T.1 94 8) = 0 then
      some ((-4:Int32), T)
    else
      (pv_wm T 107 3 x1 (T.1 94 18)).bind fun T5 =>
      (f162_copies 105 (0:Int32) 108 ((78:Int32) * x1) T5).bind fun T8 =>
      (pv_lq (f166_keep_b1 x1) 20000 ((0:Int32), T8)).bind fun (w14, T15) =>
      some (T15.1 94 18, T15)
theorem f166_keep_b1_ok {xs : Nat → Int32} {L d : Nat} {r : Option Value × pv_M} {s : pv_F} {v1 : Int32} (st : Int32 × pv_T) (o : (Int32 × pv_T) ⊕ (Int32 × pv_T)) (h : f166_keep_b1 v1 st = some o) (hK : pv_Kq (f166_keep_b1_H xs L d r s v1) (f166_keep_b1_X xs L d r s v1) o) : f166_keep_b1_H xs L d r s v1 st := by
  obtain ⟨v2, T⟩ := st
  show pv_Ev xs L (d + 1) 166 (0, 0, 49, [some (.ref 94), some (.int v1), some (.int v2)], [], pv_mm s T) r
  unfold f166_keep_b1 at h
  dsimp only at h
  refine pv_e_bk (ps := [(49, .iload_n 2, 1), (50, .sipush 4680, 3)]) (t' := (0, 0, 53, [some (.ref 94), some (.int v1), some (.int v2)], [.int (4680:Int32), .int v2], pv_mm s T)) (by decide +kernel) rfl ?_
  refine pv_e_icmpge (off := 27) (b := 80) (pc' := 56) (by decide +kernel) (by decide +kernel) rfl (fun c9 => ?_) (fun c9 => ?_)
  · rw [if_pos c9] at h
    obtain rfl := Option.some.inj h
    exact hK _
  · rw [if_neg c9] at h
    refine pv_e_bk (ps := [(56, .aload_n 0, 1)]) (t' := (0, 0, 57, [some (.ref 94), some (.int v1), some (.int v2)], [.ref 94], pv_mm s T)) (by decide +kernel) rfl ?_
    refine pv_e_gr (i := 56) (ci := 6) (j := 22) (b := 109) (pc' := 60) (by decide +kernel) rfl rfl rfl ?_
    refine pv_e_bk (ps := [(60, .sipush 4680, 3), (63, .iload_n 1, 1), (64, .imul, 1), (65, .iload_n 2, 1), (66, .iadd, 1), (67, .aload_n 0, 1)]) (t' := (0, 0, 68, [some (.ref 94), some (.int v1), some (.int v2)], [.ref 94, .int (((4680:Int32) * v1) + v2), .ref 109], pv_mm s T)) (by decide +kernel) rfl ?_
    refine pv_e_gr (i := 47) (ci := 6) (j := 19) (b := 106) (pc' := 71) (by decide +kernel) rfl rfl rfl ?_
    refine pv_e_bk (ps := [(71, .iload_n 2, 1)]) (t' := (0, 0, 72, [some (.ref 94), some (.int v1), some (.int v2)], [.int v2, .ref 106, .int (((4680:Int32) * v1) + v2), .ref 109], pv_mm s T)) (by decide +kernel) rfl ?_
    obtain ⟨q10, e11, h⟩ := Option.bind_eq_some_iff.mp h
    refine pv_e_rm (pc' := 73) (by decide +kernel) (by decide) rfl e11 rfl ?_
    obtain ⟨T12, e13, h⟩ := Option.bind_eq_some_iff.mp h
    refine pv_e_wm (pc' := 74) (by decide +kernel) (by decide) rfl e13 rfl ?_
    refine pv_e_bk (ps := [(74, .iinc 2 1, 3), (77, .goto (-28), 3)]) (t' := (0, 0, 49, [some (.ref 94), some (.int v1), some (.int (v2 + (1:Int32)))], [], pv_mm s T12)) (by decide +kernel) rfl ?_
    obtain rfl := Option.some.inj h
    exact hK
theorem ee166 {xs : Nat → Int32} {L : Nat} (d : Nat) (x1 : Int32) {s : pv_F} {T : pv_T} {q : Int32 × pv_T}  (h : f166_keep x1 T = some q) : pv_Ev xs L (d + 1) 166 (0, 0, 0, [some (.ref 94), some (.int x1), none], [], pv_mm s T) (some (.int q.1), pv_mm s q.2) := by
  generalize hr : ((some (.int q.1), pv_mm s q.2) : Option Value × pv_M) = r
  unfold f166_keep at h
  refine pv_e_bk (ps := [(0, .iload_n 1, 1), (1, .iconst 0, 1), (2, .iconst 2, 1)]) (t' := (0, 0, 3, [some (.ref 94), some (.int x1), none], [.int (2:Int32), .int (0:Int32), .int x1], pv_mm s T)) (by decide +kernel) rfl ?_
  obtain ⟨q2, e1, h⟩ := Option.bind_eq_some_iff.mp h
  refine pv_e_csi (d := d + 0) (i := 83) (z := 114) (np := 3) (ml := 3) (As := [.int x1, .int (0:Int32), .int (2:Int32)]) (rs := []) (pc' := 6) (by decide +kernel) rfl rfl rfl (Nat.le_of_ble_eq_true rfl) (Nat.le_of_ble_eq_true rfl) rfl (ee114 (d + 0) x1 (0:Int32) (2:Int32) e1) ?_
  refine pv_e_ifne (off := 5) (b := 11) (pc' := 9) (by decide +kernel) (by decide +kernel) rfl (fun c3 => ?_) (fun c3 => ?_)
  · rw [if_pos c3] at h
    refine pv_e_bk (ps := [(9, .iconst (-1), 1)]) (t' := (0, 0, 10, [some (.ref 94), some (.int x1), none], [.int (-1:Int32)], pv_mm s T)) (by decide +kernel) rfl ?_
    obtain rfl := Option.some.inj h
    cases hr
    exact pv_e_ri (by decide +kernel)
  · rw [if_neg c3] at h
    refine pv_e_bk (ps := [(11, .aload_n 0, 1)]) (t' := (0, 0, 12, [some (.ref 94), some (.int x1), none], [.ref 94], pv_mm s T)) (by decide +kernel) rfl ?_
    refine pv_e_gm (i := 136) (ci := 6) (j := 8) (pc' := 15) (by decide +kernel) (by decide) rfl rfl rfl ?_
    refine pv_e_ifne (off := 6) (b := 21) (pc' := 18) (by decide +kernel) (by decide +kernel) rfl (fun c4 => ?_) (fun c4 => ?_)
    · rw [if_pos c4] at h
      refine pv_e_bk (ps := [(18, .bipush (-4), 2)]) (t' := (0, 0, 20, [some (.ref 94), some (.int x1), none], [.int (-4:Int32)], pv_mm s T)) (by decide +kernel) rfl ?_
      obtain rfl := Option.some.inj h
      cases hr
      exact pv_e_ri (by decide +kernel)
    · rw [if_neg c4] at h
      refine pv_e_bk (ps := [(21, .aload_n 0, 1)]) (t' := (0, 0, 22, [some (.ref 94), some (.int x1), none], [.ref 94], pv_mm s T)) (by decide +kernel) rfl ?_
      refine pv_e_gr (i := 50) (ci := 6) (j := 20) (b := 107) (pc' := 25) (by decide +kernel) rfl rfl rfl ?_
      refine pv_e_bk (ps := [(25, .iload_n 1, 1), (26, .aload_n 0, 1)]) (t' := (0, 0, 27, [some (.ref 94), some (.int x1), none], [.ref 94, .int x1, .ref 107], pv_mm s T)) (by decide +kernel) rfl ?_
      refine pv_e_gm (i := 139) (ci := 6) (j := 18) (pc' := 30) (by decide +kernel) (by decide) rfl rfl rfl ?_
      obtain ⟨T5, e6, h⟩ := Option.bind_eq_some_iff.mp h
      refine pv_e_wm (pc' := 31) (by decide +kernel) (by decide) rfl e6 rfl ?_
      refine pv_e_bk (ps := [(31, .aload_n 0, 1)]) (t' := (0, 0, 32, [some (.ref 94), some (.int x1), none], [.ref 94], pv_mm s T5)) (by decide +kernel) rfl ?_
      refine pv_e_gr (i := 44) (ci := 6) (j := 17) (b := 105) (pc' := 35) (by decide +kernel) rfl rfl rfl ?_
      refine pv_e_bk (ps := [(35, .iconst 0, 1), (36, .aload_n 0, 1)]) (t' := (0, 0, 37, [some (.ref 94), some (.int x1), none], [.ref 94, .int (0:Int32), .ref 105], pv_mm s T5)) (by decide +kernel) rfl ?_
      refine pv_e_gr (i := 53) (ci := 6) (j := 21) (b := 108) (pc' := 40) (by decide +kernel) rfl rfl rfl ?_
      refine pv_e_bk (ps := [(40, .bipush 78, 2), (42, .iload_n 1, 1), (43, .imul, 1)]) (t' := (0, 0, 44, [some (.ref 94), some (.int x1), none], [.int ((78:Int32) * x1), .ref 108, .int (0:Int32), .ref 105], pv_mm s T5)) (by decide +kernel) rfl ?_
      obtain ⟨T8, e7, h⟩ := Option.bind_eq_some_iff.mp h
      refine pv_e_csv (d := d + 0) (i := 202) (z := 162) (np := 4) (ml := 5) (As := [.ref 105, .int (0:Int32), .ref 108, .int ((78:Int32) * x1)]) (rs := []) (pc' := 47) (by decide +kernel) rfl rfl rfl (Nat.le_of_ble_eq_true rfl) (Nat.le_of_ble_eq_true rfl) rfl (ee162 (d + 0) 105 (0:Int32) 108 ((78:Int32) * x1) (by decide) (by decide) e7) ?_
      refine pv_e_bk (ps := [(47, .iconst 0, 1), (48, .istore_n 2, 1)]) (t' := (0, 0, 49, [some (.ref 94), some (.int x1), some (.int (0:Int32))], [], pv_mm s T8)) (by decide +kernel) rfl ?_
      obtain ⟨⟨w14, T15⟩, e17, h⟩ := Option.bind_eq_some_iff.mp h
      dsimp only at h
      have hx16 : f166_keep_b1_X xs L d r s x1 (w14, T15) := by
        show ∀ z2 : Option Value, pv_Ev xs L (d + 1) 166 (0, 0, 80, [some (.ref 94), some (.int x1), z2], [], pv_mm s T15) r
        intro z2
        refine pv_e_bk (ps := [(80, .aload_n 0, 1)]) (t' := (0, 0, 81, [some (.ref 94), some (.int x1), z2], [.ref 94], pv_mm s T15)) (by decide +kernel) rfl ?_
        refine pv_e_gm (i := 139) (ci := 6) (j := 18) (pc' := 84) (by decide +kernel) (by decide) rfl rfl rfl ?_
        obtain rfl := Option.some.inj h
        cases hr
        exact pv_e_ri (by decide +kernel)
      exact pv_lq_ok (H := f166_keep_b1_H xs L d r s x1) (X := f166_keep_b1_X xs L d r s x1) (f166_keep_b1_ok (xs := xs) (L := L) (d := d) (r := r) (s := s) (v1 := x1)) 20000 _ _ e17 hx16
