-- printed by wip/whole/gen/parts.py: methods as functions over the ints of the memory, and that the pure machine runs so
def f172_unlikeNow_b2 (v1 : Int32) (v2 : Int32) (T : pv_T) (st : Int32 × Int32) : Option ((Int32 × Int32) ⊕ (Int32 × Int32)) := match st with
  | (v4, v5) =>
    if v2 ≤ v5 then
      some (.inr (v4, v5))
    else
      ((
        if v4 = 0 then
          some (0:Int32)
        else
          (pv_rd T.1 101 7 v5).bind fun q16 =>
          if q16 = (3:Int32) then
            some (1:Int32)
          else
            (f143_isLike v2 v5 T).bind fun q20 =>
            if q20 = 0 then
              some (1:Int32)
            else
              some (0:Int32)) : Option (Int32)).bind fun t12 =>
      some (.inl (t12, v5 + (1:Int32)))
def f172_unlikeNow_b2_H (xs : Nat → Int32) (L d : Nat) (r : Option Value × pv_M) (s : pv_F) (v1 : Int32) (v2 : Int32) (T : pv_T) (v3 : Int32) (st : Int32 × Int32) : Prop := match st with
  | (v4, v5) => pv_Ev xs L (d + 2) 172 (0, 0, 81, [some (.ref 94), some (.int v1), some (.int v2), some (.int v3), some (.int v4), some (.int v5)], [], pv_mm s T) r
def f172_unlikeNow_b2_X (xs : Nat → Int32) (L d : Nat) (r : Option Value × pv_M) (s : pv_F) (v1 : Int32) (v2 : Int32) (T : pv_T) (v3 : Int32) (st : Int32 × Int32) : Prop := match st with
  | (v4, v5) => ∀ z5 : Option Value, pv_Ev xs L (d + 2) 172 (0, 0, 126, [some (.ref 94), some (.int v1), some (.int v2), some (.int v3), some (.int v4), z5], [], pv_mm s T) r
def f172_unlikeNow_b1 (st : Int32 × Int32 × pv_T) : Option ((Int32 × Int32 × pv_T) ⊕ (Int32 × Int32 × pv_T)) := match st with
  | (v1, v2, T) =>
    if (T.1 94 8) ≤ v2 then
      some (.inr (v1, v2, T))
    else
      (pv_rd T.1 101 7 v2).bind fun q4 =>
      ((
        if q4 = (3:Int32) then
          some (0:Int32)
        else
          some (1:Int32)) : Option (Int32)).bind fun t6 =>
      ((
        if t6 = 0 then
          some (0:Int32)
        else
          (f141_lenOf v2 T).bind fun q40 =>
          if q40 ≤ 0 then
            some (0:Int32)
          else
            some (1:Int32)) : Option (Int32)).bind fun t7 =>
      ((
        if t6 = 0 then
          some (0:Int32)
        else
          (f141_lenOf v2 T).bind fun q34 =>
          if q34 = 0 then
            some (1:Int32)
          else
            some (0:Int32)) : Option (Int32)).bind fun t8 =>
      (pv_pm T 94 24 ((T.1 94 24) + t8)).bind fun T9 =>
      (pv_lq (f172_unlikeNow_b2 v1 v2 T9) 20000 (t7, (0:Int32))).bind fun (w22, w23) =>
      ((
        if w22 = 0 then
          some (0:Int32)
        else
          some (1:Int32)) : Option (Int32)).bind fun t24 =>
      some (.inl (v1 + t24, v2 + (1:Int32), T9))
def f172_unlikeNow_b1_H (xs : Nat → Int32) (L d : Nat) (r : Option Value × pv_M) (s : pv_F) (st : Int32 × Int32 × pv_T) : Prop := match st with
  | (v1, v2, T) => ∀ z3 : Option Value, ∀ z4 : Option Value, ∀ z5 : Option Value, pv_Ev xs L (d + 2) 172 (0, 0, 9, [some (.ref 94), some (.int v1), some (.int v2), z3, z4, z5], [], pv_mm s T) r
def f172_unlikeNow_b1_X (xs : Nat → Int32) (L d : Nat) (r : Option Value × pv_M) (s : pv_F) (st : Int32 × Int32 × pv_T) : Prop := match st with
  | (v1, v2, T) => ∀ z2 : Option Value, ∀ z3 : Option Value, ∀ z4 : Option Value, ∀ z5 : Option Value, pv_Ev xs L (d + 2) 172 (0, 0, 145, [some (.ref 94), some (.int v1), z2, z3, z4, z5], [], pv_mm s T) r
def f172_unlikeNow (T : pv_T) : Option (Int32 × pv_T) :=
  (pv_pm T 94 24 (0:Int32)).bind fun T1 =>
  (pv_lq (f172_unlikeNow_b1) 20000 ((0:Int32), (0:Int32), T1)).bind fun (w45, w46, T47) =>
  some (w45, T47)
theorem f172_unlikeNow_b2_ok {xs : Nat → Int32} {L d : Nat} {r : Option Value × pv_M} {s : pv_F} {v1 : Int32} {v2 : Int32} {T : pv_T} {v3 : Int32} (st : Int32 × Int32) (o : (Int32 × Int32) ⊕ (Int32 × Int32)) (h : f172_unlikeNow_b2 v1 v2 T st = some o) (hK : pv_Kq (f172_unlikeNow_b2_H xs L d r s v1 v2 T v3) (f172_unlikeNow_b2_X xs L d r s v1 v2 T v3) o) : f172_unlikeNow_b2_H xs L d r s v1 v2 T v3 st := by
  obtain ⟨v4, v5⟩ := st
  show pv_Ev xs L (d + 2) 172 (0, 0, 81, [some (.ref 94), some (.int v1), some (.int v2), some (.int v3), some (.int v4), some (.int v5)], [], pv_mm s T) r
  unfold f172_unlikeNow_b2 at h
  dsimp only at h
  refine pv_e_bk (ps := [(81, .iload 5, 2), (83, .iload_n 2, 1)]) (t' := (0, 0, 84, [some (.ref 94), some (.int v1), some (.int v2), some (.int v3), some (.int v4), some (.int v5)], [.int v2, .int v5], pv_mm s T)) (by decide +kernel) rfl ?_
  refine pv_e_icmpge (off := 42) (b := 126) (pc' := 87) (by decide +kernel) (by decide +kernel) rfl (fun c11 => ?_) (fun c11 => ?_)
  · rw [if_pos c11] at h
    obtain rfl := Option.some.inj h
    exact hK _
  · rw [if_neg c11] at h
    refine pv_e_bk (ps := [(87, .iload 4, 2)]) (t' := (0, 0, 89, [some (.ref 94), some (.int v1), some (.int v2), some (.int v3), some (.int v4), some (.int v5)], [.int v4], pv_mm s T)) (by decide +kernel) rfl ?_
    obtain ⟨t12, hv13, h⟩ := Option.bind_eq_some_iff.mp h
    have hJ14 : pv_Ev xs L (d + 2) 172 (0, 0, 118, [some (.ref 94), some (.int v1), some (.int v2), some (.int v3), some (.int v4), some (.int v5)], [.int t12], pv_mm s T) r := by
      refine pv_e_bk (ps := [(118, .istore 4, 2), (120, .iinc 5 1, 3), (123, .goto (-42), 3)]) (t' := (0, 0, 81, [some (.ref 94), some (.int v1), some (.int v2), some (.int v3), some (.int t12), some (.int (v5 + (1:Int32)))], [], pv_mm s T)) (by decide +kernel) rfl ?_
      obtain rfl := Option.some.inj h
      exact hK
    clear h
    have h := hv13
    clear hv13
    refine pv_e_ifeq (off := 28) (b := 117) (pc' := 92) (by decide +kernel) (by decide +kernel) rfl (fun c15 => ?_) (fun c15 => ?_)
    · rw [if_pos c15] at h
      refine pv_e_bk (ps := [(117, .iconst 0, 1)]) (t' := (0, 0, 118, [some (.ref 94), some (.int v1), some (.int v2), some (.int v3), some (.int v4), some (.int v5)], [.int (0:Int32)], pv_mm s T)) (by decide +kernel) rfl ?_
      obtain rfl := Option.some.inj h
      exact hJ14
    · rw [if_neg c15] at h
      refine pv_e_bk (ps := [(92, .aload_n 0, 1)]) (t' := (0, 0, 93, [some (.ref 94), some (.int v1), some (.int v2), some (.int v3), some (.int v4), some (.int v5)], [.ref 94], pv_mm s T)) (by decide +kernel) rfl ?_
      refine pv_e_gr (i := 32) (ci := 6) (j := 11) (b := 101) (pc' := 96) (by decide +kernel) rfl rfl rfl ?_
      refine pv_e_bk (ps := [(96, .iload 5, 2)]) (t' := (0, 0, 98, [some (.ref 94), some (.int v1), some (.int v2), some (.int v3), some (.int v4), some (.int v5)], [.int v5, .ref 101], pv_mm s T)) (by decide +kernel) rfl ?_
      obtain ⟨q16, e17, h⟩ := Option.bind_eq_some_iff.mp h
      refine pv_e_rm (pc' := 99) (by decide +kernel) (by decide) rfl e17 rfl ?_
      refine pv_e_bk (ps := [(99, .iconst 3, 1)]) (t' := (0, 0, 100, [some (.ref 94), some (.int v1), some (.int v2), some (.int v3), some (.int v4), some (.int v5)], [.int (3:Int32), .int q16], pv_mm s T)) (by decide +kernel) rfl ?_
      refine pv_e_icmpeq (off := 13) (b := 113) (pc' := 103) (by decide +kernel) (by decide +kernel) rfl (fun c18 => ?_) (fun c18 => ?_)
      · rw [if_pos c18] at h
        refine pv_e_bk (ps := [(113, .iconst 1, 1), (114, .goto 4, 3)]) (t' := (0, 0, 118, [some (.ref 94), some (.int v1), some (.int v2), some (.int v3), some (.int v4), some (.int v5)], [.int (1:Int32)], pv_mm s T)) (by decide +kernel) rfl ?_
        obtain rfl := Option.some.inj h
        exact hJ14
      · rw [if_neg c18] at h
        refine pv_e_bk (ps := [(103, .aload_n 0, 1), (104, .iload_n 2, 1), (105, .iload 5, 2)]) (t' := (0, 0, 107, [some (.ref 94), some (.int v1), some (.int v2), some (.int v3), some (.int v4), some (.int v5)], [.int v5, .int v2, .ref 94], pv_mm s T)) (by decide +kernel) rfl ?_
        obtain ⟨q20, e19, h⟩ := Option.bind_eq_some_iff.mp h
        refine pv_e_cvi (d := d + 1) (i := 148) (z := 143) (np := 2) (ml := 5) (ci := 6) (As := [.int v2, .int v5]) (rs := []) (pc' := 110) (by decide +kernel) rfl rfl rfl rfl (Nat.le_of_ble_eq_true rfl) (Nat.le_of_ble_eq_true rfl) rfl (ee143 (d + 0) v2 v5 e19) ?_
        refine pv_e_ifne (off := 7) (b := 117) (pc' := 113) (by decide +kernel) (by decide +kernel) rfl (fun c21 => ?_) (fun c21 => ?_)
        · rw [if_pos c21] at h
          refine pv_e_bk (ps := [(113, .iconst 1, 1), (114, .goto 4, 3)]) (t' := (0, 0, 118, [some (.ref 94), some (.int v1), some (.int v2), some (.int v3), some (.int v4), some (.int v5)], [.int (1:Int32)], pv_mm s T)) (by decide +kernel) rfl ?_
          obtain rfl := Option.some.inj h
          exact hJ14
        · rw [if_neg c21] at h
          refine pv_e_bk (ps := [(117, .iconst 0, 1)]) (t' := (0, 0, 118, [some (.ref 94), some (.int v1), some (.int v2), some (.int v3), some (.int v4), some (.int v5)], [.int (0:Int32)], pv_mm s T)) (by decide +kernel) rfl ?_
          obtain rfl := Option.some.inj h
          exact hJ14
theorem f172_unlikeNow_b1_ok {xs : Nat → Int32} {L d : Nat} {r : Option Value × pv_M} {s : pv_F} (st : Int32 × Int32 × pv_T) (o : (Int32 × Int32 × pv_T) ⊕ (Int32 × Int32 × pv_T)) (h : f172_unlikeNow_b1 st = some o) (hK : pv_Kq (f172_unlikeNow_b1_H xs L d r s ) (f172_unlikeNow_b1_X xs L d r s ) o) : f172_unlikeNow_b1_H xs L d r s  st := by
  obtain ⟨v1, v2, T⟩ := st
  show ∀ z3 : Option Value, ∀ z4 : Option Value, ∀ z5 : Option Value, pv_Ev xs L (d + 2) 172 (0, 0, 9, [some (.ref 94), some (.int v1), some (.int v2), z3, z4, z5], [], pv_mm s T) r
  intro z3 z4 z5
  unfold f172_unlikeNow_b1 at h
  dsimp only at h
  refine pv_e_bk (ps := [(9, .iload_n 2, 1), (10, .aload_n 0, 1)]) (t' := (0, 0, 11, [some (.ref 94), some (.int v1), some (.int v2), z3, z4, z5], [.ref 94, .int v2], pv_mm s T)) (by decide +kernel) rfl ?_
  refine pv_e_gm (i := 136) (ci := 6) (j := 8) (pc' := 14) (by decide +kernel) (by decide) rfl rfl rfl ?_
  refine pv_e_icmpge (off := 131) (b := 145) (pc' := 17) (by decide +kernel) (by decide +kernel) rfl (fun c3 => ?_) (fun c3 => ?_)
  · rw [if_pos c3] at h
    obtain rfl := Option.some.inj h
    exact hK _ _ _ _
  · rw [if_neg c3] at h
    refine pv_e_bk (ps := [(17, .aload_n 0, 1)]) (t' := (0, 0, 18, [some (.ref 94), some (.int v1), some (.int v2), z3, z4, z5], [.ref 94], pv_mm s T)) (by decide +kernel) rfl ?_
    refine pv_e_gr (i := 32) (ci := 6) (j := 11) (b := 101) (pc' := 21) (by decide +kernel) rfl rfl rfl ?_
    refine pv_e_bk (ps := [(21, .iload_n 2, 1)]) (t' := (0, 0, 22, [some (.ref 94), some (.int v1), some (.int v2), z3, z4, z5], [.int v2, .ref 101], pv_mm s T)) (by decide +kernel) rfl ?_
    obtain ⟨q4, e5, h⟩ := Option.bind_eq_some_iff.mp h
    refine pv_e_rm (pc' := 23) (by decide +kernel) (by decide) rfl e5 rfl ?_
    refine pv_e_bk (ps := [(23, .iconst 3, 1)]) (t' := (0, 0, 24, [some (.ref 94), some (.int v1), some (.int v2), z3, z4, z5], [.int (3:Int32), .int q4], pv_mm s T)) (by decide +kernel) rfl ?_
    obtain ⟨t6, hv42, h⟩ := Option.bind_eq_some_iff.mp h
    have hJ43 : pv_Ev xs L (d + 2) 172 (0, 0, 32, [some (.ref 94), some (.int v1), some (.int v2), z3, z4, z5], [.int t6], pv_mm s T) r := by
      refine pv_e_bk (ps := [(32, .istore_n 3, 1), (33, .iload_n 3, 1)]) (t' := (0, 0, 34, [some (.ref 94), some (.int v1), some (.int v2), some (.int t6), z4, z5], [.int t6], pv_mm s T)) (by decide +kernel) rfl ?_
      obtain ⟨t7, hv36, h⟩ := Option.bind_eq_some_iff.mp h
      have hJ37 : pv_Ev xs L (d + 2) 172 (0, 0, 50, [some (.ref 94), some (.int v1), some (.int v2), some (.int t6), z4, z5], [.int t7], pv_mm s T) r := by
        refine pv_e_bk (ps := [(50, .istore 4, 2), (52, .aload_n 0, 1), (53, .dup, 1)]) (t' := (0, 0, 54, [some (.ref 94), some (.int v1), some (.int v2), some (.int t6), some (.int t7), z5], [.ref 94, .ref 94], pv_mm s T)) (by decide +kernel) rfl ?_
        refine pv_e_gm (i := 212) (ci := 6) (j := 24) (pc' := 57) (by decide +kernel) (by decide) rfl rfl rfl ?_
        refine pv_e_bk (ps := [(57, .iload_n 3, 1)]) (t' := (0, 0, 58, [some (.ref 94), some (.int v1), some (.int v2), some (.int t6), some (.int t7), z5], [.int t6, .int (T.1 94 24), .ref 94], pv_mm s T)) (by decide +kernel) rfl ?_
        obtain ⟨t8, hv30, h⟩ := Option.bind_eq_some_iff.mp h
        have hJ31 : pv_Ev xs L (d + 2) 172 (0, 0, 74, [some (.ref 94), some (.int v1), some (.int v2), some (.int t6), some (.int t7), z5], [.int t8, .int (T.1 94 24), .ref 94], pv_mm s T) r := by
          refine pv_e_bk (ps := [(74, .iadd, 1)]) (t' := (0, 0, 75, [some (.ref 94), some (.int v1), some (.int v2), some (.int t6), some (.int t7), z5], [.int ((T.1 94 24) + t8), .ref 94], pv_mm s T)) (by decide +kernel) rfl ?_
          obtain ⟨T9, e10, h⟩ := Option.bind_eq_some_iff.mp h
          refine pv_e_pms (i := 212) (ci := 6) (j := 24) (pc' := 78) (by decide +kernel) rfl rfl (by decide) rfl rfl e10 rfl ?_
          refine pv_e_bk (ps := [(78, .iconst 0, 1), (79, .istore 5, 2)]) (t' := (0, 0, 81, [some (.ref 94), some (.int v1), some (.int v2), some (.int t6), some (.int t7), some (.int (0:Int32))], [], pv_mm s T9)) (by decide +kernel) rfl ?_
          obtain ⟨⟨w22, w23⟩, e29, h⟩ := Option.bind_eq_some_iff.mp h
          dsimp only at h
          have hx28 : f172_unlikeNow_b2_X xs L d r s v1 v2 T9 t6 (w22, w23) := by
            show ∀ z5 : Option Value, pv_Ev xs L (d + 2) 172 (0, 0, 126, [some (.ref 94), some (.int v1), some (.int v2), some (.int t6), some (.int w22), z5], [], pv_mm s T9) r
            intro z5
            refine pv_e_bk (ps := [(126, .iload_n 1, 1), (127, .iload 4, 2)]) (t' := (0, 0, 129, [some (.ref 94), some (.int v1), some (.int v2), some (.int t6), some (.int w22), z5], [.int w22, .int v1], pv_mm s T9)) (by decide +kernel) rfl ?_
            obtain ⟨t24, hv25, h⟩ := Option.bind_eq_some_iff.mp h
            have hJ26 : pv_Ev xs L (d + 2) 172 (0, 0, 137, [some (.ref 94), some (.int v1), some (.int v2), some (.int t6), some (.int w22), z5], [.int t24, .int v1], pv_mm s T9) r := by
              refine pv_e_bk (ps := [(137, .iadd, 1), (138, .istore_n 1, 1), (139, .iinc 2 1, 3), (142, .goto (-133), 3)]) (t' := (0, 0, 9, [some (.ref 94), some (.int (v1 + t24)), some (.int (v2 + (1:Int32))), some (.int t6), some (.int w22), z5], [], pv_mm s T9)) (by decide +kernel) rfl ?_
              obtain rfl := Option.some.inj h
              exact hK _ _ _
            clear h
            have h := hv25
            clear hv25
            refine pv_e_ifeq (off := 7) (b := 136) (pc' := 132) (by decide +kernel) (by decide +kernel) rfl (fun c27 => ?_) (fun c27 => ?_)
            · rw [if_pos c27] at h
              refine pv_e_bk (ps := [(136, .iconst 0, 1)]) (t' := (0, 0, 137, [some (.ref 94), some (.int v1), some (.int v2), some (.int t6), some (.int w22), z5], [.int (0:Int32), .int v1], pv_mm s T9)) (by decide +kernel) rfl ?_
              obtain rfl := Option.some.inj h
              exact hJ26
            · rw [if_neg c27] at h
              refine pv_e_bk (ps := [(132, .iconst 1, 1), (133, .goto 4, 3)]) (t' := (0, 0, 137, [some (.ref 94), some (.int v1), some (.int v2), some (.int t6), some (.int w22), z5], [.int (1:Int32), .int v1], pv_mm s T9)) (by decide +kernel) rfl ?_
              obtain rfl := Option.some.inj h
              exact hJ26
          exact pv_lq_ok (H := f172_unlikeNow_b2_H xs L d r s v1 v2 T9 t6) (X := f172_unlikeNow_b2_X xs L d r s v1 v2 T9 t6) (f172_unlikeNow_b2_ok (xs := xs) (L := L) (d := d) (r := r) (s := s) (v1 := v1) (v2 := v2) (T := T9) (v3 := t6)) 20000 _ _ e29 hx28
        clear h
        have h := hv30
        clear hv30
        refine pv_e_ifeq (off := 15) (b := 73) (pc' := 61) (by decide +kernel) (by decide +kernel) rfl (fun c32 => ?_) (fun c32 => ?_)
        · rw [if_pos c32] at h
          refine pv_e_bk (ps := [(73, .iconst 0, 1)]) (t' := (0, 0, 74, [some (.ref 94), some (.int v1), some (.int v2), some (.int t6), some (.int t7), z5], [.int (0:Int32), .int (T.1 94 24), .ref 94], pv_mm s T)) (by decide +kernel) rfl ?_
          obtain rfl := Option.some.inj h
          exact hJ31
        · rw [if_neg c32] at h
          refine pv_e_bk (ps := [(61, .aload_n 0, 1), (62, .iload_n 2, 1)]) (t' := (0, 0, 63, [some (.ref 94), some (.int v1), some (.int v2), some (.int t6), some (.int t7), z5], [.int v2, .ref 94, .int (T.1 94 24), .ref 94], pv_mm s T)) (by decide +kernel) rfl ?_
          obtain ⟨q34, e33, h⟩ := Option.bind_eq_some_iff.mp h
          refine pv_e_cvi (d := d + 1) (i := 142) (z := 141) (np := 1) (ml := 2) (ci := 6) (As := [.int v2]) (rs := [.int (T.1 94 24), .ref 94]) (pc' := 66) (by decide +kernel) rfl rfl rfl rfl (Nat.le_of_ble_eq_true rfl) (Nat.le_of_ble_eq_true rfl) rfl (ee141 (d + 1) v2 e33) ?_
          refine pv_e_ifne (off := 7) (b := 73) (pc' := 69) (by decide +kernel) (by decide +kernel) rfl (fun c35 => ?_) (fun c35 => ?_)
          · rw [if_pos c35] at h
            refine pv_e_bk (ps := [(69, .iconst 1, 1), (70, .goto 4, 3)]) (t' := (0, 0, 74, [some (.ref 94), some (.int v1), some (.int v2), some (.int t6), some (.int t7), z5], [.int (1:Int32), .int (T.1 94 24), .ref 94], pv_mm s T)) (by decide +kernel) rfl ?_
            obtain rfl := Option.some.inj h
            exact hJ31
          · rw [if_neg c35] at h
            refine pv_e_bk (ps := [(73, .iconst 0, 1)]) (t' := (0, 0, 74, [some (.ref 94), some (.int v1), some (.int v2), some (.int t6), some (.int t7), z5], [.int (0:Int32), .int (T.1 94 24), .ref 94], pv_mm s T)) (by decide +kernel) rfl ?_
            obtain rfl := Option.some.inj h
            exact hJ31
      clear h
      have h := hv36
      clear hv36
      refine pv_e_ifeq (off := 15) (b := 49) (pc' := 37) (by decide +kernel) (by decide +kernel) rfl (fun c38 => ?_) (fun c38 => ?_)
      · rw [if_pos c38] at h
        refine pv_e_bk (ps := [(49, .iconst 0, 1)]) (t' := (0, 0, 50, [some (.ref 94), some (.int v1), some (.int v2), some (.int t6), z4, z5], [.int (0:Int32)], pv_mm s T)) (by decide +kernel) rfl ?_
        obtain rfl := Option.some.inj h
        exact hJ37
      · rw [if_neg c38] at h
        refine pv_e_bk (ps := [(37, .aload_n 0, 1), (38, .iload_n 2, 1)]) (t' := (0, 0, 39, [some (.ref 94), some (.int v1), some (.int v2), some (.int t6), z4, z5], [.int v2, .ref 94], pv_mm s T)) (by decide +kernel) rfl ?_
        obtain ⟨q40, e39, h⟩ := Option.bind_eq_some_iff.mp h
        refine pv_e_cvi (d := d + 1) (i := 142) (z := 141) (np := 1) (ml := 2) (ci := 6) (As := [.int v2]) (rs := []) (pc' := 42) (by decide +kernel) rfl rfl rfl rfl (Nat.le_of_ble_eq_true rfl) (Nat.le_of_ble_eq_true rfl) rfl (ee141 (d + 1) v2 e39) ?_
        refine pv_e_ifle (off := 7) (b := 49) (pc' := 45) (by decide +kernel) (by decide +kernel) rfl (fun c41 => ?_) (fun c41 => ?_)
        · rw [if_pos c41] at h
          refine pv_e_bk (ps := [(49, .iconst 0, 1)]) (t' := (0, 0, 50, [some (.ref 94), some (.int v1), some (.int v2), some (.int t6), z4, z5], [.int (0:Int32)], pv_mm s T)) (by decide +kernel) rfl ?_
          obtain rfl := Option.some.inj h
          exact hJ37
        · rw [if_neg c41] at h
          refine pv_e_bk (ps := [(45, .iconst 1, 1), (46, .goto 4, 3)]) (t' := (0, 0, 50, [some (.ref 94), some (.int v1), some (.int v2), some (.int t6), z4, z5], [.int (1:Int32)], pv_mm s T)) (by decide +kernel) rfl ?_
          obtain rfl := Option.some.inj h
          exact hJ37
    clear h
    have h := hv42
    clear hv42
    refine pv_e_icmpeq (off := 7) (b := 31) (pc' := 27) (by decide +kernel) (by decide +kernel) rfl (fun c44 => ?_) (fun c44 => ?_)
    · rw [if_pos c44] at h
      refine pv_e_bk (ps := [(31, .iconst 0, 1)]) (t' := (0, 0, 32, [some (.ref 94), some (.int v1), some (.int v2), z3, z4, z5], [.int (0:Int32)], pv_mm s T)) (by decide +kernel) rfl ?_
      obtain rfl := Option.some.inj h
      exact hJ43
    · rw [if_neg c44] at h
      refine pv_e_bk (ps := [(27, .iconst 1, 1), (28, .goto 4, 3)]) (t' := (0, 0, 32, [some (.ref 94), some (.int v1), some (.int v2), z3, z4, z5], [.int (1:Int32)], pv_mm s T)) (by decide +kernel) rfl ?_
      obtain rfl := Option.some.inj h
      exact hJ43
theorem ee172 {xs : Nat → Int32} {L : Nat} (d : Nat)  {s : pv_F} {T : pv_T} {q : Int32 × pv_T}  (h : f172_unlikeNow T = some q) : pv_Ev xs L (d + 2) 172 (0, 0, 0, [some (.ref 94), none, none, none, none, none], [], pv_mm s T) (some (.int q.1), pv_mm s q.2) := by
  generalize hr : ((some (.int q.1), pv_mm s q.2) : Option Value × pv_M) = r
  unfold f172_unlikeNow at h
  refine pv_e_bk (ps := [(0, .iconst 0, 1), (1, .istore_n 1, 1), (2, .aload_n 0, 1), (3, .iconst 0, 1)]) (t' := (0, 0, 4, [some (.ref 94), some (.int (0:Int32)), none, none, none, none], [.int (0:Int32), .ref 94], pv_mm s T)) (by decide +kernel) rfl ?_
  obtain ⟨T1, e2, h⟩ := Option.bind_eq_some_iff.mp h
  refine pv_e_pms (i := 212) (ci := 6) (j := 24) (pc' := 7) (by decide +kernel) rfl rfl (by decide) rfl rfl e2 rfl ?_
  refine pv_e_bk (ps := [(7, .iconst 0, 1), (8, .istore_n 2, 1)]) (t' := (0, 0, 9, [some (.ref 94), some (.int (0:Int32)), some (.int (0:Int32)), none, none, none], [], pv_mm s T1)) (by decide +kernel) rfl ?_
  obtain ⟨⟨w45, w46, T47⟩, e49, h⟩ := Option.bind_eq_some_iff.mp h
  dsimp only at h
  have hx48 : f172_unlikeNow_b1_X xs L d r s (w45, w46, T47) := by
    show ∀ z2 : Option Value, ∀ z3 : Option Value, ∀ z4 : Option Value, ∀ z5 : Option Value, pv_Ev xs L (d + 2) 172 (0, 0, 145, [some (.ref 94), some (.int w45), z2, z3, z4, z5], [], pv_mm s T47) r
    intro z2 z3 z4 z5
    refine pv_e_bk (ps := [(145, .iload_n 1, 1)]) (t' := (0, 0, 146, [some (.ref 94), some (.int w45), z2, z3, z4, z5], [.int w45], pv_mm s T47)) (by decide +kernel) rfl ?_
    obtain rfl := Option.some.inj h
    cases hr
    exact pv_e_ri (by decide +kernel)
  exact pv_lq_ok (H := f172_unlikeNow_b1_H xs L d r s) (X := f172_unlikeNow_b1_X xs L d r s) (f172_unlikeNow_b1_ok (xs := xs) (L := L) (d := d) (r := r) (s := s)) 20000 _ _ e49 hx48 _ _ _
def f173_unlike_b1 (v1 : Int32) (st : Int32 × pv_T) : Option ((Int32 × pv_T) ⊕ (Int32 × pv_T)) := match st with
  | (v2, T) =>
    if v1 ≤ v2 then
      some (.inr (v2, T))
    else
      (f171_comeAll T).bind fun T8 =>
      some (.inl (v2 + (1:Int32), T8))
def f173_unlike_b1_H (xs : Nat → Int32) (L d : Nat) (r : Option Value × pv_M) (s : pv_F) (v1 : Int32) (st : Int32 × pv_T) : Prop := match st with
  | (v2, T) => pv_Ev xs L (d + 5) 173 (0, 0, 18, [some (.ref 94), some (.int v1), some (.int v2)], [], pv_mm s T) r
def f173_unlike_b1_X (xs : Nat → Int32) (L d : Nat) (r : Option Value × pv_M) (s : pv_F) (v1 : Int32) (st : Int32 × pv_T) : Prop := match st with
  | (v2, T) => ∀ z2 : Option Value, pv_Ev xs L (d + 5) 173 (0, 0, 33, [some (.ref 94), some (.int v1), z2], [], pv_mm s T) r
def f173_unlike (x1 : Int32) (T : pv_T) : Option (Int32 × pv_T) :=
  (f113_in x1 (0:Int32) (12:Int32)).bind fun q2 =>
  if q2 = 0 then
    some ((-1:Int32), T)
  else
    (f167_putAside T).bind fun T5 =>
    (pv_lq (f173_unlike_b1 x1) 20000 ((0:Int32), T5)).bind fun (w9, T10) =>
    (f172_unlikeNow T10).bind fun (q12, T13) =>
    (f168_comeBack T13).bind fun T15 =>
    (f115_ask (T15.1 94 24) q12 T15).bind fun (q17, T18) =>
    some (q17, T18)
theorem f173_unlike_b1_ok {xs : Nat → Int32} {L d : Nat} {r : Option Value × pv_M} {s : pv_F} {v1 : Int32} (st : Int32 × pv_T) (o : (Int32 × pv_T) ⊕ (Int32 × pv_T)) (h : f173_unlike_b1 v1 st = some o) (hK : pv_Kq (f173_unlike_b1_H xs L d r s v1) (f173_unlike_b1_X xs L d r s v1) o) : f173_unlike_b1_H xs L d r s v1 st := by
  obtain ⟨v2, T⟩ := st
  show pv_Ev xs L (d + 5) 173 (0, 0, 18, [some (.ref 94), some (.int v1), some (.int v2)], [], pv_mm s T) r
  unfold f173_unlike_b1 at h
  dsimp only at h
  refine pv_e_bk (ps := [(18, .iload_n 2, 1), (19, .iload_n 1, 1)]) (t' := (0, 0, 20, [some (.ref 94), some (.int v1), some (.int v2)], [.int v1, .int v2], pv_mm s T)) (by decide +kernel) rfl ?_
  refine pv_e_icmpge (off := 13) (b := 33) (pc' := 23) (by decide +kernel) (by decide +kernel) rfl (fun c6 => ?_) (fun c6 => ?_)
  · rw [if_pos c6] at h
    obtain rfl := Option.some.inj h
    exact hK _
  · rw [if_neg c6] at h
    refine pv_e_bk (ps := [(23, .aload_n 0, 1)]) (t' := (0, 0, 24, [some (.ref 94), some (.int v1), some (.int v2)], [.ref 94], pv_mm s T)) (by decide +kernel) rfl ?_
    obtain ⟨T8, e7, h⟩ := Option.bind_eq_some_iff.mp h
    refine pv_e_cvv (d := d + 4) (i := 215) (z := 171) (np := 0) (ml := 2) (ci := 6) (As := []) (rs := []) (pc' := 27) (by decide +kernel) rfl rfl rfl rfl (Nat.le_of_ble_eq_true rfl) (Nat.le_of_ble_eq_true rfl) rfl (ee171 (d + 0) e7) ?_
    refine pv_e_bk (ps := [(27, .iinc 2 1, 3), (30, .goto (-12), 3)]) (t' := (0, 0, 18, [some (.ref 94), some (.int v1), some (.int (v2 + (1:Int32)))], [], pv_mm s T8)) (by decide +kernel) rfl ?_
    obtain rfl := Option.some.inj h
    exact hK
theorem ee173 {xs : Nat → Int32} {L : Nat} (d : Nat) (x1 : Int32) {s : pv_F} {T : pv_T} {q : Int32 × pv_T}  (h : f173_unlike x1 T = some q) : pv_Ev xs L (d + 5) 173 (0, 0, 0, [some (.ref 94), some (.int x1), none], [], pv_mm s T) (some (.int q.1), pv_mm s q.2) := by
  generalize hr : ((some (.int q.1), pv_mm s q.2) : Option Value × pv_M) = r
  unfold f173_unlike at h
  refine pv_e_bk (ps := [(0, .iload_n 1, 1), (1, .iconst 0, 1), (2, .bipush 12, 2)]) (t' := (0, 0, 4, [some (.ref 94), some (.int x1), none], [.int (12:Int32), .int (0:Int32), .int x1], pv_mm s T)) (by decide +kernel) rfl ?_
  obtain ⟨q2, e1, h⟩ := Option.bind_eq_some_iff.mp h
  refine pv_e_csi (d := d + 4) (i := 83) (z := 113) (np := 3) (ml := 3) (As := [.int x1, .int (0:Int32), .int (12:Int32)]) (rs := []) (pc' := 7) (by decide +kernel) rfl rfl rfl (Nat.le_of_ble_eq_true rfl) (Nat.le_of_ble_eq_true rfl) rfl (ee113 (d + 4) x1 (0:Int32) (12:Int32) e1) ?_
  refine pv_e_ifne (off := 5) (b := 12) (pc' := 10) (by decide +kernel) (by decide +kernel) rfl (fun c3 => ?_) (fun c3 => ?_)
  · rw [if_pos c3] at h
    refine pv_e_bk (ps := [(10, .iconst (-1), 1)]) (t' := (0, 0, 11, [some (.ref 94), some (.int x1), none], [.int (-1:Int32)], pv_mm s T)) (by decide +kernel) rfl ?_
    obtain rfl := Option.some.inj h
    cases hr
    exact pv_e_ri (by decide +kernel)
  · rw [if_neg c3] at h
    refine pv_e_bk (ps := [(12, .aload_n 0, 1)]) (t' := (0, 0, 13, [some (.ref 94), some (.int x1), none], [.ref 94], pv_mm s T)) (by decide +kernel) rfl ?_
    obtain ⟨T5, e4, h⟩ := Option.bind_eq_some_iff.mp h
    refine pv_e_cvv (d := d + 4) (i := 206) (z := 167) (np := 0) (ml := 1) (ci := 6) (As := []) (rs := []) (pc' := 16) (by decide +kernel) rfl rfl rfl rfl (Nat.le_of_ble_eq_true rfl) (Nat.le_of_ble_eq_true rfl) rfl (ee167 (d + 3) e4) ?_
    refine pv_e_bk (ps := [(16, .iconst 0, 1), (17, .istore_n 2, 1)]) (t' := (0, 0, 18, [some (.ref 94), some (.int x1), some (.int (0:Int32))], [], pv_mm s T5)) (by decide +kernel) rfl ?_
    obtain ⟨⟨w9, T10⟩, e20, h⟩ := Option.bind_eq_some_iff.mp h
    dsimp only at h
    have hx19 : f173_unlike_b1_X xs L d r s x1 (w9, T10) := by
      show ∀ z2 : Option Value, pv_Ev xs L (d + 5) 173 (0, 0, 33, [some (.ref 94), some (.int x1), z2], [], pv_mm s T10) r
      intro z2
      refine pv_e_bk (ps := [(33, .aload_n 0, 1)]) (t' := (0, 0, 34, [some (.ref 94), some (.int x1), z2], [.ref 94], pv_mm s T10)) (by decide +kernel) rfl ?_
      obtain ⟨⟨q12, T13⟩, e11, h⟩ := Option.bind_eq_some_iff.mp h
      dsimp only at h
      refine pv_e_cvi (d := d + 4) (i := 218) (z := 172) (np := 0) (ml := 6) (ci := 6) (As := []) (rs := []) (pc' := 37) (by decide +kernel) rfl rfl rfl rfl (Nat.le_of_ble_eq_true rfl) (Nat.le_of_ble_eq_true rfl) rfl (ee172 (d + 2) e11) ?_
      refine pv_e_bk (ps := [(37, .istore_n 2, 1), (38, .aload_n 0, 1)]) (t' := (0, 0, 39, [some (.ref 94), some (.int x1), some (.int q12)], [.ref 94], pv_mm s T13)) (by decide +kernel) rfl ?_
      obtain ⟨T15, e14, h⟩ := Option.bind_eq_some_iff.mp h
      refine pv_e_cvv (d := d + 4) (i := 209) (z := 168) (np := 0) (ml := 1) (ci := 6) (As := []) (rs := []) (pc' := 42) (by decide +kernel) rfl rfl rfl rfl (Nat.le_of_ble_eq_true rfl) (Nat.le_of_ble_eq_true rfl) rfl (ee168 (d + 3) e14) ?_
      refine pv_e_bk (ps := [(42, .aload_n 0, 1), (43, .aload_n 0, 1)]) (t' := (0, 0, 44, [some (.ref 94), some (.int x1), some (.int q12)], [.ref 94, .ref 94], pv_mm s T15)) (by decide +kernel) rfl ?_
      refine pv_e_gm (i := 212) (ci := 6) (j := 24) (pc' := 47) (by decide +kernel) (by decide) rfl rfl rfl ?_
      refine pv_e_bk (ps := [(47, .iload_n 2, 1)]) (t' := (0, 0, 48, [some (.ref 94), some (.int x1), some (.int q12)], [.int q12, .int (T15.1 94 24), .ref 94], pv_mm s T15)) (by decide +kernel) rfl ?_
      obtain ⟨⟨q17, T18⟩, e16, h⟩ := Option.bind_eq_some_iff.mp h
      dsimp only at h
      refine pv_e_cvi (d := d + 4) (i := 109) (z := 115) (np := 2) (ml := 3) (ci := 6) (As := [.int (T15.1 94 24), .int q12]) (rs := []) (pc' := 51) (by decide +kernel) rfl rfl rfl rfl (Nat.le_of_ble_eq_true rfl) (Nat.le_of_ble_eq_true rfl) rfl (ee115 (d + 4) (T15.1 94 24) q12 e16) ?_
      obtain rfl := Option.some.inj h
      cases hr
      exact pv_e_ri (by decide +kernel)
    exact pv_lq_ok (H := f173_unlike_b1_H xs L d r s x1) (X := f173_unlike_b1_X xs L d r s x1) (f173_unlike_b1_ok (xs := xs) (L := L) (d := d) (r := r) (s := s) (v1 := x1)) 20000 _ _ e20 hx19
def f174_living_b1 (T : pv_T) (st : Int32 × Int32) : Option ((Int32 × Int32) ⊕ (Int32 × Int32)) := match st with
  | (v1, v2) =>
    if (T.1 94 8) ≤ v2 then
      some (.inr (v1, v2))
    else
      (pv_rd T.1 101 7 v2).bind fun q2 =>
      ((
        if q2 = (3:Int32) then
          some (0:Int32)
        else
          some (1:Int32)) : Option (Int32)).bind fun t4 =>
      some (.inl (v1 + t4, v2 + (1:Int32)))
def f174_living_b1_H (xs : Nat → Int32) (L d : Nat) (r : Option Value × pv_M) (s : pv_F) (T : pv_T) (st : Int32 × Int32) : Prop := match st with
  | (v1, v2) => pv_Ev xs L (d + 0) 174 (0, 0, 4, [some (.ref 94), some (.int v1), some (.int v2)], [], pv_mm s T) r
def f174_living_b1_X (xs : Nat → Int32) (L d : Nat) (r : Option Value × pv_M) (s : pv_F) (T : pv_T) (st : Int32 × Int32) : Prop := match st with
  | (v1, v2) => ∀ z2 : Option Value, pv_Ev xs L (d + 0) 174 (0, 0, 36, [some (.ref 94), some (.int v1), z2], [], pv_mm s T) r
def f174_living (T : pv_T) : Option (Int32) :=
  (pv_lq (f174_living_b1 T) 20000 ((0:Int32), (0:Int32))).bind fun (w8, w9) =>
  some w8
theorem f174_living_b1_ok {xs : Nat → Int32} {L d : Nat} {r : Option Value × pv_M} {s : pv_F} {T : pv_T} (st : Int32 × Int32) (o : (Int32 × Int32) ⊕ (Int32 × Int32)) (h : f174_living_b1 T st = some o) (hK : pv_Kq (f174_living_b1_H xs L d r s T) (f174_living_b1_X xs L d r s T) o) : f174_living_b1_H xs L d r s T st := by
  obtain ⟨v1, v2⟩ := st
  show pv_Ev xs L (d + 0) 174 (0, 0, 4, [some (.ref 94), some (.int v1), some (.int v2)], [], pv_mm s T) r
  unfold f174_living_b1 at h
  dsimp only at h
  refine pv_e_bk (ps := [(4, .iload_n 2, 1), (5, .aload_n 0, 1)]) (t' := (0, 0, 6, [some (.ref 94), some (.int v1), some (.int v2)], [.ref 94, .int v2], pv_mm s T)) (by decide +kernel) rfl ?_
  refine pv_e_gm (i := 136) (ci := 6) (j := 8) (pc' := 9) (by decide +kernel) (by decide) rfl rfl rfl ?_
  refine pv_e_icmpge (off := 27) (b := 36) (pc' := 12) (by decide +kernel) (by decide +kernel) rfl (fun c1 => ?_) (fun c1 => ?_)
  · rw [if_pos c1] at h
    obtain rfl := Option.some.inj h
    exact hK _
  · rw [if_neg c1] at h
    refine pv_e_bk (ps := [(12, .iload_n 1, 1), (13, .aload_n 0, 1)]) (t' := (0, 0, 14, [some (.ref 94), some (.int v1), some (.int v2)], [.ref 94, .int v1], pv_mm s T)) (by decide +kernel) rfl ?_
    refine pv_e_gr (i := 32) (ci := 6) (j := 11) (b := 101) (pc' := 17) (by decide +kernel) rfl rfl rfl ?_
    refine pv_e_bk (ps := [(17, .iload_n 2, 1)]) (t' := (0, 0, 18, [some (.ref 94), some (.int v1), some (.int v2)], [.int v2, .ref 101, .int v1], pv_mm s T)) (by decide +kernel) rfl ?_
    obtain ⟨q2, e3, h⟩ := Option.bind_eq_some_iff.mp h
    refine pv_e_rm (pc' := 19) (by decide +kernel) (by decide) rfl e3 rfl ?_
    refine pv_e_bk (ps := [(19, .iconst 3, 1)]) (t' := (0, 0, 20, [some (.ref 94), some (.int v1), some (.int v2)], [.int (3:Int32), .int q2, .int v1], pv_mm s T)) (by decide +kernel) rfl ?_
    obtain ⟨t4, hv5, h⟩ := Option.bind_eq_some_iff.mp h
    have hJ6 : pv_Ev xs L (d + 0) 174 (0, 0, 28, [some (.ref 94), some (.int v1), some (.int v2)], [.int t4, .int v1], pv_mm s T) r := by
      refine pv_e_bk (ps := [(28, .iadd, 1), (29, .istore_n 1, 1), (30, .iinc 2 1, 3), (33, .goto (-29), 3)]) (t' := (0, 0, 4, [some (.ref 94), some (.int (v1 + t4)), some (.int (v2 + (1:Int32)))], [], pv_mm s T)) (by decide +kernel) rfl ?_
      obtain rfl := Option.some.inj h
      exact hK
    clear h
    have h := hv5
    clear hv5
    refine pv_e_icmpne (off := 7) (b := 27) (pc' := 23) (by decide +kernel) (by decide +kernel) rfl (fun c7 => ?_) (fun c7 => ?_)
    · rw [if_pos c7] at h
      refine pv_e_bk (ps := [(23, .iconst 0, 1), (24, .goto 4, 3)]) (t' := (0, 0, 28, [some (.ref 94), some (.int v1), some (.int v2)], [.int (0:Int32), .int v1], pv_mm s T)) (by decide +kernel) rfl ?_
      obtain rfl := Option.some.inj h
      exact hJ6
    · rw [if_neg c7] at h
      refine pv_e_bk (ps := [(27, .iconst 1, 1)]) (t' := (0, 0, 28, [some (.ref 94), some (.int v1), some (.int v2)], [.int (1:Int32), .int v1], pv_mm s T)) (by decide +kernel) rfl ?_
      obtain rfl := Option.some.inj h
      exact hJ6
theorem ee174 {xs : Nat → Int32} {L : Nat} (d : Nat)  {s : pv_F} {T : pv_T} {q : Int32}  (h : f174_living T = some q) : pv_Ev xs L (d + 0) 174 (0, 0, 0, [some (.ref 94), none, none], [], pv_mm s T) (some (.int q), pv_mm s T) := by
  generalize hr : ((some (.int q), pv_mm s T) : Option Value × pv_M) = r
  unfold f174_living at h
  refine pv_e_bk (ps := [(0, .iconst 0, 1), (1, .istore_n 1, 1), (2, .iconst 0, 1), (3, .istore_n 2, 1)]) (t' := (0, 0, 4, [some (.ref 94), some (.int (0:Int32)), some (.int (0:Int32))], [], pv_mm s T)) (by decide +kernel) rfl ?_
  obtain ⟨⟨w8, w9⟩, e11, h⟩ := Option.bind_eq_some_iff.mp h
  dsimp only at h
  have hx10 : f174_living_b1_X xs L d r s T (w8, w9) := by
    show ∀ z2 : Option Value, pv_Ev xs L (d + 0) 174 (0, 0, 36, [some (.ref 94), some (.int w8), z2], [], pv_mm s T) r
    intro z2
    refine pv_e_bk (ps := [(36, .iload_n 1, 1)]) (t' := (0, 0, 37, [some (.ref 94), some (.int w8), z2], [.int w8], pv_mm s T)) (by decide +kernel) rfl ?_
    obtain rfl := Option.some.inj h
    cases hr
    exact pv_e_ri (by decide +kernel)
  exact pv_lq_ok (H := f174_living_b1_H xs L d r s T) (X := f174_living_b1_X xs L d r s T) (f174_living_b1_ok (xs := xs) (L := L) (d := d) (r := r) (s := s) (T := T)) 20000 _ _ e11 hx10
def f175_first_b1 (st : Int32 × Int32 × pv_T) : Option ((Int32 × Int32 × pv_T) ⊕ (Int32 × Int32 × pv_T)) := match st with
  | (v1, v2, T) =>
    if (12:Int32) < v2 then
      some (.inr (v1, v2, T))
    else
      if v1 = (-9:Int32) then
        (f172_unlikeNow T).bind fun (q6, T7) =>
        (f174_living T7).bind fun q9 =>
        ((
          if q9 ≤ (q6 + (T7.1 94 24)) then
            some (-9:Int32)
          else
            some v2) : Option (Int32)).bind fun t10 =>
        (f171_comeAll T7).bind fun T12 =>
        some (.inl (t10, v2 + (1:Int32), T12))
      else
        some (.inr (v1, v2, T))
def f175_first_b1_H (xs : Nat → Int32) (L d : Nat) (r : Option Value × pv_M) (s : pv_F) (st : Int32 × Int32 × pv_T) : Prop := match st with
  | (v1, v2, T) => ∀ z3 : Option Value, pv_Ev xs L (d + 5) 175 (0, 0, 9, [some (.ref 94), some (.int v1), some (.int v2), z3], [], pv_mm s T) r
def f175_first_b1_X (xs : Nat → Int32) (L d : Nat) (r : Option Value × pv_M) (s : pv_F) (st : Int32 × Int32 × pv_T) : Prop := match st with
  | (v1, v2, T) => ∀ z2 : Option Value, ∀ z3 : Option Value, pv_Ev xs L (d + 5) 175 (0, 0, 56, [some (.ref 94), some (.int v1), z2, z3], [], pv_mm s T) r
def f175_first (T : pv_T) : Option (Int32 × pv_T) :=
  (f167_putAside T).bind fun T2 =>
  (pv_lq (f175_first_b1) 20000 ((-9:Int32), (0:Int32), T2)).bind fun (w16, w17, T18) =>
  (f168_comeBack T18).bind fun T20 =>
  some (w16, T20)
theorem f175_first_b1_ok {xs : Nat → Int32} {L d : Nat} {r : Option Value × pv_M} {s : pv_F} (st : Int32 × Int32 × pv_T) (o : (Int32 × Int32 × pv_T) ⊕ (Int32 × Int32 × pv_T)) (h : f175_first_b1 st = some o) (hK : pv_Kq (f175_first_b1_H xs L d r s ) (f175_first_b1_X xs L d r s ) o) : f175_first_b1_H xs L d r s  st := by
  obtain ⟨v1, v2, T⟩ := st
  show ∀ z3 : Option Value, pv_Ev xs L (d + 5) 175 (0, 0, 9, [some (.ref 94), some (.int v1), some (.int v2), z3], [], pv_mm s T) r
  intro z3
  unfold f175_first_b1 at h
  dsimp only at h
  refine pv_e_bk (ps := [(9, .iload_n 2, 1), (10, .bipush 12, 2)]) (t' := (0, 0, 12, [some (.ref 94), some (.int v1), some (.int v2), z3], [.int (12:Int32), .int v2], pv_mm s T)) (by decide +kernel) rfl ?_
  refine pv_e_icmpgt (off := 44) (b := 56) (pc' := 15) (by decide +kernel) (by decide +kernel) rfl (fun c3 => ?_) (fun c3 => ?_)
  · rw [if_pos c3] at h
    obtain rfl := Option.some.inj h
    exact hK _ _
  · rw [if_neg c3] at h
    refine pv_e_bk (ps := [(15, .iload_n 1, 1), (16, .bipush (-9), 2)]) (t' := (0, 0, 18, [some (.ref 94), some (.int v1), some (.int v2), z3], [.int (-9:Int32), .int v1], pv_mm s T)) (by decide +kernel) rfl ?_
    refine pv_e_icmpne (off := 38) (b := 56) (pc' := 21) (by decide +kernel) (by decide +kernel) rfl (fun c4 => ?_) (fun c4 => ?_)
    · rw [if_pos c4] at h
      refine pv_e_bk (ps := [(21, .aload_n 0, 1)]) (t' := (0, 0, 22, [some (.ref 94), some (.int v1), some (.int v2), z3], [.ref 94], pv_mm s T)) (by decide +kernel) rfl ?_
      obtain ⟨⟨q6, T7⟩, e5, h⟩ := Option.bind_eq_some_iff.mp h
      dsimp only at h
      refine pv_e_cvi (d := d + 4) (i := 218) (z := 172) (np := 0) (ml := 6) (ci := 6) (As := []) (rs := []) (pc' := 25) (by decide +kernel) rfl rfl rfl rfl (Nat.le_of_ble_eq_true rfl) (Nat.le_of_ble_eq_true rfl) rfl (ee172 (d + 2) e5) ?_
      refine pv_e_bk (ps := [(25, .istore_n 3, 1), (26, .iload_n 3, 1), (27, .aload_n 0, 1)]) (t' := (0, 0, 28, [some (.ref 94), some (.int v1), some (.int v2), some (.int q6)], [.ref 94, .int q6], pv_mm s T7)) (by decide +kernel) rfl ?_
      refine pv_e_gm (i := 212) (ci := 6) (j := 24) (pc' := 31) (by decide +kernel) (by decide) rfl rfl rfl ?_
      refine pv_e_bk (ps := [(31, .iadd, 1), (32, .aload_n 0, 1)]) (t' := (0, 0, 33, [some (.ref 94), some (.int v1), some (.int v2), some (.int q6)], [.ref 94, .int (q6 + (T7.1 94 24))], pv_mm s T7)) (by decide +kernel) rfl ?_
      obtain ⟨q9, e8, h⟩ := Option.bind_eq_some_iff.mp h
      refine pv_e_cvi (d := d + 4) (i := 222) (z := 174) (np := 0) (ml := 3) (ci := 6) (As := []) (rs := [.int (q6 + (T7.1 94 24))]) (pc' := 36) (by decide +kernel) rfl rfl rfl rfl (Nat.le_of_ble_eq_true rfl) (Nat.le_of_ble_eq_true rfl) rfl (ee174 (d + 4) e8) ?_
      obtain ⟨t10, hv13, h⟩ := Option.bind_eq_some_iff.mp h
      have hJ14 : pv_Ev xs L (d + 5) 175 (0, 0, 45, [some (.ref 94), some (.int v1), some (.int v2), some (.int q6)], [.int t10], pv_mm s T7) r := by
        refine pv_e_bk (ps := [(45, .istore_n 1, 1), (46, .aload_n 0, 1)]) (t' := (0, 0, 47, [some (.ref 94), some (.int t10), some (.int v2), some (.int q6)], [.ref 94], pv_mm s T7)) (by decide +kernel) rfl ?_
        obtain ⟨T12, e11, h⟩ := Option.bind_eq_some_iff.mp h
        refine pv_e_cvv (d := d + 4) (i := 215) (z := 171) (np := 0) (ml := 2) (ci := 6) (As := []) (rs := []) (pc' := 50) (by decide +kernel) rfl rfl rfl rfl (Nat.le_of_ble_eq_true rfl) (Nat.le_of_ble_eq_true rfl) rfl (ee171 (d + 0) e11) ?_
        refine pv_e_bk (ps := [(50, .iinc 2 1, 3), (53, .goto (-44), 3)]) (t' := (0, 0, 9, [some (.ref 94), some (.int t10), some (.int (v2 + (1:Int32))), some (.int q6)], [], pv_mm s T12)) (by decide +kernel) rfl ?_
        obtain rfl := Option.some.inj h
        exact hK _
      clear h
      have h := hv13
      clear hv13
      refine pv_e_icmpge (off := 7) (b := 43) (pc' := 39) (by decide +kernel) (by decide +kernel) rfl (fun c15 => ?_) (fun c15 => ?_)
      · rw [if_pos c15] at h
        refine pv_e_bk (ps := [(43, .bipush (-9), 2)]) (t' := (0, 0, 45, [some (.ref 94), some (.int v1), some (.int v2), some (.int q6)], [.int (-9:Int32)], pv_mm s T7)) (by decide +kernel) rfl ?_
        obtain rfl := Option.some.inj h
        exact hJ14
      · rw [if_neg c15] at h
        refine pv_e_bk (ps := [(39, .iload_n 2, 1), (40, .goto 5, 3)]) (t' := (0, 0, 45, [some (.ref 94), some (.int v1), some (.int v2), some (.int q6)], [.int v2], pv_mm s T7)) (by decide +kernel) rfl ?_
        obtain rfl := Option.some.inj h
        exact hJ14
    · rw [if_neg c4] at h
      obtain rfl := Option.some.inj h
      exact hK _ _
theorem ee175 {xs : Nat → Int32} {L : Nat} (d : Nat)  {s : pv_F} {T : pv_T} {q : Int32 × pv_T}  (h : f175_first T = some q) : pv_Ev xs L (d + 5) 175 (0, 0, 0, [some (.ref 94), none, none, none], [], pv_mm s T) (some (.int q.1), pv_mm s q.2) := by
  generalize hr : ((some (.int q.1), pv_mm s q.2) : Option Value × pv_M) = r
  unfold f175_first at h
  refine pv_e_bk (ps := [(0, .aload_n 0, 1)]) (t' := (0, 0, 1, [some (.ref 94), none, none, none], [.ref 94], pv_mm s T)) (by decide +kernel) rfl ?_
  obtain ⟨T2, e1, h⟩ := Option.bind_eq_some_iff.mp h
  refine pv_e_cvv (d := d + 4) (i := 206) (z := 167) (np := 0) (ml := 1) (ci := 6) (As := []) (rs := []) (pc' := 4) (by decide +kernel) rfl rfl rfl rfl (Nat.le_of_ble_eq_true rfl) (Nat.le_of_ble_eq_true rfl) rfl (ee167 (d + 3) e1) ?_
  refine pv_e_bk (ps := [(4, .bipush (-9), 2), (6, .istore_n 1, 1), (7, .iconst 0, 1), (8, .istore_n 2, 1)]) (t' := (0, 0, 9, [some (.ref 94), some (.int (-9:Int32)), some (.int (0:Int32)), none], [], pv_mm s T2)) (by decide +kernel) rfl ?_
  obtain ⟨⟨w16, w17, T18⟩, e22, h⟩ := Option.bind_eq_some_iff.mp h
  dsimp only at h
  have hx21 : f175_first_b1_X xs L d r s (w16, w17, T18) := by
    show ∀ z2 : Option Value, ∀ z3 : Option Value, pv_Ev xs L (d + 5) 175 (0, 0, 56, [some (.ref 94), some (.int w16), z2, z3], [], pv_mm s T18) r
    intro z2 z3
    refine pv_e_bk (ps := [(56, .aload_n 0, 1)]) (t' := (0, 0, 57, [some (.ref 94), some (.int w16), z2, z3], [.ref 94], pv_mm s T18)) (by decide +kernel) rfl ?_
    obtain ⟨T20, e19, h⟩ := Option.bind_eq_some_iff.mp h
    refine pv_e_cvv (d := d + 4) (i := 209) (z := 168) (np := 0) (ml := 1) (ci := 6) (As := []) (rs := []) (pc' := 60) (by decide +kernel) rfl rfl rfl rfl (Nat.le_of_ble_eq_true rfl) (Nat.le_of_ble_eq_true rfl) rfl (ee168 (d + 3) e19) ?_
    refine pv_e_bk (ps := [(60, .iload_n 1, 1)]) (t' := (0, 0, 61, [some (.ref 94), some (.int w16), z2, z3], [.int w16], pv_mm s T20)) (by decide +kernel) rfl ?_
    obtain rfl := Option.some.inj h
    cases hr
    exact pv_e_ri (by decide +kernel)
  exact pv_lq_ok (H := f175_first_b1_H xs L d r s) (X := f175_first_b1_X xs L d r s) (f175_first_b1_ok (xs := xs) (L := L) (d := d) (r := r) (s := s)) 20000 _ _ e22 hx21 _
def f176_haveOne_b2 (v1 : Int32) (v2 : Int32) (v3 : Int32) (T : pv_T) (st : Int32 × Int32) : Option ((Int32 × Int32) ⊕ (Int32 × Int32)) := match st with
  | (v4, v5) =>
    if (T.1 94 26) ≤ v5 then
      some (.inr (v4, v5))
    else
      ((
        if v4 = 0 then
          some (0:Int32)
        else
          (f142_letterOf v3 v5 T).bind fun q9 =>
          (pv_rd T.1 111 6 v5).bind fun q10 =>
          if q9 = q10 then
            some (1:Int32)
          else
            some (0:Int32)) : Option (Int32)).bind fun t4 =>
      some (.inl (t4, v5 + (1:Int32)))
def f176_haveOne_b2_H (xs : Nat → Int32) (L d : Nat) (r : Option Value × pv_M) (s : pv_F) (v1 : Int32) (v2 : Int32) (v3 : Int32) (T : pv_T) (st : Int32 × Int32) : Prop := match st with
  | (v4, v5) => pv_Ev xs L (d + 1) 176 (0, 0, 49, [some (.ref 94), some (.int v1), some (.int v2), some (.int v3), some (.int v4), some (.int v5)], [], pv_mm s T) r
def f176_haveOne_b2_X (xs : Nat → Int32) (L d : Nat) (r : Option Value × pv_M) (s : pv_F) (v1 : Int32) (v2 : Int32) (v3 : Int32) (T : pv_T) (st : Int32 × Int32) : Prop := match st with
  | (v4, v5) => ∀ z5 : Option Value, pv_Ev xs L (d + 1) 176 (0, 0, 93, [some (.ref 94), some (.int v1), some (.int v2), some (.int v3), some (.int v4), z5], [], pv_mm s T) r
def f176_haveOne_b1 (v1 : Int32) (T : pv_T) (st : Int32 × Int32) : Option ((Int32 × Int32) ⊕ (Int32 × Int32)) := match st with
  | (v2, v3) =>
    if (T.1 94 8) ≤ v3 then
      some (.inr (v2, v3))
    else
      ((
        if v3 = v1 then
          some (0:Int32)
        else
          (pv_rd T.1 101 7 v3).bind fun q24 =>
          if q24 = (3:Int32) then
            some (0:Int32)
          else
            (f141_lenOf v3 T).bind fun q28 =>
            if q28 = (T.1 94 26) then
              some (1:Int32)
            else
              some (0:Int32)) : Option (Int32)).bind fun t2 =>
      (pv_lq (f176_haveOne_b2 v1 v2 v3 T) 20000 (t2, (0:Int32))).bind fun (w13, w14) =>
      ((
        if w13 = 0 then
          some (0:Int32)
        else
          some ((1:Int32) <<< (v3 &&& 31))) : Option (Int32)).bind fun t15 =>
      some (.inl (v2 ||| t15, v3 + (1:Int32)))
def f176_haveOne_b1_H (xs : Nat → Int32) (L d : Nat) (r : Option Value × pv_M) (s : pv_F) (v1 : Int32) (T : pv_T) (st : Int32 × Int32) : Prop := match st with
  | (v2, v3) => ∀ z4 : Option Value, ∀ z5 : Option Value, pv_Ev xs L (d + 1) 176 (0, 0, 4, [some (.ref 94), some (.int v1), some (.int v2), some (.int v3), z4, z5], [], pv_mm s T) r
def f176_haveOne_b1_X (xs : Nat → Int32) (L d : Nat) (r : Option Value × pv_M) (s : pv_F) (v1 : Int32) (T : pv_T) (st : Int32 × Int32) : Prop := match st with
  | (v2, v3) => ∀ z3 : Option Value, ∀ z4 : Option Value, ∀ z5 : Option Value, pv_Ev xs L (d + 1) 176 (0, 0, 114, [some (.ref 94), some (.int v1), some (.int v2), z3, z4, z5], [], pv_mm s T) r
def f176_haveOne (x1 : Int32) (T : pv_T) : Option (Int32) :=
  (pv_lq (f176_haveOne_b1 x1 T) 20000 ((0:Int32), (0:Int32))).bind fun (w30, w31) =>
  some w30
theorem f176_haveOne_b2_ok {xs : Nat → Int32} {L d : Nat} {r : Option Value × pv_M} {s : pv_F} {v1 : Int32} {v2 : Int32} {v3 : Int32} {T : pv_T} (st : Int32 × Int32) (o : (Int32 × Int32) ⊕ (Int32 × Int32)) (h : f176_haveOne_b2 v1 v2 v3 T st = some o) (hK : pv_Kq (f176_haveOne_b2_H xs L d r s v1 v2 v3 T) (f176_haveOne_b2_X xs L d r s v1 v2 v3 T) o) : f176_haveOne_b2_H xs L d r s v1 v2 v3 T st := by
  obtain ⟨v4, v5⟩ := st
  show pv_Ev xs L (d + 1) 176 (0, 0, 49, [some (.ref 94), some (.int v1), some (.int v2), some (.int v3), some (.int v4), some (.int v5)], [], pv_mm s T) r
  unfold f176_haveOne_b2 at h
  dsimp only at h
  refine pv_e_bk (ps := [(49, .iload 5, 2), (51, .aload_n 0, 1)]) (t' := (0, 0, 52, [some (.ref 94), some (.int v1), some (.int v2), some (.int v3), some (.int v4), some (.int v5)], [.ref 94, .int v5], pv_mm s T)) (by decide +kernel) rfl ?_
  refine pv_e_gm (i := 225) (ci := 6) (j := 26) (pc' := 55) (by decide +kernel) (by decide) rfl rfl rfl ?_
  refine pv_e_icmpge (off := 38) (b := 93) (pc' := 58) (by decide +kernel) (by decide +kernel) rfl (fun c3 => ?_) (fun c3 => ?_)
  · rw [if_pos c3] at h
    obtain rfl := Option.some.inj h
    exact hK _
  · rw [if_neg c3] at h
    refine pv_e_bk (ps := [(58, .iload 4, 2)]) (t' := (0, 0, 60, [some (.ref 94), some (.int v1), some (.int v2), some (.int v3), some (.int v4), some (.int v5)], [.int v4], pv_mm s T)) (by decide +kernel) rfl ?_
    obtain ⟨t4, hv5, h⟩ := Option.bind_eq_some_iff.mp h
    have hJ6 : pv_Ev xs L (d + 1) 176 (0, 0, 85, [some (.ref 94), some (.int v1), some (.int v2), some (.int v3), some (.int v4), some (.int v5)], [.int t4], pv_mm s T) r := by
      refine pv_e_bk (ps := [(85, .istore 4, 2), (87, .iinc 5 1, 3), (90, .goto (-41), 3)]) (t' := (0, 0, 49, [some (.ref 94), some (.int v1), some (.int v2), some (.int v3), some (.int t4), some (.int (v5 + (1:Int32)))], [], pv_mm s T)) (by decide +kernel) rfl ?_
      obtain rfl := Option.some.inj h
      exact hK
    clear h
    have h := hv5
    clear hv5
    refine pv_e_ifeq (off := 24) (b := 84) (pc' := 63) (by decide +kernel) (by decide +kernel) rfl (fun c7 => ?_) (fun c7 => ?_)
    · rw [if_pos c7] at h
      refine pv_e_bk (ps := [(84, .iconst 0, 1)]) (t' := (0, 0, 85, [some (.ref 94), some (.int v1), some (.int v2), some (.int v3), some (.int v4), some (.int v5)], [.int (0:Int32)], pv_mm s T)) (by decide +kernel) rfl ?_
      obtain rfl := Option.some.inj h
      exact hJ6
    · rw [if_neg c7] at h
      refine pv_e_bk (ps := [(63, .aload_n 0, 1), (64, .iload_n 3, 1), (65, .iload 5, 2)]) (t' := (0, 0, 67, [some (.ref 94), some (.int v1), some (.int v2), some (.int v3), some (.int v4), some (.int v5)], [.int v5, .int v3, .ref 94], pv_mm s T)) (by decide +kernel) rfl ?_
      obtain ⟨q9, e8, h⟩ := Option.bind_eq_some_iff.mp h
      refine pv_e_cvi (d := d + 0) (i := 145) (z := 142) (np := 2) (ml := 3) (ci := 6) (As := [.int v3, .int v5]) (rs := []) (pc' := 70) (by decide +kernel) rfl rfl rfl rfl (Nat.le_of_ble_eq_true rfl) (Nat.le_of_ble_eq_true rfl) rfl (ee142 (d + 0) v3 v5 e8) ?_
      refine pv_e_bk (ps := [(70, .aload_n 0, 1)]) (t' := (0, 0, 71, [some (.ref 94), some (.int v1), some (.int v2), some (.int v3), some (.int v4), some (.int v5)], [.ref 94, .int q9], pv_mm s T)) (by decide +kernel) rfl ?_
      refine pv_e_gr (i := 62) (ci := 6) (j := 25) (b := 111) (pc' := 74) (by decide +kernel) rfl rfl rfl ?_
      refine pv_e_bk (ps := [(74, .iload 5, 2)]) (t' := (0, 0, 76, [some (.ref 94), some (.int v1), some (.int v2), some (.int v3), some (.int v4), some (.int v5)], [.int v5, .ref 111, .int q9], pv_mm s T)) (by decide +kernel) rfl ?_
      obtain ⟨q10, e11, h⟩ := Option.bind_eq_some_iff.mp h
      refine pv_e_rm (pc' := 77) (by decide +kernel) (by decide) rfl e11 rfl ?_
      refine pv_e_icmpne (off := 7) (b := 84) (pc' := 80) (by decide +kernel) (by decide +kernel) rfl (fun c12 => ?_) (fun c12 => ?_)
      · rw [if_pos c12] at h
        refine pv_e_bk (ps := [(80, .iconst 1, 1), (81, .goto 4, 3)]) (t' := (0, 0, 85, [some (.ref 94), some (.int v1), some (.int v2), some (.int v3), some (.int v4), some (.int v5)], [.int (1:Int32)], pv_mm s T)) (by decide +kernel) rfl ?_
        obtain rfl := Option.some.inj h
        exact hJ6
      · rw [if_neg c12] at h
        refine pv_e_bk (ps := [(84, .iconst 0, 1)]) (t' := (0, 0, 85, [some (.ref 94), some (.int v1), some (.int v2), some (.int v3), some (.int v4), some (.int v5)], [.int (0:Int32)], pv_mm s T)) (by decide +kernel) rfl ?_
        obtain rfl := Option.some.inj h
        exact hJ6
theorem f176_haveOne_b1_ok {xs : Nat → Int32} {L d : Nat} {r : Option Value × pv_M} {s : pv_F} {v1 : Int32} {T : pv_T} (st : Int32 × Int32) (o : (Int32 × Int32) ⊕ (Int32 × Int32)) (h : f176_haveOne_b1 v1 T st = some o) (hK : pv_Kq (f176_haveOne_b1_H xs L d r s v1 T) (f176_haveOne_b1_X xs L d r s v1 T) o) : f176_haveOne_b1_H xs L d r s v1 T st := by
  obtain ⟨v2, v3⟩ := st
  show ∀ z4 : Option Value, ∀ z5 : Option Value, pv_Ev xs L (d + 1) 176 (0, 0, 4, [some (.ref 94), some (.int v1), some (.int v2), some (.int v3), z4, z5], [], pv_mm s T) r
  intro z4 z5
  unfold f176_haveOne_b1 at h
  dsimp only at h
  refine pv_e_bk (ps := [(4, .iload_n 3, 1), (5, .aload_n 0, 1)]) (t' := (0, 0, 6, [some (.ref 94), some (.int v1), some (.int v2), some (.int v3), z4, z5], [.ref 94, .int v3], pv_mm s T)) (by decide +kernel) rfl ?_
  refine pv_e_gm (i := 136) (ci := 6) (j := 8) (pc' := 9) (by decide +kernel) (by decide) rfl rfl rfl ?_
  refine pv_e_icmpge (off := 105) (b := 114) (pc' := 12) (by decide +kernel) (by decide +kernel) rfl (fun c1 => ?_) (fun c1 => ?_)
  · rw [if_pos c1] at h
    obtain rfl := Option.some.inj h
    exact hK _ _ _
  · rw [if_neg c1] at h
    refine pv_e_bk (ps := [(12, .iload_n 3, 1), (13, .iload_n 1, 1)]) (t' := (0, 0, 14, [some (.ref 94), some (.int v1), some (.int v2), some (.int v3), z4, z5], [.int v1, .int v3], pv_mm s T)) (by decide +kernel) rfl ?_
    obtain ⟨t2, hv21, h⟩ := Option.bind_eq_some_iff.mp h
    have hJ22 : pv_Ev xs L (d + 1) 176 (0, 0, 44, [some (.ref 94), some (.int v1), some (.int v2), some (.int v3), z4, z5], [.int t2], pv_mm s T) r := by
      refine pv_e_bk (ps := [(44, .istore 4, 2), (46, .iconst 0, 1), (47, .istore 5, 2)]) (t' := (0, 0, 49, [some (.ref 94), some (.int v1), some (.int v2), some (.int v3), some (.int t2), some (.int (0:Int32))], [], pv_mm s T)) (by decide +kernel) rfl ?_
      obtain ⟨⟨w13, w14⟩, e20, h⟩ := Option.bind_eq_some_iff.mp h
      dsimp only at h
      have hx19 : f176_haveOne_b2_X xs L d r s v1 v2 v3 T (w13, w14) := by
        show ∀ z5 : Option Value, pv_Ev xs L (d + 1) 176 (0, 0, 93, [some (.ref 94), some (.int v1), some (.int v2), some (.int v3), some (.int w13), z5], [], pv_mm s T) r
        intro z5
        refine pv_e_bk (ps := [(93, .iload_n 2, 1), (94, .iload 4, 2)]) (t' := (0, 0, 96, [some (.ref 94), some (.int v1), some (.int v2), some (.int v3), some (.int w13), z5], [.int w13, .int v2], pv_mm s T)) (by decide +kernel) rfl ?_
        obtain ⟨t15, hv16, h⟩ := Option.bind_eq_some_iff.mp h
        have hJ17 : pv_Ev xs L (d + 1) 176 (0, 0, 106, [some (.ref 94), some (.int v1), some (.int v2), some (.int v3), some (.int w13), z5], [.int t15, .int v2], pv_mm s T) r := by
          refine pv_e_bk (ps := [(106, .ior, 1), (107, .istore_n 2, 1), (108, .iinc 3 1, 3), (111, .goto (-107), 3)]) (t' := (0, 0, 4, [some (.ref 94), some (.int v1), some (.int (v2 ||| t15)), some (.int (v3 + (1:Int32))), some (.int w13), z5], [], pv_mm s T)) (by decide +kernel) rfl ?_
          obtain rfl := Option.some.inj h
          exact hK _ _
        clear h
        have h := hv16
        clear hv16
        refine pv_e_ifeq (off := 9) (b := 105) (pc' := 99) (by decide +kernel) (by decide +kernel) rfl (fun c18 => ?_) (fun c18 => ?_)
        · rw [if_pos c18] at h
          refine pv_e_bk (ps := [(105, .iconst 0, 1)]) (t' := (0, 0, 106, [some (.ref 94), some (.int v1), some (.int v2), some (.int v3), some (.int w13), z5], [.int (0:Int32), .int v2], pv_mm s T)) (by decide +kernel) rfl ?_
          obtain rfl := Option.some.inj h
          exact hJ17
        · rw [if_neg c18] at h
          refine pv_e_bk (ps := [(99, .iconst 1, 1), (100, .iload_n 3, 1), (101, .ishl, 1), (102, .goto 4, 3)]) (t' := (0, 0, 106, [some (.ref 94), some (.int v1), some (.int v2), some (.int v3), some (.int w13), z5], [.int ((1:Int32) <<< (v3 &&& 31)), .int v2], pv_mm s T)) (by decide +kernel) rfl ?_
          obtain rfl := Option.some.inj h
          exact hJ17
      exact pv_lq_ok (H := f176_haveOne_b2_H xs L d r s v1 v2 v3 T) (X := f176_haveOne_b2_X xs L d r s v1 v2 v3 T) (f176_haveOne_b2_ok (xs := xs) (L := L) (d := d) (r := r) (s := s) (v1 := v1) (v2 := v2) (v3 := v3) (T := T)) 20000 _ _ e20 hx19
    clear h
    have h := hv21
    clear hv21
    refine pv_e_icmpeq (off := 29) (b := 43) (pc' := 17) (by decide +kernel) (by decide +kernel) rfl (fun c23 => ?_) (fun c23 => ?_)
    · rw [if_pos c23] at h
      refine pv_e_bk (ps := [(43, .iconst 0, 1)]) (t' := (0, 0, 44, [some (.ref 94), some (.int v1), some (.int v2), some (.int v3), z4, z5], [.int (0:Int32)], pv_mm s T)) (by decide +kernel) rfl ?_
      obtain rfl := Option.some.inj h
      exact hJ22
    · rw [if_neg c23] at h
      refine pv_e_bk (ps := [(17, .aload_n 0, 1)]) (t' := (0, 0, 18, [some (.ref 94), some (.int v1), some (.int v2), some (.int v3), z4, z5], [.ref 94], pv_mm s T)) (by decide +kernel) rfl ?_
      refine pv_e_gr (i := 32) (ci := 6) (j := 11) (b := 101) (pc' := 21) (by decide +kernel) rfl rfl rfl ?_
      refine pv_e_bk (ps := [(21, .iload_n 3, 1)]) (t' := (0, 0, 22, [some (.ref 94), some (.int v1), some (.int v2), some (.int v3), z4, z5], [.int v3, .ref 101], pv_mm s T)) (by decide +kernel) rfl ?_
      obtain ⟨q24, e25, h⟩ := Option.bind_eq_some_iff.mp h
      refine pv_e_rm (pc' := 23) (by decide +kernel) (by decide) rfl e25 rfl ?_
      refine pv_e_bk (ps := [(23, .iconst 3, 1)]) (t' := (0, 0, 24, [some (.ref 94), some (.int v1), some (.int v2), some (.int v3), z4, z5], [.int (3:Int32), .int q24], pv_mm s T)) (by decide +kernel) rfl ?_
      refine pv_e_icmpeq (off := 19) (b := 43) (pc' := 27) (by decide +kernel) (by decide +kernel) rfl (fun c26 => ?_) (fun c26 => ?_)
      · rw [if_pos c26] at h
        refine pv_e_bk (ps := [(43, .iconst 0, 1)]) (t' := (0, 0, 44, [some (.ref 94), some (.int v1), some (.int v2), some (.int v3), z4, z5], [.int (0:Int32)], pv_mm s T)) (by decide +kernel) rfl ?_
        obtain rfl := Option.some.inj h
        exact hJ22
      · rw [if_neg c26] at h
        refine pv_e_bk (ps := [(27, .aload_n 0, 1), (28, .iload_n 3, 1)]) (t' := (0, 0, 29, [some (.ref 94), some (.int v1), some (.int v2), some (.int v3), z4, z5], [.int v3, .ref 94], pv_mm s T)) (by decide +kernel) rfl ?_
        obtain ⟨q28, e27, h⟩ := Option.bind_eq_some_iff.mp h
        refine pv_e_cvi (d := d + 0) (i := 142) (z := 141) (np := 1) (ml := 2) (ci := 6) (As := [.int v3]) (rs := []) (pc' := 32) (by decide +kernel) rfl rfl rfl rfl (Nat.le_of_ble_eq_true rfl) (Nat.le_of_ble_eq_true rfl) rfl (ee141 (d + 0) v3 e27) ?_
        refine pv_e_bk (ps := [(32, .aload_n 0, 1)]) (t' := (0, 0, 33, [some (.ref 94), some (.int v1), some (.int v2), some (.int v3), z4, z5], [.ref 94, .int q28], pv_mm s T)) (by decide +kernel) rfl ?_
        refine pv_e_gm (i := 225) (ci := 6) (j := 26) (pc' := 36) (by decide +kernel) (by decide) rfl rfl rfl ?_
        refine pv_e_icmpne (off := 7) (b := 43) (pc' := 39) (by decide +kernel) (by decide +kernel) rfl (fun c29 => ?_) (fun c29 => ?_)
        · rw [if_pos c29] at h
          refine pv_e_bk (ps := [(39, .iconst 1, 1), (40, .goto 4, 3)]) (t' := (0, 0, 44, [some (.ref 94), some (.int v1), some (.int v2), some (.int v3), z4, z5], [.int (1:Int32)], pv_mm s T)) (by decide +kernel) rfl ?_
          obtain rfl := Option.some.inj h
          exact hJ22
        · rw [if_neg c29] at h
          refine pv_e_bk (ps := [(43, .iconst 0, 1)]) (t' := (0, 0, 44, [some (.ref 94), some (.int v1), some (.int v2), some (.int v3), z4, z5], [.int (0:Int32)], pv_mm s T)) (by decide +kernel) rfl ?_
          obtain rfl := Option.some.inj h
          exact hJ22
theorem ee176 {xs : Nat → Int32} {L : Nat} (d : Nat) (x1 : Int32) {s : pv_F} {T : pv_T} {q : Int32}  (h : f176_haveOne x1 T = some q) : pv_Ev xs L (d + 1) 176 (0, 0, 0, [some (.ref 94), some (.int x1), none, none, none, none], [], pv_mm s T) (some (.int q), pv_mm s T) := by
  generalize hr : ((some (.int q), pv_mm s T) : Option Value × pv_M) = r
  unfold f176_haveOne at h
  refine pv_e_bk (ps := [(0, .iconst 0, 1), (1, .istore_n 2, 1), (2, .iconst 0, 1), (3, .istore_n 3, 1)]) (t' := (0, 0, 4, [some (.ref 94), some (.int x1), some (.int (0:Int32)), some (.int (0:Int32)), none, none], [], pv_mm s T)) (by decide +kernel) rfl ?_
  obtain ⟨⟨w30, w31⟩, e33, h⟩ := Option.bind_eq_some_iff.mp h
  dsimp only at h
  have hx32 : f176_haveOne_b1_X xs L d r s x1 T (w30, w31) := by
    show ∀ z3 : Option Value, ∀ z4 : Option Value, ∀ z5 : Option Value, pv_Ev xs L (d + 1) 176 (0, 0, 114, [some (.ref 94), some (.int x1), some (.int w30), z3, z4, z5], [], pv_mm s T) r
    intro z3 z4 z5
    refine pv_e_bk (ps := [(114, .iload_n 2, 1)]) (t' := (0, 0, 115, [some (.ref 94), some (.int x1), some (.int w30), z3, z4, z5], [.int w30], pv_mm s T)) (by decide +kernel) rfl ?_
    obtain rfl := Option.some.inj h
    cases hr
    exact pv_e_ri (by decide +kernel)
  exact pv_lq_ok (H := f176_haveOne_b1_H xs L d r s x1 T) (X := f176_haveOne_b1_X xs L d r s x1 T) (f176_haveOne_b1_ok (xs := xs) (L := L) (d := d) (r := r) (s := s) (v1 := x1) (T := T)) 20000 _ _ e33 hx32 _ _
def f177_oneLasts_b1 (v1 : Int32) (st : Int32 × pv_T) : Option ((Int32 × pv_T) ⊕ (Int32 × pv_T)) := match st with
  | (v2, T) =>
    if (T.1 94 26) ≤ 0 then
      some (.inr (v2, T))
    else
      (f176_haveOne v1 T).bind fun q3 =>
      if q3 = 0 then
        (f154_wear 111 (0:Int32) (T.1 94 26) T).bind fun (q6, T7) =>
        (pv_pm T7 94 26 q6).bind fun T8 =>
        some (.inl (v2 + (1:Int32), T8))
      else
        some (.inr (v2, T))
def f177_oneLasts_b1_H (xs : Nat → Int32) (L d : Nat) (r : Option Value × pv_M) (s : pv_F) (v1 : Int32) (st : Int32 × pv_T) : Prop := match st with
  | (v2, T) => pv_Ev xs L (d + 3) 177 (0, 0, 2, [some (.ref 94), some (.int v1), some (.int v2)], [], pv_mm s T) r
def f177_oneLasts_b1_X (xs : Nat → Int32) (L d : Nat) (r : Option Value × pv_M) (s : pv_F) (v1 : Int32) (st : Int32 × pv_T) : Prop := match st with
  | (v2, T) => pv_Ev xs L (d + 3) 177 (0, 0, 40, [some (.ref 94), some (.int v1), some (.int v2)], [], pv_mm s T) r
def f177_oneLasts (x1 : Int32) (T : pv_T) : Option (Int32 × pv_T) :=
  (pv_lq (f177_oneLasts_b1 x1) 20000 ((0:Int32), T)).bind fun (w10, T11) =>
  some (w10, T11)
theorem f177_oneLasts_b1_ok {xs : Nat → Int32} {L d : Nat} {r : Option Value × pv_M} {s : pv_F} {v1 : Int32} (st : Int32 × pv_T) (o : (Int32 × pv_T) ⊕ (Int32 × pv_T)) (h : f177_oneLasts_b1 v1 st = some o) (hK : pv_Kq (f177_oneLasts_b1_H xs L d r s v1) (f177_oneLasts_b1_X xs L d r s v1) o) : f177_oneLasts_b1_H xs L d r s v1 st := by
  obtain ⟨v2, T⟩ := st
  show pv_Ev xs L (d + 3) 177 (0, 0, 2, [some (.ref 94), some (.int v1), some (.int v2)], [], pv_mm s T) r
  unfold f177_oneLasts_b1 at h
  dsimp only at h
  refine pv_e_bk (ps := [(2, .aload_n 0, 1)]) (t' := (0, 0, 3, [some (.ref 94), some (.int v1), some (.int v2)], [.ref 94], pv_mm s T)) (by decide +kernel) rfl ?_
  refine pv_e_gm (i := 225) (ci := 6) (j := 26) (pc' := 6) (by decide +kernel) (by decide) rfl rfl rfl ?_
  refine pv_e_ifle (off := 34) (b := 40) (pc' := 9) (by decide +kernel) (by decide +kernel) rfl (fun c1 => ?_) (fun c1 => ?_)
  · rw [if_pos c1] at h
    obtain rfl := Option.some.inj h
    exact hK
  · rw [if_neg c1] at h
    refine pv_e_bk (ps := [(9, .aload_n 0, 1), (10, .iload_n 1, 1)]) (t' := (0, 0, 11, [some (.ref 94), some (.int v1), some (.int v2)], [.int v1, .ref 94], pv_mm s T)) (by decide +kernel) rfl ?_
    obtain ⟨q3, e2, h⟩ := Option.bind_eq_some_iff.mp h
    refine pv_e_cvi (d := d + 2) (i := 228) (z := 176) (np := 1) (ml := 6) (ci := 6) (As := [.int v1]) (rs := []) (pc' := 14) (by decide +kernel) rfl rfl rfl rfl (Nat.le_of_ble_eq_true rfl) (Nat.le_of_ble_eq_true rfl) rfl (ee176 (d + 1) v1 e2) ?_
    refine pv_e_ifne (off := 26) (b := 40) (pc' := 17) (by decide +kernel) (by decide +kernel) rfl (fun c4 => ?_) (fun c4 => ?_)
    · rw [if_pos c4] at h
      refine pv_e_bk (ps := [(17, .aload_n 0, 1), (18, .aload_n 0, 1), (19, .aload_n 0, 1)]) (t' := (0, 0, 20, [some (.ref 94), some (.int v1), some (.int v2)], [.ref 94, .ref 94, .ref 94], pv_mm s T)) (by decide +kernel) rfl ?_
      refine pv_e_gr (i := 62) (ci := 6) (j := 25) (b := 111) (pc' := 23) (by decide +kernel) rfl rfl rfl ?_
      refine pv_e_bk (ps := [(23, .iconst 0, 1), (24, .aload_n 0, 1)]) (t' := (0, 0, 25, [some (.ref 94), some (.int v1), some (.int v2)], [.ref 94, .int (0:Int32), .ref 111, .ref 94, .ref 94], pv_mm s T)) (by decide +kernel) rfl ?_
      refine pv_e_gm (i := 225) (ci := 6) (j := 26) (pc' := 28) (by decide +kernel) (by decide) rfl rfl rfl ?_
      obtain ⟨⟨q6, T7⟩, e5, h⟩ := Option.bind_eq_some_iff.mp h
      dsimp only at h
      refine pv_e_cvi (d := d + 2) (i := 183) (z := 154) (np := 3) (ml := 6) (ci := 6) (As := [.ref 111, .int (0:Int32), .int (T.1 94 26)]) (rs := [.ref 94]) (pc' := 31) (by decide +kernel) rfl rfl rfl rfl (Nat.le_of_ble_eq_true rfl) (Nat.le_of_ble_eq_true rfl) rfl (ee154 (d + 0) 111 (0:Int32) (T.1 94 26) (by decide) e5) ?_
      obtain ⟨T8, e9, h⟩ := Option.bind_eq_some_iff.mp h
      refine pv_e_pms (i := 225) (ci := 6) (j := 26) (pc' := 34) (by decide +kernel) rfl rfl (by decide) rfl rfl e9 rfl ?_
      refine pv_e_bk (ps := [(34, .iinc 2 1, 3), (37, .goto (-35), 3)]) (t' := (0, 0, 2, [some (.ref 94), some (.int v1), some (.int (v2 + (1:Int32)))], [], pv_mm s T8)) (by decide +kernel) rfl ?_
      obtain rfl := Option.some.inj h
      exact hK
    · rw [if_neg c4] at h
      obtain rfl := Option.some.inj h
      exact hK
theorem ee177 {xs : Nat → Int32} {L : Nat} (d : Nat) (x1 : Int32) {s : pv_F} {T : pv_T} {q : Int32 × pv_T}  (h : f177_oneLasts x1 T = some q) : pv_Ev xs L (d + 3) 177 (0, 0, 0, [some (.ref 94), some (.int x1), none], [], pv_mm s T) (some (.int q.1), pv_mm s q.2) := by
  generalize hr : ((some (.int q.1), pv_mm s q.2) : Option Value × pv_M) = r
  unfold f177_oneLasts at h
  refine pv_e_bk (ps := [(0, .iconst 0, 1), (1, .istore_n 2, 1)]) (t' := (0, 0, 2, [some (.ref 94), some (.int x1), some (.int (0:Int32))], [], pv_mm s T)) (by decide +kernel) rfl ?_
  obtain ⟨⟨w10, T11⟩, e13, h⟩ := Option.bind_eq_some_iff.mp h
  dsimp only at h
  have hx12 : f177_oneLasts_b1_X xs L d r s x1 (w10, T11) := by
    show pv_Ev xs L (d + 3) 177 (0, 0, 40, [some (.ref 94), some (.int x1), some (.int w10)], [], pv_mm s T11) r
    refine pv_e_bk (ps := [(40, .iload_n 2, 1)]) (t' := (0, 0, 41, [some (.ref 94), some (.int x1), some (.int w10)], [.int w10], pv_mm s T11)) (by decide +kernel) rfl ?_
    obtain rfl := Option.some.inj h
    cases hr
    exact pv_e_ri (by decide +kernel)
  exact pv_lq_ok (H := f177_oneLasts_b1_H xs L d r s x1) (X := f177_oneLasts_b1_X xs L d r s x1) (f177_oneLasts_b1_ok (xs := xs) (L := L) (d := d) (r := r) (s := s) (v1 := x1)) 20000 _ _ e13 hx12
