-- printed by wip/whole/gen/parts.py: methods as functions over the ints of the memory, and that the pure machine runs so
def f128_copy_b1 (v1 : Int32) (v2 : Int32) (v3 : Int32) (v4 : Int32) (v5 : Int32) (st : Int32 × pv_T) : Option ((Int32 × pv_T) ⊕ (Int32 × pv_T)) := match st with
  | (v6, T) =>
    if v5 ≤ v6 then
      some (.inr (v6, T))
    else
      (f122_rowAt v1 (v2 + v6) T).bind fun q36 =>
      (pv_wm T 98 40 v6 q36).bind fun T37 =>
      some (.inl (v6 + (1:Int32), T37))
def f128_copy_b1_H (xs : Nat → Int32) (L d : Nat) (r : Option Value × pv_M) (s : pv_F) (v1 : Int32) (v2 : Int32) (v3 : Int32) (v4 : Int32) (v5 : Int32) (st : Int32 × pv_T) : Prop := match st with
  | (v6, T) => pv_Ev xs L (d + 2) 128 (0, 0, 104, [some (.ref 94), some (.int v1), some (.int v2), some (.int v3), some (.int v4), some (.int v5), some (.int v6)], [], pv_mm s T) r
def f128_copy_b1_X (xs : Nat → Int32) (L d : Nat) (r : Option Value × pv_M) (s : pv_F) (v1 : Int32) (v2 : Int32) (v3 : Int32) (v4 : Int32) (v5 : Int32) (st : Int32 × pv_T) : Prop := match st with
  | (v6, T) => ∀ z6 : Option Value, pv_Ev xs L (d + 2) 128 (0, 0, 133, [some (.ref 94), some (.int v1), some (.int v2), some (.int v3), some (.int v4), some (.int v5), z6], [], pv_mm s T) r
def f128_copy_b2 (v3 : Int32) (v4 : Int32) (v5 : Int32) (st : Int32 × pv_T) : Option ((Int32 × pv_T) ⊕ (Int32 × pv_T)) := match st with
  | (v6, T) =>
    if v5 ≤ v6 then
      some (.inr (v6, T))
    else
      (pv_rd T.1 98 40 v6).bind fun q42 =>
      (f123_setRow v3 (v4 + v6) q42 T).bind fun T45 =>
      some (.inl (v6 + (1:Int32), T45))
def f128_copy_b2_H (xs : Nat → Int32) (L d : Nat) (r : Option Value × pv_M) (s : pv_F) (v3 : Int32) (v4 : Int32) (v5 : Int32) (v1 : Int32) (v2 : Int32) (st : Int32 × pv_T) : Prop := match st with
  | (v6, T) => pv_Ev xs L (d + 2) 128 (0, 0, 136, [some (.ref 94), some (.int v1), some (.int v2), some (.int v3), some (.int v4), some (.int v5), some (.int v6)], [], pv_mm s T) r
def f128_copy_b2_X (xs : Nat → Int32) (L d : Nat) (r : Option Value × pv_M) (s : pv_F) (v3 : Int32) (v4 : Int32) (v5 : Int32) (v1 : Int32) (v2 : Int32) (st : Int32 × pv_T) : Prop := match st with
  | (v6, T) => ∀ z6 : Option Value, pv_Ev xs L (d + 2) 128 (0, 0, 166, [some (.ref 94), some (.int v1), some (.int v2), some (.int v3), some (.int v4), some (.int v5), z6], [], pv_mm s T) r
def f128_copy (x1 : Int32) (x2 : Int32) (x3 : Int32) (x4 : Int32) (x5 : Int32) (T : pv_T) : Option (Int32 × pv_T) :=
  (f118_isRow x1).bind fun q2 =>
  if q2 = 0 then
    some ((-1:Int32), T)
  else
    (f118_isRow x3).bind fun q5 =>
    if q5 = 0 then
      some ((-1:Int32), T)
    else
      if 0 ≤ x5 then
        (pv_rd T.1 96 6 x1).bind fun q8 =>
        if q8 < 0 then
          (f114_meet (1:Int32) T).bind fun (q12, T13) =>
          some (q12, T13)
        else
          (pv_rd T.1 96 6 x3).bind fun q14 =>
          if 0 ≤ q14 then
            if x2 < 0 then
              (f114_meet (2:Int32) T).bind fun (q19, T20) =>
              some (q19, T20)
            else
              if x4 < 0 then
                (f114_meet (2:Int32) T).bind fun (q23, T24) =>
                some (q23, T24)
              else
                (pv_rd T.1 96 6 x1).bind fun q25 =>
                if 0 < (lg_cmp (x2.toInt64 + x5.toInt64) q25.toInt64) then
                  (f114_meet (2:Int32) T).bind fun (q29, T30) =>
                  some (q29, T30)
                else
                  (pv_rd T.1 96 6 x3).bind fun q31 =>
                  if (lg_cmp (x4.toInt64 + x5.toInt64) q31.toInt64) ≤ 0 then
                    (pv_lq (f128_copy_b1 x1 x2 x3 x4 x5) 20000 ((0:Int32), T)).bind fun (w39, T40) =>
                    (pv_lq (f128_copy_b2 x3 x4 x5) 20000 ((0:Int32), T40)).bind fun (w46, T47) =>
                    some ((1:Int32), T47)
                  else
                    (f114_meet (2:Int32) T).bind fun (q53, T54) =>
                    some (q53, T54)
          else
            (f114_meet (1:Int32) T).bind fun (q56, T57) =>
            some (q56, T57)
      else
        (f114_meet (5:Int32) T).bind fun (q59, T60) =>
        some (q59, T60)
theorem f128_copy_b1_ok {xs : Nat → Int32} {L d : Nat} {r : Option Value × pv_M} {s : pv_F} {v1 : Int32} {v2 : Int32} {v3 : Int32} {v4 : Int32} {v5 : Int32} (st : Int32 × pv_T) (o : (Int32 × pv_T) ⊕ (Int32 × pv_T)) (h : f128_copy_b1 v1 v2 v3 v4 v5 st = some o) (hK : pv_Kq (f128_copy_b1_H xs L d r s v1 v2 v3 v4 v5) (f128_copy_b1_X xs L d r s v1 v2 v3 v4 v5) o) : f128_copy_b1_H xs L d r s v1 v2 v3 v4 v5 st := by
  obtain ⟨v6, T⟩ := st
  show pv_Ev xs L (d + 2) 128 (0, 0, 104, [some (.ref 94), some (.int v1), some (.int v2), some (.int v3), some (.int v4), some (.int v5), some (.int v6)], [], pv_mm s T) r
  unfold f128_copy_b1 at h
  dsimp only at h
  refine pv_e_bk (ps := [(104, .iload 6, 2), (106, .iload 5, 2)]) (t' := (0, 0, 108, [some (.ref 94), some (.int v1), some (.int v2), some (.int v3), some (.int v4), some (.int v5), some (.int v6)], [.int v5, .int v6], pv_mm s T)) (by decide +kernel) rfl ?_
  refine pv_e_icmpge (off := 25) (b := 133) (pc' := 111) (by decide +kernel) (by decide +kernel) rfl (fun c34 => ?_) (fun c34 => ?_)
  · rw [if_pos c34] at h
    obtain rfl := Option.some.inj h
    exact hK _
  · rw [if_neg c34] at h
    refine pv_e_bk (ps := [(111, .aload_n 0, 1)]) (t' := (0, 0, 112, [some (.ref 94), some (.int v1), some (.int v2), some (.int v3), some (.int v4), some (.int v5), some (.int v6)], [.ref 94], pv_mm s T)) (by decide +kernel) rfl ?_
    refine pv_e_gr (i := 19) (ci := 6) (j := 5) (b := 98) (pc' := 115) (by decide +kernel) rfl rfl rfl ?_
    refine pv_e_bk (ps := [(115, .iload 6, 2), (117, .aload_n 0, 1), (118, .iload_n 1, 1), (119, .iload_n 2, 1), (120, .iload 6, 2), (122, .iadd, 1)]) (t' := (0, 0, 123, [some (.ref 94), some (.int v1), some (.int v2), some (.int v3), some (.int v4), some (.int v5), some (.int v6)], [.int (v2 + v6), .int v1, .ref 94, .int v6, .ref 98], pv_mm s T)) (by decide +kernel) rfl ?_
    obtain ⟨q36, e35, h⟩ := Option.bind_eq_some_iff.mp h
    refine pv_e_cvi (d := d + 1) (i := 105) (z := 122) (np := 2) (ml := 3) (ci := 6) (As := [.int v1, .int (v2 + v6)]) (rs := [.int v6, .ref 98]) (pc' := 126) (by decide +kernel) rfl rfl rfl rfl (Nat.le_of_ble_eq_true rfl) (Nat.le_of_ble_eq_true rfl) rfl (ee122 (d + 1) v1 (v2 + v6) e35) ?_
    obtain ⟨T37, e38, h⟩ := Option.bind_eq_some_iff.mp h
    refine pv_e_wm (pc' := 127) (by decide +kernel) (by decide) rfl e38 rfl ?_
    refine pv_e_bk (ps := [(127, .iinc 6 1, 3), (130, .goto (-26), 3)]) (t' := (0, 0, 104, [some (.ref 94), some (.int v1), some (.int v2), some (.int v3), some (.int v4), some (.int v5), some (.int (v6 + (1:Int32)))], [], pv_mm s T37)) (by decide +kernel) rfl ?_
    obtain rfl := Option.some.inj h
    exact hK
theorem f128_copy_b2_ok {xs : Nat → Int32} {L d : Nat} {r : Option Value × pv_M} {s : pv_F} {v3 : Int32} {v4 : Int32} {v5 : Int32} {v1 : Int32} {v2 : Int32} (st : Int32 × pv_T) (o : (Int32 × pv_T) ⊕ (Int32 × pv_T)) (h : f128_copy_b2 v3 v4 v5 st = some o) (hK : pv_Kq (f128_copy_b2_H xs L d r s v3 v4 v5 v1 v2) (f128_copy_b2_X xs L d r s v3 v4 v5 v1 v2) o) : f128_copy_b2_H xs L d r s v3 v4 v5 v1 v2 st := by
  obtain ⟨v6, T⟩ := st
  show pv_Ev xs L (d + 2) 128 (0, 0, 136, [some (.ref 94), some (.int v1), some (.int v2), some (.int v3), some (.int v4), some (.int v5), some (.int v6)], [], pv_mm s T) r
  unfold f128_copy_b2 at h
  dsimp only at h
  refine pv_e_bk (ps := [(136, .iload 6, 2), (138, .iload 5, 2)]) (t' := (0, 0, 140, [some (.ref 94), some (.int v1), some (.int v2), some (.int v3), some (.int v4), some (.int v5), some (.int v6)], [.int v5, .int v6], pv_mm s T)) (by decide +kernel) rfl ?_
  refine pv_e_icmpge (off := 26) (b := 166) (pc' := 143) (by decide +kernel) (by decide +kernel) rfl (fun c41 => ?_) (fun c41 => ?_)
  · rw [if_pos c41] at h
    obtain rfl := Option.some.inj h
    exact hK _
  · rw [if_neg c41] at h
    refine pv_e_bk (ps := [(143, .aload_n 0, 1), (144, .iload_n 3, 1), (145, .iload 4, 2), (147, .iload 6, 2), (149, .iadd, 1), (150, .aload_n 0, 1)]) (t' := (0, 0, 151, [some (.ref 94), some (.int v1), some (.int v2), some (.int v3), some (.int v4), some (.int v5), some (.int v6)], [.ref 94, .int (v4 + v6), .int v3, .ref 94], pv_mm s T)) (by decide +kernel) rfl ?_
    refine pv_e_gr (i := 19) (ci := 6) (j := 5) (b := 98) (pc' := 154) (by decide +kernel) rfl rfl rfl ?_
    refine pv_e_bk (ps := [(154, .iload 6, 2)]) (t' := (0, 0, 156, [some (.ref 94), some (.int v1), some (.int v2), some (.int v3), some (.int v4), some (.int v5), some (.int v6)], [.int v6, .ref 98, .int (v4 + v6), .int v3, .ref 94], pv_mm s T)) (by decide +kernel) rfl ?_
    obtain ⟨q42, e43, h⟩ := Option.bind_eq_some_iff.mp h
    refine pv_e_rm (pc' := 157) (by decide +kernel) (by decide) rfl e43 rfl ?_
    obtain ⟨T45, e44, h⟩ := Option.bind_eq_some_iff.mp h
    refine pv_e_cvv (d := d + 1) (i := 98) (z := 123) (np := 3) (ml := 4) (ci := 6) (As := [.int v3, .int (v4 + v6), .int q42]) (rs := []) (pc' := 160) (by decide +kernel) rfl rfl rfl rfl (Nat.le_of_ble_eq_true rfl) (Nat.le_of_ble_eq_true rfl) rfl (ee123 (d + 1) v3 (v4 + v6) q42 e44) ?_
    refine pv_e_bk (ps := [(160, .iinc 6 1, 3), (163, .goto (-27), 3)]) (t' := (0, 0, 136, [some (.ref 94), some (.int v1), some (.int v2), some (.int v3), some (.int v4), some (.int v5), some (.int (v6 + (1:Int32)))], [], pv_mm s T45)) (by decide +kernel) rfl ?_
    obtain rfl := Option.some.inj h
    exact hK
theorem ee128 {xs : Nat → Int32} {L : Nat} (d : Nat) (x1 : Int32) (x2 : Int32) (x3 : Int32) (x4 : Int32) (x5 : Int32) {s : pv_F} {T : pv_T} {q : Int32 × pv_T}  (h : f128_copy x1 x2 x3 x4 x5 T = some q) : pv_Ev xs L (d + 2) 128 (0, 0, 0, [some (.ref 94), some (.int x1), some (.int x2), some (.int x3), some (.int x4), some (.int x5), none], [], pv_mm s T) (some (.int q.1), pv_mm s q.2) := by
  generalize hr : ((some (.int q.1), pv_mm s q.2) : Option Value × pv_M) = r
  unfold f128_copy at h
  refine pv_e_bk (ps := [(0, .iload_n 1, 1)]) (t' := (0, 0, 1, [some (.ref 94), some (.int x1), some (.int x2), some (.int x3), some (.int x4), some (.int x5), none], [.int x1], pv_mm s T)) (by decide +kernel) rfl ?_
  obtain ⟨q2, e1, h⟩ := Option.bind_eq_some_iff.mp h
  refine pv_e_csi (d := d + 1) (i := 87) (z := 118) (np := 1) (ml := 1) (As := [.int x1]) (rs := []) (pc' := 4) (by decide +kernel) rfl rfl rfl (Nat.le_of_ble_eq_true rfl) (Nat.le_of_ble_eq_true rfl) rfl (ee118 (d + 0) x1 e1) ?_
  refine pv_e_ifeq (off := 10) (b := 14) (pc' := 7) (by decide +kernel) (by decide +kernel) rfl (fun c3 => ?_) (fun c3 => ?_)
  · rw [if_pos c3] at h
    refine pv_e_bk (ps := [(14, .iconst (-1), 1)]) (t' := (0, 0, 15, [some (.ref 94), some (.int x1), some (.int x2), some (.int x3), some (.int x4), some (.int x5), none], [.int (-1:Int32)], pv_mm s T)) (by decide +kernel) rfl ?_
    obtain rfl := Option.some.inj h
    cases hr
    exact pv_e_ri (by decide +kernel)
  · rw [if_neg c3] at h
    refine pv_e_bk (ps := [(7, .iload_n 3, 1)]) (t' := (0, 0, 8, [some (.ref 94), some (.int x1), some (.int x2), some (.int x3), some (.int x4), some (.int x5), none], [.int x3], pv_mm s T)) (by decide +kernel) rfl ?_
    obtain ⟨q5, e4, h⟩ := Option.bind_eq_some_iff.mp h
    refine pv_e_csi (d := d + 1) (i := 87) (z := 118) (np := 1) (ml := 1) (As := [.int x3]) (rs := []) (pc' := 11) (by decide +kernel) rfl rfl rfl (Nat.le_of_ble_eq_true rfl) (Nat.le_of_ble_eq_true rfl) rfl (ee118 (d + 0) x3 e4) ?_
    refine pv_e_ifne (off := 5) (b := 16) (pc' := 14) (by decide +kernel) (by decide +kernel) rfl (fun c6 => ?_) (fun c6 => ?_)
    · rw [if_pos c6] at h
      refine pv_e_bk (ps := [(14, .iconst (-1), 1)]) (t' := (0, 0, 15, [some (.ref 94), some (.int x1), some (.int x2), some (.int x3), some (.int x4), some (.int x5), none], [.int (-1:Int32)], pv_mm s T)) (by decide +kernel) rfl ?_
      obtain rfl := Option.some.inj h
      cases hr
      exact pv_e_ri (by decide +kernel)
    · rw [if_neg c6] at h
      refine pv_e_bk (ps := [(16, .iload 5, 2)]) (t' := (0, 0, 18, [some (.ref 94), some (.int x1), some (.int x2), some (.int x3), some (.int x4), some (.int x5), none], [.int x5], pv_mm s T)) (by decide +kernel) rfl ?_
      refine pv_e_ifge (off := 9) (b := 27) (pc' := 21) (by decide +kernel) (by decide +kernel) rfl (fun c7 => ?_) (fun c7 => ?_)
      · rw [if_pos c7] at h
        refine pv_e_bk (ps := [(27, .aload_n 0, 1)]) (t' := (0, 0, 28, [some (.ref 94), some (.int x1), some (.int x2), some (.int x3), some (.int x4), some (.int x5), none], [.ref 94], pv_mm s T)) (by decide +kernel) rfl ?_
        refine pv_e_gr (i := 13) (ci := 6) (j := 3) (b := 96) (pc' := 31) (by decide +kernel) rfl rfl rfl ?_
        refine pv_e_bk (ps := [(31, .iload_n 1, 1)]) (t' := (0, 0, 32, [some (.ref 94), some (.int x1), some (.int x2), some (.int x3), some (.int x4), some (.int x5), none], [.int x1, .ref 96], pv_mm s T)) (by decide +kernel) rfl ?_
        obtain ⟨q8, e9, h⟩ := Option.bind_eq_some_iff.mp h
        refine pv_e_rm (pc' := 33) (by decide +kernel) (by decide) rfl e9 rfl ?_
        refine pv_e_iflt (off := 12) (b := 45) (pc' := 36) (by decide +kernel) (by decide +kernel) rfl (fun c10 => ?_) (fun c10 => ?_)
        · rw [if_pos c10] at h
          refine pv_e_bk (ps := [(45, .aload_n 0, 1), (46, .iconst 1, 1)]) (t' := (0, 0, 47, [some (.ref 94), some (.int x1), some (.int x2), some (.int x3), some (.int x4), some (.int x5), none], [.int (1:Int32), .ref 94], pv_mm s T)) (by decide +kernel) rfl ?_
          obtain ⟨⟨q12, T13⟩, e11, h⟩ := Option.bind_eq_some_iff.mp h
          dsimp only at h
          refine pv_e_cvi (d := d + 1) (i := 91) (z := 114) (np := 1) (ml := 2) (ci := 6) (As := [.int (1:Int32)]) (rs := []) (pc' := 50) (by decide +kernel) rfl rfl rfl rfl (Nat.le_of_ble_eq_true rfl) (Nat.le_of_ble_eq_true rfl) rfl (ee114 (d + 1) (1:Int32) e11) ?_
          obtain rfl := Option.some.inj h
          cases hr
          exact pv_e_ri (by decide +kernel)
        · rw [if_neg c10] at h
          refine pv_e_bk (ps := [(36, .aload_n 0, 1)]) (t' := (0, 0, 37, [some (.ref 94), some (.int x1), some (.int x2), some (.int x3), some (.int x4), some (.int x5), none], [.ref 94], pv_mm s T)) (by decide +kernel) rfl ?_
          refine pv_e_gr (i := 13) (ci := 6) (j := 3) (b := 96) (pc' := 40) (by decide +kernel) rfl rfl rfl ?_
          refine pv_e_bk (ps := [(40, .iload_n 3, 1)]) (t' := (0, 0, 41, [some (.ref 94), some (.int x1), some (.int x2), some (.int x3), some (.int x4), some (.int x5), none], [.int x3, .ref 96], pv_mm s T)) (by decide +kernel) rfl ?_
          obtain ⟨q14, e15, h⟩ := Option.bind_eq_some_iff.mp h
          refine pv_e_rm (pc' := 42) (by decide +kernel) (by decide) rfl e15 rfl ?_
          refine pv_e_ifge (off := 9) (b := 51) (pc' := 45) (by decide +kernel) (by decide +kernel) rfl (fun c16 => ?_) (fun c16 => ?_)
          · rw [if_pos c16] at h
            refine pv_e_bk (ps := [(51, .iload_n 2, 1)]) (t' := (0, 0, 52, [some (.ref 94), some (.int x1), some (.int x2), some (.int x3), some (.int x4), some (.int x5), none], [.int x2], pv_mm s T)) (by decide +kernel) rfl ?_
            refine pv_e_iflt (off := 43) (b := 95) (pc' := 55) (by decide +kernel) (by decide +kernel) rfl (fun c17 => ?_) (fun c17 => ?_)
            · rw [if_pos c17] at h
              refine pv_e_bk (ps := [(95, .aload_n 0, 1), (96, .iconst 2, 1)]) (t' := (0, 0, 97, [some (.ref 94), some (.int x1), some (.int x2), some (.int x3), some (.int x4), some (.int x5), none], [.int (2:Int32), .ref 94], pv_mm s T)) (by decide +kernel) rfl ?_
              obtain ⟨⟨q19, T20⟩, e18, h⟩ := Option.bind_eq_some_iff.mp h
              dsimp only at h
              refine pv_e_cvi (d := d + 1) (i := 91) (z := 114) (np := 1) (ml := 2) (ci := 6) (As := [.int (2:Int32)]) (rs := []) (pc' := 100) (by decide +kernel) rfl rfl rfl rfl (Nat.le_of_ble_eq_true rfl) (Nat.le_of_ble_eq_true rfl) rfl (ee114 (d + 1) (2:Int32) e18) ?_
              obtain rfl := Option.some.inj h
              cases hr
              exact pv_e_ri (by decide +kernel)
            · rw [if_neg c17] at h
              refine pv_e_bk (ps := [(55, .iload 4, 2)]) (t' := (0, 0, 57, [some (.ref 94), some (.int x1), some (.int x2), some (.int x3), some (.int x4), some (.int x5), none], [.int x4], pv_mm s T)) (by decide +kernel) rfl ?_
              refine pv_e_iflt (off := 38) (b := 95) (pc' := 60) (by decide +kernel) (by decide +kernel) rfl (fun c21 => ?_) (fun c21 => ?_)
              · rw [if_pos c21] at h
                refine pv_e_bk (ps := [(95, .aload_n 0, 1), (96, .iconst 2, 1)]) (t' := (0, 0, 97, [some (.ref 94), some (.int x1), some (.int x2), some (.int x3), some (.int x4), some (.int x5), none], [.int (2:Int32), .ref 94], pv_mm s T)) (by decide +kernel) rfl ?_
                obtain ⟨⟨q23, T24⟩, e22, h⟩ := Option.bind_eq_some_iff.mp h
                dsimp only at h
                refine pv_e_cvi (d := d + 1) (i := 91) (z := 114) (np := 1) (ml := 2) (ci := 6) (As := [.int (2:Int32)]) (rs := []) (pc' := 100) (by decide +kernel) rfl rfl rfl rfl (Nat.le_of_ble_eq_true rfl) (Nat.le_of_ble_eq_true rfl) rfl (ee114 (d + 1) (2:Int32) e22) ?_
                obtain rfl := Option.some.inj h
                cases hr
                exact pv_e_ri (by decide +kernel)
              · rw [if_neg c21] at h
                refine pv_e_bk (ps := [(60, .iload_n 2, 1), (61, .i2l, 1), (62, .iload 5, 2), (64, .i2l, 1), (65, .ladd, 1), (66, .aload_n 0, 1)]) (t' := (0, 0, 67, [some (.ref 94), some (.int x1), some (.int x2), some (.int x3), some (.int x4), some (.int x5), none], [.ref 94, .long (x2.toInt64 + x5.toInt64)], pv_mm s T)) (by decide +kernel) rfl ?_
                refine pv_e_gr (i := 13) (ci := 6) (j := 3) (b := 96) (pc' := 70) (by decide +kernel) rfl rfl rfl ?_
                refine pv_e_bk (ps := [(70, .iload_n 1, 1)]) (t' := (0, 0, 71, [some (.ref 94), some (.int x1), some (.int x2), some (.int x3), some (.int x4), some (.int x5), none], [.int x1, .ref 96, .long (x2.toInt64 + x5.toInt64)], pv_mm s T)) (by decide +kernel) rfl ?_
                obtain ⟨q25, e26, h⟩ := Option.bind_eq_some_iff.mp h
                refine pv_e_rm (pc' := 72) (by decide +kernel) (by decide) rfl e26 rfl ?_
                refine pv_e_bk (ps := [(72, .i2l, 1), (73, .lcmp, 1)]) (t' := (0, 0, 74, [some (.ref 94), some (.int x1), some (.int x2), some (.int x3), some (.int x4), some (.int x5), none], [.int (lg_cmp (x2.toInt64 + x5.toInt64) q25.toInt64)], pv_mm s T)) (by decide +kernel) rfl ?_
                refine pv_e_ifgt (off := 21) (b := 95) (pc' := 77) (by decide +kernel) (by decide +kernel) rfl (fun c27 => ?_) (fun c27 => ?_)
                · rw [if_pos c27] at h
                  refine pv_e_bk (ps := [(95, .aload_n 0, 1), (96, .iconst 2, 1)]) (t' := (0, 0, 97, [some (.ref 94), some (.int x1), some (.int x2), some (.int x3), some (.int x4), some (.int x5), none], [.int (2:Int32), .ref 94], pv_mm s T)) (by decide +kernel) rfl ?_
                  obtain ⟨⟨q29, T30⟩, e28, h⟩ := Option.bind_eq_some_iff.mp h
                  dsimp only at h
                  refine pv_e_cvi (d := d + 1) (i := 91) (z := 114) (np := 1) (ml := 2) (ci := 6) (As := [.int (2:Int32)]) (rs := []) (pc' := 100) (by decide +kernel) rfl rfl rfl rfl (Nat.le_of_ble_eq_true rfl) (Nat.le_of_ble_eq_true rfl) rfl (ee114 (d + 1) (2:Int32) e28) ?_
                  obtain rfl := Option.some.inj h
                  cases hr
                  exact pv_e_ri (by decide +kernel)
                · rw [if_neg c27] at h
                  refine pv_e_bk (ps := [(77, .iload 4, 2), (79, .i2l, 1), (80, .iload 5, 2), (82, .i2l, 1), (83, .ladd, 1), (84, .aload_n 0, 1)]) (t' := (0, 0, 85, [some (.ref 94), some (.int x1), some (.int x2), some (.int x3), some (.int x4), some (.int x5), none], [.ref 94, .long (x4.toInt64 + x5.toInt64)], pv_mm s T)) (by decide +kernel) rfl ?_
                  refine pv_e_gr (i := 13) (ci := 6) (j := 3) (b := 96) (pc' := 88) (by decide +kernel) rfl rfl rfl ?_
                  refine pv_e_bk (ps := [(88, .iload_n 3, 1)]) (t' := (0, 0, 89, [some (.ref 94), some (.int x1), some (.int x2), some (.int x3), some (.int x4), some (.int x5), none], [.int x3, .ref 96, .long (x4.toInt64 + x5.toInt64)], pv_mm s T)) (by decide +kernel) rfl ?_
                  obtain ⟨q31, e32, h⟩ := Option.bind_eq_some_iff.mp h
                  refine pv_e_rm (pc' := 90) (by decide +kernel) (by decide) rfl e32 rfl ?_
                  refine pv_e_bk (ps := [(90, .i2l, 1), (91, .lcmp, 1)]) (t' := (0, 0, 92, [some (.ref 94), some (.int x1), some (.int x2), some (.int x3), some (.int x4), some (.int x5), none], [.int (lg_cmp (x4.toInt64 + x5.toInt64) q31.toInt64)], pv_mm s T)) (by decide +kernel) rfl ?_
                  refine pv_e_ifle (off := 9) (b := 101) (pc' := 95) (by decide +kernel) (by decide +kernel) rfl (fun c33 => ?_) (fun c33 => ?_)
                  · rw [if_pos c33] at h
                    refine pv_e_bk (ps := [(101, .iconst 0, 1), (102, .istore 6, 2)]) (t' := (0, 0, 104, [some (.ref 94), some (.int x1), some (.int x2), some (.int x3), some (.int x4), some (.int x5), some (.int (0:Int32))], [], pv_mm s T)) (by decide +kernel) rfl ?_
                    obtain ⟨⟨w39, T40⟩, e51, h⟩ := Option.bind_eq_some_iff.mp h
                    dsimp only at h
                    have hx50 : f128_copy_b1_X xs L d r s x1 x2 x3 x4 x5 (w39, T40) := by
                      show ∀ z6 : Option Value, pv_Ev xs L (d + 2) 128 (0, 0, 133, [some (.ref 94), some (.int x1), some (.int x2), some (.int x3), some (.int x4), some (.int x5), z6], [], pv_mm s T40) r
                      intro z6
                      refine pv_e_bk (ps := [(133, .iconst 0, 1), (134, .istore 6, 2)]) (t' := (0, 0, 136, [some (.ref 94), some (.int x1), some (.int x2), some (.int x3), some (.int x4), some (.int x5), some (.int (0:Int32))], [], pv_mm s T40)) (by decide +kernel) rfl ?_
                      obtain ⟨⟨w46, T47⟩, e49, h⟩ := Option.bind_eq_some_iff.mp h
                      dsimp only at h
                      have hx48 : f128_copy_b2_X xs L d r s x3 x4 x5 x1 x2 (w46, T47) := by
                        show ∀ z6 : Option Value, pv_Ev xs L (d + 2) 128 (0, 0, 166, [some (.ref 94), some (.int x1), some (.int x2), some (.int x3), some (.int x4), some (.int x5), z6], [], pv_mm s T47) r
                        intro z6
                        refine pv_e_bk (ps := [(166, .iconst 1, 1)]) (t' := (0, 0, 167, [some (.ref 94), some (.int x1), some (.int x2), some (.int x3), some (.int x4), some (.int x5), z6], [.int (1:Int32)], pv_mm s T47)) (by decide +kernel) rfl ?_
                        obtain rfl := Option.some.inj h
                        cases hr
                        exact pv_e_ri (by decide +kernel)
                      exact pv_lq_ok (H := f128_copy_b2_H xs L d r s x3 x4 x5 x1 x2) (X := f128_copy_b2_X xs L d r s x3 x4 x5 x1 x2) (f128_copy_b2_ok (xs := xs) (L := L) (d := d) (r := r) (s := s) (v3 := x3) (v4 := x4) (v5 := x5) (v1 := x1) (v2 := x2)) 20000 _ _ e49 hx48
                    exact pv_lq_ok (H := f128_copy_b1_H xs L d r s x1 x2 x3 x4 x5) (X := f128_copy_b1_X xs L d r s x1 x2 x3 x4 x5) (f128_copy_b1_ok (xs := xs) (L := L) (d := d) (r := r) (s := s) (v1 := x1) (v2 := x2) (v3 := x3) (v4 := x4) (v5 := x5)) 20000 _ _ e51 hx50
                  · rw [if_neg c33] at h
                    refine pv_e_bk (ps := [(95, .aload_n 0, 1), (96, .iconst 2, 1)]) (t' := (0, 0, 97, [some (.ref 94), some (.int x1), some (.int x2), some (.int x3), some (.int x4), some (.int x5), none], [.int (2:Int32), .ref 94], pv_mm s T)) (by decide +kernel) rfl ?_
                    obtain ⟨⟨q53, T54⟩, e52, h⟩ := Option.bind_eq_some_iff.mp h
                    dsimp only at h
                    refine pv_e_cvi (d := d + 1) (i := 91) (z := 114) (np := 1) (ml := 2) (ci := 6) (As := [.int (2:Int32)]) (rs := []) (pc' := 100) (by decide +kernel) rfl rfl rfl rfl (Nat.le_of_ble_eq_true rfl) (Nat.le_of_ble_eq_true rfl) rfl (ee114 (d + 1) (2:Int32) e52) ?_
                    obtain rfl := Option.some.inj h
                    cases hr
                    exact pv_e_ri (by decide +kernel)
          · rw [if_neg c16] at h
            refine pv_e_bk (ps := [(45, .aload_n 0, 1), (46, .iconst 1, 1)]) (t' := (0, 0, 47, [some (.ref 94), some (.int x1), some (.int x2), some (.int x3), some (.int x4), some (.int x5), none], [.int (1:Int32), .ref 94], pv_mm s T)) (by decide +kernel) rfl ?_
            obtain ⟨⟨q56, T57⟩, e55, h⟩ := Option.bind_eq_some_iff.mp h
            dsimp only at h
            refine pv_e_cvi (d := d + 1) (i := 91) (z := 114) (np := 1) (ml := 2) (ci := 6) (As := [.int (1:Int32)]) (rs := []) (pc' := 50) (by decide +kernel) rfl rfl rfl rfl (Nat.le_of_ble_eq_true rfl) (Nat.le_of_ble_eq_true rfl) rfl (ee114 (d + 1) (1:Int32) e55) ?_
            obtain rfl := Option.some.inj h
            cases hr
            exact pv_e_ri (by decide +kernel)
      · rw [if_neg c7] at h
        refine pv_e_bk (ps := [(21, .aload_n 0, 1), (22, .iconst 5, 1)]) (t' := (0, 0, 23, [some (.ref 94), some (.int x1), some (.int x2), some (.int x3), some (.int x4), some (.int x5), none], [.int (5:Int32), .ref 94], pv_mm s T)) (by decide +kernel) rfl ?_
        obtain ⟨⟨q59, T60⟩, e58, h⟩ := Option.bind_eq_some_iff.mp h
        dsimp only at h
        refine pv_e_cvi (d := d + 1) (i := 91) (z := 114) (np := 1) (ml := 2) (ci := 6) (As := [.int (5:Int32)]) (rs := []) (pc' := 26) (by decide +kernel) rfl rfl rfl rfl (Nat.le_of_ble_eq_true rfl) (Nat.le_of_ble_eq_true rfl) rfl (ee114 (d + 1) (5:Int32) e58) ?_
        obtain rfl := Option.some.inj h
        cases hr
        exact pv_e_ri (by decide +kernel)
def f129_mean_b1 (v1 : Int32) (T : pv_T) (st : Int64 × Int32) : Option ((Int64 × Int32) ⊕ (Int64 × Int32)) := match st with
  | (v3, v5) =>
    (pv_rd T.1 96 6 v1).bind fun q5 =>
    if q5 ≤ v5 then
      some (.inr (v3, v5))
    else
      (f122_rowAt v1 v5 T).bind fun q9 =>
      some (.inl (v3 + q9.toInt64, v5 + (1:Int32)))
def f129_mean_b1_H (xs : Nat → Int32) (L d : Nat) (r : Option Value × pv_M) (s : pv_F) (v1 : Int32) (T : pv_T) (v2 : Int32) (st : Int64 × Int32) : Prop := match st with
  | (v3, v5) => pv_Ev xs L (d + 3) 129 (0, 0, 17, [some (.ref 94), some (.int v1), some (.int v2), some (.long v3), none, some (.int v5)], [], pv_mm s T) r
def f129_mean_b1_X (xs : Nat → Int32) (L d : Nat) (r : Option Value × pv_M) (s : pv_F) (v1 : Int32) (T : pv_T) (v2 : Int32) (st : Int64 × Int32) : Prop := match st with
  | (v3, v5) => ∀ z5 : Option Value, pv_Ev xs L (d + 3) 129 (0, 0, 45, [some (.ref 94), some (.int v1), some (.int v2), some (.long v3), none, z5], [], pv_mm s T) r
def f129_mean (x1 : Int32) (T : pv_T) : Option (Int32 × pv_T) :=
  (f120_askedRow x1 T).bind fun (q2, T3) =>
  if 0 ≤ q2 then
    (pv_lq (f129_mean_b1 x1 T3) 20000 ((0:Int64), (0:Int32))).bind fun (w10, w11) =>
    (pv_rd T3.1 96 6 x1).bind fun q12 =>
    ((
      if q12 = 0 then
        (f114_meet (4:Int32) T3).bind fun (q20, T21) =>
        some (q20, T21)
      else
        (pv_rd T3.1 96 6 x1).bind fun q22 =>
        (pv_ldv w10 q22.toInt64).bind fun q24 =>
        (f115_ask q24.toInt32 (1:Int32) T3).bind fun (q27, T28) =>
        some (q27, T28)) : Option (Int32 × pv_T)).bind fun (t14, T15) =>
    some (t14, T15)
  else
    some (q2, T3)
theorem f129_mean_b1_ok {xs : Nat → Int32} {L d : Nat} {r : Option Value × pv_M} {s : pv_F} {v1 : Int32} {T : pv_T} {v2 : Int32} (st : Int64 × Int32) (o : (Int64 × Int32) ⊕ (Int64 × Int32)) (h : f129_mean_b1 v1 T st = some o) (hK : pv_Kq (f129_mean_b1_H xs L d r s v1 T v2) (f129_mean_b1_X xs L d r s v1 T v2) o) : f129_mean_b1_H xs L d r s v1 T v2 st := by
  obtain ⟨v3, v5⟩ := st
  show pv_Ev xs L (d + 3) 129 (0, 0, 17, [some (.ref 94), some (.int v1), some (.int v2), some (.long v3), none, some (.int v5)], [], pv_mm s T) r
  unfold f129_mean_b1 at h
  dsimp only at h
  refine pv_e_bk (ps := [(17, .iload 5, 2), (19, .aload_n 0, 1)]) (t' := (0, 0, 20, [some (.ref 94), some (.int v1), some (.int v2), some (.long v3), none, some (.int v5)], [.ref 94, .int v5], pv_mm s T)) (by decide +kernel) rfl ?_
  refine pv_e_gr (i := 13) (ci := 6) (j := 3) (b := 96) (pc' := 23) (by decide +kernel) rfl rfl rfl ?_
  refine pv_e_bk (ps := [(23, .iload_n 1, 1)]) (t' := (0, 0, 24, [some (.ref 94), some (.int v1), some (.int v2), some (.long v3), none, some (.int v5)], [.int v1, .ref 96, .int v5], pv_mm s T)) (by decide +kernel) rfl ?_
  obtain ⟨q5, e6, h⟩ := Option.bind_eq_some_iff.mp h
  refine pv_e_rm (pc' := 25) (by decide +kernel) (by decide) rfl e6 rfl ?_
  refine pv_e_icmpge (off := 20) (b := 45) (pc' := 28) (by decide +kernel) (by decide +kernel) rfl (fun c7 => ?_) (fun c7 => ?_)
  · rw [if_pos c7] at h
    obtain rfl := Option.some.inj h
    exact hK _
  · rw [if_neg c7] at h
    refine pv_e_bk (ps := [(28, .lload_n 3, 1), (29, .aload_n 0, 1), (30, .iload_n 1, 1), (31, .iload 5, 2)]) (t' := (0, 0, 33, [some (.ref 94), some (.int v1), some (.int v2), some (.long v3), none, some (.int v5)], [.int v5, .int v1, .ref 94, .long v3], pv_mm s T)) (by decide +kernel) rfl ?_
    obtain ⟨q9, e8, h⟩ := Option.bind_eq_some_iff.mp h
    refine pv_e_cvi (d := d + 2) (i := 105) (z := 122) (np := 2) (ml := 3) (ci := 6) (As := [.int v1, .int v5]) (rs := [.long v3]) (pc' := 36) (by decide +kernel) rfl rfl rfl rfl (Nat.le_of_ble_eq_true rfl) (Nat.le_of_ble_eq_true rfl) rfl (ee122 (d + 2) v1 v5 e8) ?_
    refine pv_e_bk (ps := [(36, .i2l, 1), (37, .ladd, 1), (38, .lstore_n 3, 1), (39, .iinc 5 1, 3), (42, .goto (-25), 3)]) (t' := (0, 0, 17, [some (.ref 94), some (.int v1), some (.int v2), some (.long (v3 + q9.toInt64)), none, some (.int (v5 + (1:Int32)))], [], pv_mm s T)) (by decide +kernel) rfl ?_
    obtain rfl := Option.some.inj h
    exact hK
theorem ee129 {xs : Nat → Int32} {L : Nat} (d : Nat) (x1 : Int32) {s : pv_F} {T : pv_T} {q : Int32 × pv_T}  (h : f129_mean x1 T = some q) : pv_Ev xs L (d + 3) 129 (0, 0, 0, [some (.ref 94), some (.int x1), none, none, none, none], [], pv_mm s T) (some (.int q.1), pv_mm s q.2) := by
  generalize hr : ((some (.int q.1), pv_mm s q.2) : Option Value × pv_M) = r
  unfold f129_mean at h
  refine pv_e_bk (ps := [(0, .aload_n 0, 1), (1, .iload_n 1, 1)]) (t' := (0, 0, 2, [some (.ref 94), some (.int x1), none, none, none, none], [.int x1, .ref 94], pv_mm s T)) (by decide +kernel) rfl ?_
  obtain ⟨⟨q2, T3⟩, e1, h⟩ := Option.bind_eq_some_iff.mp h
  dsimp only at h
  refine pv_e_cvi (d := d + 2) (i := 102) (z := 120) (np := 1) (ml := 2) (ci := 6) (As := [.int x1]) (rs := []) (pc' := 5) (by decide +kernel) rfl rfl rfl rfl (Nat.le_of_ble_eq_true rfl) (Nat.le_of_ble_eq_true rfl) rfl (ee120 (d + 0) x1 e1) ?_
  refine pv_e_bk (ps := [(5, .istore_n 2, 1), (6, .iload_n 2, 1)]) (t' := (0, 0, 7, [some (.ref 94), some (.int x1), some (.int q2), none, none, none], [.int q2], pv_mm s T3)) (by decide +kernel) rfl ?_
  refine pv_e_ifge (off := 5) (b := 12) (pc' := 10) (by decide +kernel) (by decide +kernel) rfl (fun c4 => ?_) (fun c4 => ?_)
  · rw [if_pos c4] at h
    refine pv_e_bk (ps := [(12, .lconst 0, 1), (13, .lstore_n 3, 1), (14, .iconst 0, 1), (15, .istore 5, 2)]) (t' := (0, 0, 17, [some (.ref 94), some (.int x1), some (.int q2), some (.long (0:Int64)), none, some (.int (0:Int32))], [], pv_mm s T3)) (by decide +kernel) rfl ?_
    obtain ⟨⟨w10, w11⟩, e30, h⟩ := Option.bind_eq_some_iff.mp h
    dsimp only at h
    have hx29 : f129_mean_b1_X xs L d r s x1 T3 q2 (w10, w11) := by
      show ∀ z5 : Option Value, pv_Ev xs L (d + 3) 129 (0, 0, 45, [some (.ref 94), some (.int x1), some (.int q2), some (.long w10), none, z5], [], pv_mm s T3) r
      intro z5
      refine pv_e_bk (ps := [(45, .aload_n 0, 1)]) (t' := (0, 0, 46, [some (.ref 94), some (.int x1), some (.int q2), some (.long w10), none, z5], [.ref 94], pv_mm s T3)) (by decide +kernel) rfl ?_
      refine pv_e_gr (i := 13) (ci := 6) (j := 3) (b := 96) (pc' := 49) (by decide +kernel) rfl rfl rfl ?_
      refine pv_e_bk (ps := [(49, .iload_n 1, 1)]) (t' := (0, 0, 50, [some (.ref 94), some (.int x1), some (.int q2), some (.long w10), none, z5], [.int x1, .ref 96], pv_mm s T3)) (by decide +kernel) rfl ?_
      obtain ⟨q12, e13, h⟩ := Option.bind_eq_some_iff.mp h
      refine pv_e_rm (pc' := 51) (by decide +kernel) (by decide) rfl e13 rfl ?_
      obtain ⟨⟨t14, T15⟩, hv16, h⟩ := Option.bind_eq_some_iff.mp h
      dsimp only at h
      have hJ17 : pv_Ev xs L (d + 3) 129 (0, 0, 77, [some (.ref 94), some (.int x1), some (.int q2), some (.long w10), none, z5], [.int t14], pv_mm s T15) r := by
        obtain rfl := Option.some.inj h
        cases hr
        exact pv_e_ri (by decide +kernel)
      clear h
      have h := hv16
      clear hv16
      refine pv_e_ifne (off := 11) (b := 62) (pc' := 54) (by decide +kernel) (by decide +kernel) rfl (fun c18 => ?_) (fun c18 => ?_)
      · rw [if_pos c18] at h
        refine pv_e_bk (ps := [(54, .aload_n 0, 1), (55, .iconst 4, 1)]) (t' := (0, 0, 56, [some (.ref 94), some (.int x1), some (.int q2), some (.long w10), none, z5], [.int (4:Int32), .ref 94], pv_mm s T3)) (by decide +kernel) rfl ?_
        obtain ⟨⟨q20, T21⟩, e19, h⟩ := Option.bind_eq_some_iff.mp h
        dsimp only at h
        refine pv_e_cvi (d := d + 2) (i := 91) (z := 114) (np := 1) (ml := 2) (ci := 6) (As := [.int (4:Int32)]) (rs := []) (pc' := 59) (by decide +kernel) rfl rfl rfl rfl (Nat.le_of_ble_eq_true rfl) (Nat.le_of_ble_eq_true rfl) rfl (ee114 (d + 2) (4:Int32) e19) ?_
        refine pv_e_bk (ps := [(59, .goto 18, 3)]) (t' := (0, 0, 77, [some (.ref 94), some (.int x1), some (.int q2), some (.long w10), none, z5], [.int q20], pv_mm s T21)) (by decide +kernel) rfl ?_
        cases h
        exact hJ17
      · rw [if_neg c18] at h
        refine pv_e_bk (ps := [(62, .aload_n 0, 1), (63, .lload_n 3, 1), (64, .aload_n 0, 1)]) (t' := (0, 0, 65, [some (.ref 94), some (.int x1), some (.int q2), some (.long w10), none, z5], [.ref 94, .long w10, .ref 94], pv_mm s T3)) (by decide +kernel) rfl ?_
        refine pv_e_gr (i := 13) (ci := 6) (j := 3) (b := 96) (pc' := 68) (by decide +kernel) rfl rfl rfl ?_
        refine pv_e_bk (ps := [(68, .iload_n 1, 1)]) (t' := (0, 0, 69, [some (.ref 94), some (.int x1), some (.int q2), some (.long w10), none, z5], [.int x1, .ref 96, .long w10, .ref 94], pv_mm s T3)) (by decide +kernel) rfl ?_
        obtain ⟨q22, e23, h⟩ := Option.bind_eq_some_iff.mp h
        refine pv_e_rm (pc' := 70) (by decide +kernel) (by decide) rfl e23 rfl ?_
        refine pv_e_bk (ps := [(70, .i2l, 1)]) (t' := (0, 0, 71, [some (.ref 94), some (.int x1), some (.int q2), some (.long w10), none, z5], [.long q22.toInt64, .long w10, .ref 94], pv_mm s T3)) (by decide +kernel) rfl ?_
        obtain ⟨q24, e25, h⟩ := Option.bind_eq_some_iff.mp h
        refine pv_e_ldv (pc' := 72) (by decide +kernel) e25 rfl ?_
        refine pv_e_bk (ps := [(72, .l2i, 1), (73, .iconst 1, 1)]) (t' := (0, 0, 74, [some (.ref 94), some (.int x1), some (.int q2), some (.long w10), none, z5], [.int (1:Int32), .int q24.toInt32, .ref 94], pv_mm s T3)) (by decide +kernel) rfl ?_
        obtain ⟨⟨q27, T28⟩, e26, h⟩ := Option.bind_eq_some_iff.mp h
        dsimp only at h
        refine pv_e_cvi (d := d + 2) (i := 109) (z := 115) (np := 2) (ml := 3) (ci := 6) (As := [.int q24.toInt32, .int (1:Int32)]) (rs := []) (pc' := 77) (by decide +kernel) rfl rfl rfl rfl (Nat.le_of_ble_eq_true rfl) (Nat.le_of_ble_eq_true rfl) rfl (ee115 (d + 2) q24.toInt32 (1:Int32) e26) ?_
        cases h
        exact hJ17
    exact pv_lq_ok (H := f129_mean_b1_H xs L d r s x1 T3 q2) (X := f129_mean_b1_X xs L d r s x1 T3 q2) (f129_mean_b1_ok (xs := xs) (L := L) (d := d) (r := r) (s := s) (v1 := x1) (T := T3) (v2 := q2)) 20000 _ _ e30 hx29
  · rw [if_neg c4] at h
    refine pv_e_bk (ps := [(10, .iload_n 2, 1)]) (t' := (0, 0, 11, [some (.ref 94), some (.int x1), some (.int q2), none, none, none], [.int q2], pv_mm s T3)) (by decide +kernel) rfl ?_
    obtain rfl := Option.some.inj h
    cases hr
    exact pv_e_ri (by decide +kernel)
def f130_text_b1 (v1 : Int32) (v2 : Int32) (st : Int32 × pv_T) : Option ((Int32 × pv_T) ⊕ (Int32 × pv_T)) := match st with
  | (v3, T) =>
    if (80:Int32) ≤ v3 then
      some (.inr (v3, T))
    else
      (pv_wm T 100 320 (((80:Int32) * v1) + v3) (32:Int32)).bind fun T9 =>
      some (.inl (v3 + (1:Int32), T9))
def f130_text_b1_H (xs : Nat → Int32) (L d : Nat) (r : Option Value × pv_M) (s : pv_F) (v1 : Int32) (v2 : Int32) (st : Int32 × pv_T) : Prop := match st with
  | (v3, T) => pv_Ev xs L (d + 2) 130 (0, 0, 34, [some (.ref 94), some (.int v1), some (.int v2), some (.int v3)], [], pv_mm s T) r
def f130_text_b1_X (xs : Nat → Int32) (L d : Nat) (r : Option Value × pv_M) (s : pv_F) (v1 : Int32) (v2 : Int32) (st : Int32 × pv_T) : Prop := match st with
  | (v3, T) => ∀ z3 : Option Value, pv_Ev xs L (d + 2) 130 (0, 0, 59, [some (.ref 94), some (.int v1), some (.int v2), z3], [], pv_mm s T) r
def f130_text (x1 : Int32) (x2 : Int32) (T : pv_T) : Option (Int32 × pv_T) :=
  (f119_isText x1).bind fun q2 =>
  if q2 = 0 then
    some ((-1:Int32), T)
  else
    if x2 ≤ (80:Int32) then
      if 0 ≤ x2 then
        (pv_wm T 99 4 x1 x2).bind fun T6 =>
        (pv_lq (f130_text_b1 x1 x2) 20000 ((0:Int32), T6)).bind fun (w11, T12) =>
        some (x2, T12)
      else
        (f114_meet (5:Int32) T).bind fun (q16, T17) =>
        some (q16, T17)
    else
      some ((-1:Int32), T)
theorem f130_text_b1_ok {xs : Nat → Int32} {L d : Nat} {r : Option Value × pv_M} {s : pv_F} {v1 : Int32} {v2 : Int32} (st : Int32 × pv_T) (o : (Int32 × pv_T) ⊕ (Int32 × pv_T)) (h : f130_text_b1 v1 v2 st = some o) (hK : pv_Kq (f130_text_b1_H xs L d r s v1 v2) (f130_text_b1_X xs L d r s v1 v2) o) : f130_text_b1_H xs L d r s v1 v2 st := by
  obtain ⟨v3, T⟩ := st
  show pv_Ev xs L (d + 2) 130 (0, 0, 34, [some (.ref 94), some (.int v1), some (.int v2), some (.int v3)], [], pv_mm s T) r
  unfold f130_text_b1 at h
  dsimp only at h
  refine pv_e_bk (ps := [(34, .iload_n 3, 1), (35, .bipush 80, 2)]) (t' := (0, 0, 37, [some (.ref 94), some (.int v1), some (.int v2), some (.int v3)], [.int (80:Int32), .int v3], pv_mm s T)) (by decide +kernel) rfl ?_
  refine pv_e_icmpge (off := 22) (b := 59) (pc' := 40) (by decide +kernel) (by decide +kernel) rfl (fun c8 => ?_) (fun c8 => ?_)
  · rw [if_pos c8] at h
    obtain rfl := Option.some.inj h
    exact hK _
  · rw [if_neg c8] at h
    refine pv_e_bk (ps := [(40, .aload_n 0, 1)]) (t' := (0, 0, 41, [some (.ref 94), some (.int v1), some (.int v2), some (.int v3)], [.ref 94], pv_mm s T)) (by decide +kernel) rfl ?_
    refine pv_e_gr (i := 25) (ci := 6) (j := 7) (b := 100) (pc' := 44) (by decide +kernel) rfl rfl rfl ?_
    refine pv_e_bk (ps := [(44, .bipush 80, 2), (46, .iload_n 1, 1), (47, .imul, 1), (48, .iload_n 3, 1), (49, .iadd, 1), (50, .bipush 32, 2)]) (t' := (0, 0, 52, [some (.ref 94), some (.int v1), some (.int v2), some (.int v3)], [.int (32:Int32), .int (((80:Int32) * v1) + v3), .ref 100], pv_mm s T)) (by decide +kernel) rfl ?_
    obtain ⟨T9, e10, h⟩ := Option.bind_eq_some_iff.mp h
    refine pv_e_wm (pc' := 53) (by decide +kernel) (by decide) rfl e10 rfl ?_
    refine pv_e_bk (ps := [(53, .iinc 3 1, 3), (56, .goto (-22), 3)]) (t' := (0, 0, 34, [some (.ref 94), some (.int v1), some (.int v2), some (.int (v3 + (1:Int32)))], [], pv_mm s T9)) (by decide +kernel) rfl ?_
    obtain rfl := Option.some.inj h
    exact hK
theorem ee130 {xs : Nat → Int32} {L : Nat} (d : Nat) (x1 : Int32) (x2 : Int32) {s : pv_F} {T : pv_T} {q : Int32 × pv_T}  (h : f130_text x1 x2 T = some q) : pv_Ev xs L (d + 2) 130 (0, 0, 0, [some (.ref 94), some (.int x1), some (.int x2), none], [], pv_mm s T) (some (.int q.1), pv_mm s q.2) := by
  generalize hr : ((some (.int q.1), pv_mm s q.2) : Option Value × pv_M) = r
  unfold f130_text at h
  refine pv_e_bk (ps := [(0, .iload_n 1, 1)]) (t' := (0, 0, 1, [some (.ref 94), some (.int x1), some (.int x2), none], [.int x1], pv_mm s T)) (by decide +kernel) rfl ?_
  obtain ⟨q2, e1, h⟩ := Option.bind_eq_some_iff.mp h
  refine pv_e_csi (d := d + 1) (i := 95) (z := 119) (np := 1) (ml := 1) (As := [.int x1]) (rs := []) (pc' := 4) (by decide +kernel) rfl rfl rfl (Nat.le_of_ble_eq_true rfl) (Nat.le_of_ble_eq_true rfl) rfl (ee119 (d + 0) x1 e1) ?_
  refine pv_e_ifeq (off := 9) (b := 13) (pc' := 7) (by decide +kernel) (by decide +kernel) rfl (fun c3 => ?_) (fun c3 => ?_)
  · rw [if_pos c3] at h
    refine pv_e_bk (ps := [(13, .iconst (-1), 1)]) (t' := (0, 0, 14, [some (.ref 94), some (.int x1), some (.int x2), none], [.int (-1:Int32)], pv_mm s T)) (by decide +kernel) rfl ?_
    obtain rfl := Option.some.inj h
    cases hr
    exact pv_e_ri (by decide +kernel)
  · rw [if_neg c3] at h
    refine pv_e_bk (ps := [(7, .iload_n 2, 1), (8, .bipush 80, 2)]) (t' := (0, 0, 10, [some (.ref 94), some (.int x1), some (.int x2), none], [.int (80:Int32), .int x2], pv_mm s T)) (by decide +kernel) rfl ?_
    refine pv_e_icmple (off := 5) (b := 15) (pc' := 13) (by decide +kernel) (by decide +kernel) rfl (fun c4 => ?_) (fun c4 => ?_)
    · rw [if_pos c4] at h
      refine pv_e_bk (ps := [(15, .iload_n 2, 1)]) (t' := (0, 0, 16, [some (.ref 94), some (.int x1), some (.int x2), none], [.int x2], pv_mm s T)) (by decide +kernel) rfl ?_
      refine pv_e_ifge (off := 9) (b := 25) (pc' := 19) (by decide +kernel) (by decide +kernel) rfl (fun c5 => ?_) (fun c5 => ?_)
      · rw [if_pos c5] at h
        refine pv_e_bk (ps := [(25, .aload_n 0, 1)]) (t' := (0, 0, 26, [some (.ref 94), some (.int x1), some (.int x2), none], [.ref 94], pv_mm s T)) (by decide +kernel) rfl ?_
        refine pv_e_gr (i := 22) (ci := 6) (j := 6) (b := 99) (pc' := 29) (by decide +kernel) rfl rfl rfl ?_
        refine pv_e_bk (ps := [(29, .iload_n 1, 1), (30, .iload_n 2, 1)]) (t' := (0, 0, 31, [some (.ref 94), some (.int x1), some (.int x2), none], [.int x2, .int x1, .ref 99], pv_mm s T)) (by decide +kernel) rfl ?_
        obtain ⟨T6, e7, h⟩ := Option.bind_eq_some_iff.mp h
        refine pv_e_wm (pc' := 32) (by decide +kernel) (by decide) rfl e7 rfl ?_
        refine pv_e_bk (ps := [(32, .iconst 0, 1), (33, .istore_n 3, 1)]) (t' := (0, 0, 34, [some (.ref 94), some (.int x1), some (.int x2), some (.int (0:Int32))], [], pv_mm s T6)) (by decide +kernel) rfl ?_
        obtain ⟨⟨w11, T12⟩, e14, h⟩ := Option.bind_eq_some_iff.mp h
        dsimp only at h
        have hx13 : f130_text_b1_X xs L d r s x1 x2 (w11, T12) := by
          show ∀ z3 : Option Value, pv_Ev xs L (d + 2) 130 (0, 0, 59, [some (.ref 94), some (.int x1), some (.int x2), z3], [], pv_mm s T12) r
          intro z3
          refine pv_e_bk (ps := [(59, .iload_n 2, 1)]) (t' := (0, 0, 60, [some (.ref 94), some (.int x1), some (.int x2), z3], [.int x2], pv_mm s T12)) (by decide +kernel) rfl ?_
          obtain rfl := Option.some.inj h
          cases hr
          exact pv_e_ri (by decide +kernel)
        exact pv_lq_ok (H := f130_text_b1_H xs L d r s x1 x2) (X := f130_text_b1_X xs L d r s x1 x2) (f130_text_b1_ok (xs := xs) (L := L) (d := d) (r := r) (s := s) (v1 := x1) (v2 := x2)) 20000 _ _ e14 hx13
      · rw [if_neg c5] at h
        refine pv_e_bk (ps := [(19, .aload_n 0, 1), (20, .iconst 5, 1)]) (t' := (0, 0, 21, [some (.ref 94), some (.int x1), some (.int x2), none], [.int (5:Int32), .ref 94], pv_mm s T)) (by decide +kernel) rfl ?_
        obtain ⟨⟨q16, T17⟩, e15, h⟩ := Option.bind_eq_some_iff.mp h
        dsimp only at h
        refine pv_e_cvi (d := d + 1) (i := 91) (z := 114) (np := 1) (ml := 2) (ci := 6) (As := [.int (5:Int32)]) (rs := []) (pc' := 24) (by decide +kernel) rfl rfl rfl rfl (Nat.le_of_ble_eq_true rfl) (Nat.le_of_ble_eq_true rfl) rfl (ee114 (d + 1) (5:Int32) e15) ?_
        obtain rfl := Option.some.inj h
        cases hr
        exact pv_e_ri (by decide +kernel)
    · rw [if_neg c4] at h
      refine pv_e_bk (ps := [(13, .iconst (-1), 1)]) (t' := (0, 0, 14, [some (.ref 94), some (.int x1), some (.int x2), none], [.int (-1:Int32)], pv_mm s T)) (by decide +kernel) rfl ?_
      obtain rfl := Option.some.inj h
      cases hr
      exact pv_e_ri (by decide +kernel)
def f131_put (x1 : Int32) (x2 : Int32) (x3 : Int32) (T : pv_T) : Option (Int32 × pv_T) :=
  (f121_askedText x1 T).bind fun (q2, T3) =>
  if 0 ≤ q2 then
    (pv_rd T3.1 99 4 x1).bind fun q5 =>
    (f113_in x2 (0:Int32) (q5 - (1:Int32))).bind fun q8 =>
    if q8 = 0 then
      (f114_meet (2:Int32) T3).bind fun (q11, T12) =>
      some (q11, T12)
    else
      (pv_rd T3.1 100 320 (((80:Int32) * x1) + x2)).bind fun q13 =>
      (pv_wm T3 100 320 (((80:Int32) * x1) + x2) x3.toInt8.toInt32).bind fun T15 =>
      some (q13 + (1000:Int32), T15)
  else
    some (q2, T3)
theorem ee131 {xs : Nat → Int32} {L : Nat} (d : Nat) (x1 : Int32) (x2 : Int32) (x3 : Int32) {s : pv_F} {T : pv_T} {q : Int32 × pv_T}  (h : f131_put x1 x2 x3 T = some q) : pv_Ev xs L (d + 3) 131 (0, 0, 0, [some (.ref 94), some (.int x1), some (.int x2), some (.int x3), none, none], [], pv_mm s T) (some (.int q.1), pv_mm s q.2) := by
  generalize hr : ((some (.int q.1), pv_mm s q.2) : Option Value × pv_M) = r
  unfold f131_put at h
  refine pv_e_bk (ps := [(0, .aload_n 0, 1), (1, .iload_n 1, 1)]) (t' := (0, 0, 2, [some (.ref 94), some (.int x1), some (.int x2), some (.int x3), none, none], [.int x1, .ref 94], pv_mm s T)) (by decide +kernel) rfl ?_
  obtain ⟨⟨q2, T3⟩, e1, h⟩ := Option.bind_eq_some_iff.mp h
  dsimp only at h
  refine pv_e_cvi (d := d + 2) (i := 115) (z := 121) (np := 1) (ml := 2) (ci := 6) (As := [.int x1]) (rs := []) (pc' := 5) (by decide +kernel) rfl rfl rfl rfl (Nat.le_of_ble_eq_true rfl) (Nat.le_of_ble_eq_true rfl) rfl (ee121 (d + 0) x1 e1) ?_
  refine pv_e_bk (ps := [(5, .istore 4, 2), (7, .iload 4, 2)]) (t' := (0, 0, 9, [some (.ref 94), some (.int x1), some (.int x2), some (.int x3), some (.int q2), none], [.int q2], pv_mm s T3)) (by decide +kernel) rfl ?_
  refine pv_e_ifge (off := 6) (b := 15) (pc' := 12) (by decide +kernel) (by decide +kernel) rfl (fun c4 => ?_) (fun c4 => ?_)
  · rw [if_pos c4] at h
    refine pv_e_bk (ps := [(15, .iload_n 2, 1), (16, .iconst 0, 1), (17, .aload_n 0, 1)]) (t' := (0, 0, 18, [some (.ref 94), some (.int x1), some (.int x2), some (.int x3), some (.int q2), none], [.ref 94, .int (0:Int32), .int x2], pv_mm s T3)) (by decide +kernel) rfl ?_
    refine pv_e_gr (i := 22) (ci := 6) (j := 6) (b := 99) (pc' := 21) (by decide +kernel) rfl rfl rfl ?_
    refine pv_e_bk (ps := [(21, .iload_n 1, 1)]) (t' := (0, 0, 22, [some (.ref 94), some (.int x1), some (.int x2), some (.int x3), some (.int q2), none], [.int x1, .ref 99, .int (0:Int32), .int x2], pv_mm s T3)) (by decide +kernel) rfl ?_
    obtain ⟨q5, e6, h⟩ := Option.bind_eq_some_iff.mp h
    refine pv_e_rm (pc' := 23) (by decide +kernel) (by decide) rfl e6 rfl ?_
    refine pv_e_bk (ps := [(23, .iconst 1, 1), (24, .isub, 1)]) (t' := (0, 0, 25, [some (.ref 94), some (.int x1), some (.int x2), some (.int x3), some (.int q2), none], [.int (q5 - (1:Int32)), .int (0:Int32), .int x2], pv_mm s T3)) (by decide +kernel) rfl ?_
    obtain ⟨q8, e7, h⟩ := Option.bind_eq_some_iff.mp h
    refine pv_e_csi (d := d + 2) (i := 83) (z := 113) (np := 3) (ml := 3) (As := [.int x2, .int (0:Int32), .int (q5 - (1:Int32))]) (rs := []) (pc' := 28) (by decide +kernel) rfl rfl rfl (Nat.le_of_ble_eq_true rfl) (Nat.le_of_ble_eq_true rfl) rfl (ee113 (d + 2) x2 (0:Int32) (q5 - (1:Int32)) e7) ?_
    refine pv_e_ifne (off := 9) (b := 37) (pc' := 31) (by decide +kernel) (by decide +kernel) rfl (fun c9 => ?_) (fun c9 => ?_)
    · rw [if_pos c9] at h
      refine pv_e_bk (ps := [(31, .aload_n 0, 1), (32, .iconst 2, 1)]) (t' := (0, 0, 33, [some (.ref 94), some (.int x1), some (.int x2), some (.int x3), some (.int q2), none], [.int (2:Int32), .ref 94], pv_mm s T3)) (by decide +kernel) rfl ?_
      obtain ⟨⟨q11, T12⟩, e10, h⟩ := Option.bind_eq_some_iff.mp h
      dsimp only at h
      refine pv_e_cvi (d := d + 2) (i := 91) (z := 114) (np := 1) (ml := 2) (ci := 6) (As := [.int (2:Int32)]) (rs := []) (pc' := 36) (by decide +kernel) rfl rfl rfl rfl (Nat.le_of_ble_eq_true rfl) (Nat.le_of_ble_eq_true rfl) rfl (ee114 (d + 2) (2:Int32) e10) ?_
      obtain rfl := Option.some.inj h
      cases hr
      exact pv_e_ri (by decide +kernel)
    · rw [if_neg c9] at h
      refine pv_e_bk (ps := [(37, .aload_n 0, 1)]) (t' := (0, 0, 38, [some (.ref 94), some (.int x1), some (.int x2), some (.int x3), some (.int q2), none], [.ref 94], pv_mm s T3)) (by decide +kernel) rfl ?_
      refine pv_e_gr (i := 25) (ci := 6) (j := 7) (b := 100) (pc' := 41) (by decide +kernel) rfl rfl rfl ?_
      refine pv_e_bk (ps := [(41, .bipush 80, 2), (43, .iload_n 1, 1), (44, .imul, 1), (45, .iload_n 2, 1), (46, .iadd, 1)]) (t' := (0, 0, 47, [some (.ref 94), some (.int x1), some (.int x2), some (.int x3), some (.int q2), none], [.int (((80:Int32) * x1) + x2), .ref 100], pv_mm s T3)) (by decide +kernel) rfl ?_
      obtain ⟨q13, e14, h⟩ := Option.bind_eq_some_iff.mp h
      refine pv_e_rm (pc' := 48) (by decide +kernel) (by decide) rfl e14 rfl ?_
      refine pv_e_bk (ps := [(48, .istore 5, 2), (50, .aload_n 0, 1)]) (t' := (0, 0, 51, [some (.ref 94), some (.int x1), some (.int x2), some (.int x3), some (.int q2), some (.int q13)], [.ref 94], pv_mm s T3)) (by decide +kernel) rfl ?_
      refine pv_e_gr (i := 25) (ci := 6) (j := 7) (b := 100) (pc' := 54) (by decide +kernel) rfl rfl rfl ?_
      refine pv_e_bk (ps := [(54, .bipush 80, 2), (56, .iload_n 1, 1), (57, .imul, 1), (58, .iload_n 2, 1), (59, .iadd, 1), (60, .iload_n 3, 1), (61, .i2b, 1)]) (t' := (0, 0, 62, [some (.ref 94), some (.int x1), some (.int x2), some (.int x3), some (.int q2), some (.int q13)], [.int x3.toInt8.toInt32, .int (((80:Int32) * x1) + x2), .ref 100], pv_mm s T3)) (by decide +kernel) rfl ?_
      obtain ⟨T15, e16, h⟩ := Option.bind_eq_some_iff.mp h
      refine pv_e_wm (pc' := 63) (by decide +kernel) (by decide) rfl e16 rfl ?_
      refine pv_e_bk (ps := [(63, .iload 5, 2), (65, .sipush 1000, 3), (68, .iadd, 1)]) (t' := (0, 0, 69, [some (.ref 94), some (.int x1), some (.int x2), some (.int x3), some (.int q2), some (.int q13)], [.int (q13 + (1000:Int32))], pv_mm s T15)) (by decide +kernel) rfl ?_
      obtain rfl := Option.some.inj h
      cases hr
      exact pv_e_ri (by decide +kernel)
  · rw [if_neg c4] at h
    refine pv_e_bk (ps := [(12, .iload 4, 2)]) (t' := (0, 0, 14, [some (.ref 94), some (.int x1), some (.int x2), some (.int x3), some (.int q2), none], [.int q2], pv_mm s T3)) (by decide +kernel) rfl ?_
    obtain rfl := Option.some.inj h
    cases hr
    exact pv_e_ri (by decide +kernel)
def f132_here (x1 : Int32) (T : pv_T) : Option (Int32) :=
  (pv_rd T.1 99 4 x1).bind fun q1 =>
  ((
    if q1 ≤ (T.1 94 12) then
      some (-9:Int32)
    else
      (pv_rd T.1 100 320 (((80:Int32) * x1) + (T.1 94 12))).bind fun q7 =>
      some q7) : Option (Int32)).bind fun t3 =>
  some t3
theorem ee132 {xs : Nat → Int32} {L : Nat} (d : Nat) (x1 : Int32) {s : pv_F} {T : pv_T} {q : Int32}  (h : f132_here x1 T = some q) : pv_Ev xs L (d + 0) 132 (0, 0, 0, [some (.ref 94), some (.int x1)], [], pv_mm s T) (some (.int q), pv_mm s T) := by
  generalize hr : ((some (.int q), pv_mm s T) : Option Value × pv_M) = r
  unfold f132_here at h
  refine pv_e_bk (ps := [(0, .aload_n 0, 1)]) (t' := (0, 0, 1, [some (.ref 94), some (.int x1)], [.ref 94], pv_mm s T)) (by decide +kernel) rfl ?_
  refine pv_e_gm (i := 118) (ci := 6) (j := 12) (pc' := 4) (by decide +kernel) (by decide) rfl rfl rfl ?_
  refine pv_e_bk (ps := [(4, .aload_n 0, 1)]) (t' := (0, 0, 5, [some (.ref 94), some (.int x1)], [.ref 94, .int (T.1 94 12)], pv_mm s T)) (by decide +kernel) rfl ?_
  refine pv_e_gr (i := 22) (ci := 6) (j := 6) (b := 99) (pc' := 8) (by decide +kernel) rfl rfl rfl ?_
  refine pv_e_bk (ps := [(8, .iload_n 1, 1)]) (t' := (0, 0, 9, [some (.ref 94), some (.int x1)], [.int x1, .ref 99, .int (T.1 94 12)], pv_mm s T)) (by decide +kernel) rfl ?_
  obtain ⟨q1, e2, h⟩ := Option.bind_eq_some_iff.mp h
  refine pv_e_rm (pc' := 10) (by decide +kernel) (by decide) rfl e2 rfl ?_
  obtain ⟨t3, hv4, h⟩ := Option.bind_eq_some_iff.mp h
  have hJ5 : pv_Ev xs L (d + 0) 132 (0, 0, 32, [some (.ref 94), some (.int x1)], [.int t3], pv_mm s T) r := by
    obtain rfl := Option.some.inj h
    cases hr
    exact pv_e_ri (by decide +kernel)
  clear h
  have h := hv4
  clear hv4
  refine pv_e_icmpge (off := 20) (b := 30) (pc' := 13) (by decide +kernel) (by decide +kernel) rfl (fun c6 => ?_) (fun c6 => ?_)
  · rw [if_pos c6] at h
    refine pv_e_bk (ps := [(30, .bipush (-9), 2)]) (t' := (0, 0, 32, [some (.ref 94), some (.int x1)], [.int (-9:Int32)], pv_mm s T)) (by decide +kernel) rfl ?_
    obtain rfl := Option.some.inj h
    exact hJ5
  · rw [if_neg c6] at h
    refine pv_e_bk (ps := [(13, .aload_n 0, 1)]) (t' := (0, 0, 14, [some (.ref 94), some (.int x1)], [.ref 94], pv_mm s T)) (by decide +kernel) rfl ?_
    refine pv_e_gr (i := 25) (ci := 6) (j := 7) (b := 100) (pc' := 17) (by decide +kernel) rfl rfl rfl ?_
    refine pv_e_bk (ps := [(17, .bipush 80, 2), (19, .iload_n 1, 1), (20, .imul, 1), (21, .aload_n 0, 1)]) (t' := (0, 0, 22, [some (.ref 94), some (.int x1)], [.ref 94, .int ((80:Int32) * x1), .ref 100], pv_mm s T)) (by decide +kernel) rfl ?_
    refine pv_e_gm (i := 118) (ci := 6) (j := 12) (pc' := 25) (by decide +kernel) (by decide) rfl rfl rfl ?_
    refine pv_e_bk (ps := [(25, .iadd, 1)]) (t' := (0, 0, 26, [some (.ref 94), some (.int x1)], [.int (((80:Int32) * x1) + (T.1 94 12)), .ref 100], pv_mm s T)) (by decide +kernel) rfl ?_
    obtain ⟨q7, e8, h⟩ := Option.bind_eq_some_iff.mp h
    refine pv_e_rm (pc' := 27) (by decide +kernel) (by decide) rfl e8 rfl ?_
    refine pv_e_bk (ps := [(27, .goto 5, 3)]) (t' := (0, 0, 32, [some (.ref 94), some (.int x1)], [.int q7], pv_mm s T)) (by decide +kernel) rfl ?_
    obtain rfl := Option.some.inj h
    exact hJ5
def f133_isLetter (x0 : Int32) : Option (Int32) :=
  (f113_in x0 (97:Int32) (122:Int32)).bind fun q2 =>
  (pv_bl q2).bind fun q3 => some q3
theorem ee133 {xs : Nat → Int32} {L : Nat} (d : Nat) (x0 : Int32) {M : pv_M} {q : Int32}  (h : f133_isLetter x0 = some q) : pv_Ev xs L (d + 1) 133 (0, 0, 0, [some (.int x0)], [], M) (some (.int q), M) := by
  generalize hr : ((some (.int q), M) : Option Value × pv_M) = r
  unfold f133_isLetter at h
  refine pv_e_bk (ps := [(0, .iload_n 0, 1), (1, .bipush 97, 2), (3, .bipush 122, 2)]) (t' := (0, 0, 5, [some (.int x0)], [.int (122:Int32), .int (97:Int32), .int x0], M)) (by decide +kernel) rfl ?_
  obtain ⟨q2, e1, h⟩ := Option.bind_eq_some_iff.mp h
  refine pv_e_csi (d := d + 0) (i := 83) (z := 113) (np := 3) (ml := 3) (As := [.int x0, .int (97:Int32), .int (122:Int32)]) (rs := []) (pc' := 8) (by decide +kernel) rfl rfl rfl (Nat.le_of_ble_eq_true rfl) (Nat.le_of_ble_eq_true rfl) rfl (ee113 (d + 0) x0 (97:Int32) (122:Int32) e1) ?_
  obtain ⟨q3, e4, h⟩ := Option.bind_eq_some_iff.mp h
  obtain rfl := Option.some.inj h
  cases hr
  exact pv_e_rz (by decide +kernel) e4
def f134_isVowel (x0 : Int32) : Option (Int32) :=
  ((
    if x0 = (97:Int32) then
      some (1:Int32)
    else
      if x0 = (101:Int32) then
        some (1:Int32)
      else
        if x0 = (105:Int32) then
          some (1:Int32)
        else
          if x0 = (111:Int32) then
            some (1:Int32)
          else
            if x0 = (117:Int32) then
              some (1:Int32)
            else
              some (0:Int32)) : Option (Int32)).bind fun t1 =>
  (pv_bl t1).bind fun q2 => some q2
theorem ee134 {xs : Nat → Int32} {L : Nat} (d : Nat) (x0 : Int32) {M : pv_M} {q : Int32}  (h : f134_isVowel x0 = some q) : pv_Ev xs L (d + 0) 134 (0, 0, 0, [some (.int x0)], [], M) (some (.int q), M) := by
  generalize hr : ((some (.int q), M) : Option Value × pv_M) = r
  unfold f134_isVowel at h
  refine pv_e_bk (ps := [(0, .iload_n 0, 1), (1, .bipush 97, 2)]) (t' := (0, 0, 3, [some (.int x0)], [.int (97:Int32), .int x0], M)) (by decide +kernel) rfl ?_
  obtain ⟨t1, hv4, h⟩ := Option.bind_eq_some_iff.mp h
  have hJ5 : pv_Ev xs L (d + 0) 134 (0, 0, 35, [some (.int x0)], [.int t1], M) r := by
    obtain ⟨q2, e3, h⟩ := Option.bind_eq_some_iff.mp h
    obtain rfl := Option.some.inj h
    cases hr
    exact pv_e_rz (by decide +kernel) e3
  clear h
  have h := hv4
  clear hv4
  refine pv_e_icmpeq (off := 27) (b := 30) (pc' := 6) (by decide +kernel) (by decide +kernel) rfl (fun c6 => ?_) (fun c6 => ?_)
  · rw [if_pos c6] at h
    refine pv_e_bk (ps := [(30, .iconst 1, 1), (31, .goto 4, 3)]) (t' := (0, 0, 35, [some (.int x0)], [.int (1:Int32)], M)) (by decide +kernel) rfl ?_
    obtain rfl := Option.some.inj h
    exact hJ5
  · rw [if_neg c6] at h
    refine pv_e_bk (ps := [(6, .iload_n 0, 1), (7, .bipush 101, 2)]) (t' := (0, 0, 9, [some (.int x0)], [.int (101:Int32), .int x0], M)) (by decide +kernel) rfl ?_
    refine pv_e_icmpeq (off := 21) (b := 30) (pc' := 12) (by decide +kernel) (by decide +kernel) rfl (fun c7 => ?_) (fun c7 => ?_)
    · rw [if_pos c7] at h
      refine pv_e_bk (ps := [(30, .iconst 1, 1), (31, .goto 4, 3)]) (t' := (0, 0, 35, [some (.int x0)], [.int (1:Int32)], M)) (by decide +kernel) rfl ?_
      obtain rfl := Option.some.inj h
      exact hJ5
    · rw [if_neg c7] at h
      refine pv_e_bk (ps := [(12, .iload_n 0, 1), (13, .bipush 105, 2)]) (t' := (0, 0, 15, [some (.int x0)], [.int (105:Int32), .int x0], M)) (by decide +kernel) rfl ?_
      refine pv_e_icmpeq (off := 15) (b := 30) (pc' := 18) (by decide +kernel) (by decide +kernel) rfl (fun c8 => ?_) (fun c8 => ?_)
      · rw [if_pos c8] at h
        refine pv_e_bk (ps := [(30, .iconst 1, 1), (31, .goto 4, 3)]) (t' := (0, 0, 35, [some (.int x0)], [.int (1:Int32)], M)) (by decide +kernel) rfl ?_
        obtain rfl := Option.some.inj h
        exact hJ5
      · rw [if_neg c8] at h
        refine pv_e_bk (ps := [(18, .iload_n 0, 1), (19, .bipush 111, 2)]) (t' := (0, 0, 21, [some (.int x0)], [.int (111:Int32), .int x0], M)) (by decide +kernel) rfl ?_
        refine pv_e_icmpeq (off := 9) (b := 30) (pc' := 24) (by decide +kernel) (by decide +kernel) rfl (fun c9 => ?_) (fun c9 => ?_)
        · rw [if_pos c9] at h
          refine pv_e_bk (ps := [(30, .iconst 1, 1), (31, .goto 4, 3)]) (t' := (0, 0, 35, [some (.int x0)], [.int (1:Int32)], M)) (by decide +kernel) rfl ?_
          obtain rfl := Option.some.inj h
          exact hJ5
        · rw [if_neg c9] at h
          refine pv_e_bk (ps := [(24, .iload_n 0, 1), (25, .bipush 117, 2)]) (t' := (0, 0, 27, [some (.int x0)], [.int (117:Int32), .int x0], M)) (by decide +kernel) rfl ?_
          refine pv_e_icmpne (off := 7) (b := 34) (pc' := 30) (by decide +kernel) (by decide +kernel) rfl (fun c10 => ?_) (fun c10 => ?_)
          · rw [if_pos c10] at h
            refine pv_e_bk (ps := [(30, .iconst 1, 1), (31, .goto 4, 3)]) (t' := (0, 0, 35, [some (.int x0)], [.int (1:Int32)], M)) (by decide +kernel) rfl ?_
            obtain rfl := Option.some.inj h
            exact hJ5
          · rw [if_neg c10] at h
            refine pv_e_bk (ps := [(34, .iconst 0, 1)]) (t' := (0, 0, 35, [some (.int x0)], [.int (0:Int32)], M)) (by decide +kernel) rfl ?_
            obtain rfl := Option.some.inj h
            exact hJ5
