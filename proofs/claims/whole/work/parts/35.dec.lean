-- printed by wip/whole/gen/parts.py: methods as functions over the ints of the memory, and that the pure machine runs so
def f152_mayCall (x1 : Int32) (x2 : Int32) (T : pv_T) : Option (Int32) :=
  ((
    if x1 = x2 then
      some (0:Int32)
    else
      (pv_rd T.1 101 7 x1).bind fun q7 =>
      if q7 = (3:Int32) then
        some (0:Int32)
      else
        (pv_rd T.1 101 7 x2).bind fun q10 =>
        if q10 = (3:Int32) then
          some (0:Int32)
        else
          (f142_lenOf x2 T).bind fun q14 =>
          if q14 ≤ 0 then
            some (0:Int32)
          else
            some (1:Int32)) : Option (Int32)).bind fun t1 =>
  (pv_bl t1).bind fun q2 => some q2
theorem ee152 {xs : Nat → Int32} {L : Nat} (d : Nat) (x1 : Int32) (x2 : Int32) {s : pv_F} {T : pv_T} {q : Int32}  (h : f152_mayCall x1 x2 T = some q) : pv_Ev xs L (d + 1) 152 (0, 0, 0, [some (.ref 94), some (.int x1), some (.int x2)], [], pv_mm s T) (some (.int q), pv_mm s T) := by
  generalize hr : ((some (.int q), pv_mm s T) : Option Value × pv_M) = r
  unfold f152_mayCall at h
  refine pv_e_bk (ps := [(0, .iload_n 1, 1), (1, .iload_n 2, 1)]) (t' := (0, 0, 2, [some (.ref 94), some (.int x1), some (.int x2)], [.int x2, .int x1], pv_mm s T)) (by decide +kernel) rfl ?_
  obtain ⟨t1, hv4, h⟩ := Option.bind_eq_some_iff.mp h
  have hJ5 : pv_Ev xs L (d + 1) 152 (0, 0, 38, [some (.ref 94), some (.int x1), some (.int x2)], [.int t1], pv_mm s T) r := by
    obtain ⟨q2, e3, h⟩ := Option.bind_eq_some_iff.mp h
    obtain rfl := Option.some.inj h
    cases hr
    exact pv_e_rz (by decide +kernel) e3
  clear h
  have h := hv4
  clear hv4
  refine pv_e_icmpeq (off := 35) (b := 37) (pc' := 5) (by decide +kernel) (by decide +kernel) rfl (fun c6 => ?_) (fun c6 => ?_)
  · rw [if_pos c6] at h
    refine pv_e_bk (ps := [(37, .iconst 0, 1)]) (t' := (0, 0, 38, [some (.ref 94), some (.int x1), some (.int x2)], [.int (0:Int32)], pv_mm s T)) (by decide +kernel) rfl ?_
    obtain rfl := Option.some.inj h
    exact hJ5
  · rw [if_neg c6] at h
    refine pv_e_bk (ps := [(5, .aload_n 0, 1)]) (t' := (0, 0, 6, [some (.ref 94), some (.int x1), some (.int x2)], [.ref 94], pv_mm s T)) (by decide +kernel) rfl ?_
    refine pv_e_gr (i := 32) (ci := 6) (j := 11) (b := 101) (pc' := 9) (by decide +kernel) rfl rfl rfl ?_
    refine pv_e_bk (ps := [(9, .iload_n 1, 1)]) (t' := (0, 0, 10, [some (.ref 94), some (.int x1), some (.int x2)], [.int x1, .ref 101], pv_mm s T)) (by decide +kernel) rfl ?_
    obtain ⟨q7, e8, h⟩ := Option.bind_eq_some_iff.mp h
    refine pv_e_rm (pc' := 11) (by decide +kernel) (by decide) rfl e8 rfl ?_
    refine pv_e_bk (ps := [(11, .iconst 3, 1)]) (t' := (0, 0, 12, [some (.ref 94), some (.int x1), some (.int x2)], [.int (3:Int32), .int q7], pv_mm s T)) (by decide +kernel) rfl ?_
    refine pv_e_icmpeq (off := 25) (b := 37) (pc' := 15) (by decide +kernel) (by decide +kernel) rfl (fun c9 => ?_) (fun c9 => ?_)
    · rw [if_pos c9] at h
      refine pv_e_bk (ps := [(37, .iconst 0, 1)]) (t' := (0, 0, 38, [some (.ref 94), some (.int x1), some (.int x2)], [.int (0:Int32)], pv_mm s T)) (by decide +kernel) rfl ?_
      obtain rfl := Option.some.inj h
      exact hJ5
    · rw [if_neg c9] at h
      refine pv_e_bk (ps := [(15, .aload_n 0, 1)]) (t' := (0, 0, 16, [some (.ref 94), some (.int x1), some (.int x2)], [.ref 94], pv_mm s T)) (by decide +kernel) rfl ?_
      refine pv_e_gr (i := 32) (ci := 6) (j := 11) (b := 101) (pc' := 19) (by decide +kernel) rfl rfl rfl ?_
      refine pv_e_bk (ps := [(19, .iload_n 2, 1)]) (t' := (0, 0, 20, [some (.ref 94), some (.int x1), some (.int x2)], [.int x2, .ref 101], pv_mm s T)) (by decide +kernel) rfl ?_
      obtain ⟨q10, e11, h⟩ := Option.bind_eq_some_iff.mp h
      refine pv_e_rm (pc' := 21) (by decide +kernel) (by decide) rfl e11 rfl ?_
      refine pv_e_bk (ps := [(21, .iconst 3, 1)]) (t' := (0, 0, 22, [some (.ref 94), some (.int x1), some (.int x2)], [.int (3:Int32), .int q10], pv_mm s T)) (by decide +kernel) rfl ?_
      refine pv_e_icmpeq (off := 15) (b := 37) (pc' := 25) (by decide +kernel) (by decide +kernel) rfl (fun c12 => ?_) (fun c12 => ?_)
      · rw [if_pos c12] at h
        refine pv_e_bk (ps := [(37, .iconst 0, 1)]) (t' := (0, 0, 38, [some (.ref 94), some (.int x1), some (.int x2)], [.int (0:Int32)], pv_mm s T)) (by decide +kernel) rfl ?_
        obtain rfl := Option.some.inj h
        exact hJ5
      · rw [if_neg c12] at h
        refine pv_e_bk (ps := [(25, .aload_n 0, 1), (26, .iload_n 2, 1)]) (t' := (0, 0, 27, [some (.ref 94), some (.int x1), some (.int x2)], [.int x2, .ref 94], pv_mm s T)) (by decide +kernel) rfl ?_
        obtain ⟨q14, e13, h⟩ := Option.bind_eq_some_iff.mp h
        refine pv_e_cvi (d := d + 0) (i := 142) (z := 142) (np := 1) (ml := 2) (ci := 6) (As := [.int x2]) (rs := []) (pc' := 30) (by decide +kernel) rfl rfl rfl rfl (Nat.le_of_ble_eq_true rfl) (Nat.le_of_ble_eq_true rfl) rfl (ee142 (d + 0) x2 e13) ?_
        refine pv_e_ifle (off := 7) (b := 37) (pc' := 33) (by decide +kernel) (by decide +kernel) rfl (fun c15 => ?_) (fun c15 => ?_)
        · rw [if_pos c15] at h
          refine pv_e_bk (ps := [(37, .iconst 0, 1)]) (t' := (0, 0, 38, [some (.ref 94), some (.int x1), some (.int x2)], [.int (0:Int32)], pv_mm s T)) (by decide +kernel) rfl ?_
          obtain rfl := Option.some.inj h
          exact hJ5
        · rw [if_neg c15] at h
          refine pv_e_bk (ps := [(33, .iconst 1, 1), (34, .goto 4, 3)]) (t' := (0, 0, 38, [some (.ref 94), some (.int x1), some (.int x2)], [.int (1:Int32)], pv_mm s T)) (by decide +kernel) rfl ?_
          obtain rfl := Option.some.inj h
          exact hJ5
def f153_comers_b1 (v1 : Int32) (v2 : Int32) (T : pv_T) (st : Int32 × Int32) : Option ((Int32 × Int32) ⊕ (Int32 × Int32)) := match st with
  | (v3, v4) =>
    if (T.1 94 8) ≤ v4 then
      some (.inr (v3, v4))
    else
      (pv_rd T.1 101 7 v1).bind fun q2 =>
      ((
        if q2 = (5:Int32) then
          (f142_lenOf v4 T).bind fun q17 =>
          if q17 ≤ 0 then
            some (0:Int32)
          else
            (f143_letterOf v4 (0:Int32) T).bind fun q20 =>
            (f143_letterOf v2 (0:Int32) T).bind fun q22 =>
            if q20 = q22 then
              some (1:Int32)
            else
              some (0:Int32)
        else
          (f144_isLike v2 v4 T).bind fun q25 =>
          some q25) : Option (Int32)).bind fun t4 =>
      ((
        if v4 = v1 then
          some (0:Int32)
        else
          (pv_rd T.1 101 7 v4).bind fun q9 =>
          if q9 = (3:Int32) then
            some (0:Int32)
          else
            if t4 = 0 then
              some (0:Int32)
            else
              some ((1:Int32) <<< (v4 &&& 31))) : Option (Int32)).bind fun t5 =>
      some (.inl (v3 ||| t5, v4 + (1:Int32)))
def f153_comers_b1_H (xs : Nat → Int32) (L d : Nat) (r : Option Value × pv_M) (s : pv_F) (v1 : Int32) (v2 : Int32) (T : pv_T) (st : Int32 × Int32) : Prop := match st with
  | (v3, v4) => ∀ z5 : Option Value, pv_Ev xs L (d + 2) 153 (0, 0, 5, [some (.ref 94), some (.int v1), some (.int v2), some (.int v3), some (.int v4), z5], [], pv_mm s T) r
def f153_comers_b1_X (xs : Nat → Int32) (L d : Nat) (r : Option Value × pv_M) (s : pv_F) (v1 : Int32) (v2 : Int32) (T : pv_T) (st : Int32 × Int32) : Prop := match st with
  | (v3, v4) => ∀ z4 : Option Value, ∀ z5 : Option Value, pv_Ev xs L (d + 2) 153 (0, 0, 105, [some (.ref 94), some (.int v1), some (.int v2), some (.int v3), z4, z5], [], pv_mm s T) r
def f153_comers (x1 : Int32) (x2 : Int32) (T : pv_T) : Option (Int32) :=
  (pv_lq (f153_comers_b1 x1 x2 T) 20000 ((0:Int32), (0:Int32))).bind fun (w26, w27) =>
  some w26
theorem f153_comers_b1_ok {xs : Nat → Int32} {L d : Nat} {r : Option Value × pv_M} {s : pv_F} {v1 : Int32} {v2 : Int32} {T : pv_T} (st : Int32 × Int32) (o : (Int32 × Int32) ⊕ (Int32 × Int32)) (h : f153_comers_b1 v1 v2 T st = some o) (hK : pv_Kq (f153_comers_b1_H xs L d r s v1 v2 T) (f153_comers_b1_X xs L d r s v1 v2 T) o) : f153_comers_b1_H xs L d r s v1 v2 T st := by
  obtain ⟨v3, v4⟩ := st
  show ∀ z5 : Option Value, pv_Ev xs L (d + 2) 153 (0, 0, 5, [some (.ref 94), some (.int v1), some (.int v2), some (.int v3), some (.int v4), z5], [], pv_mm s T) r
  intro z5
  unfold f153_comers_b1 at h
  dsimp only at h
  refine pv_e_bk (ps := [(5, .iload 4, 2), (7, .aload_n 0, 1)]) (t' := (0, 0, 8, [some (.ref 94), some (.int v1), some (.int v2), some (.int v3), some (.int v4), z5], [.ref 94, .int v4], pv_mm s T)) (by decide +kernel) rfl ?_
  refine pv_e_gm (i := 136) (ci := 6) (j := 8) (pc' := 11) (by decide +kernel) (by decide) rfl rfl rfl ?_
  refine pv_e_icmpge (off := 94) (b := 105) (pc' := 14) (by decide +kernel) (by decide +kernel) rfl (fun c1 => ?_) (fun c1 => ?_)
  · rw [if_pos c1] at h
    obtain rfl := Option.some.inj h
    exact hK _ _
  · rw [if_neg c1] at h
    refine pv_e_bk (ps := [(14, .aload_n 0, 1)]) (t' := (0, 0, 15, [some (.ref 94), some (.int v1), some (.int v2), some (.int v3), some (.int v4), z5], [.ref 94], pv_mm s T)) (by decide +kernel) rfl ?_
    refine pv_e_gr (i := 32) (ci := 6) (j := 11) (b := 101) (pc' := 18) (by decide +kernel) rfl rfl rfl ?_
    refine pv_e_bk (ps := [(18, .iload_n 1, 1)]) (t' := (0, 0, 19, [some (.ref 94), some (.int v1), some (.int v2), some (.int v3), some (.int v4), z5], [.int v1, .ref 101], pv_mm s T)) (by decide +kernel) rfl ?_
    obtain ⟨q2, e3, h⟩ := Option.bind_eq_some_iff.mp h
    refine pv_e_rm (pc' := 20) (by decide +kernel) (by decide) rfl e3 rfl ?_
    refine pv_e_bk (ps := [(20, .iconst 5, 1)]) (t' := (0, 0, 21, [some (.ref 94), some (.int v1), some (.int v2), some (.int v3), some (.int v4), z5], [.int (5:Int32), .int q2], pv_mm s T)) (by decide +kernel) rfl ?_
    obtain ⟨t4, hv13, h⟩ := Option.bind_eq_some_iff.mp h
    have hJ14 : pv_Ev xs L (d + 2) 153 (0, 0, 64, [some (.ref 94), some (.int v1), some (.int v2), some (.int v3), some (.int v4), z5], [.int t4], pv_mm s T) r := by
      refine pv_e_bk (ps := [(64, .istore 5, 2), (66, .iload_n 3, 1), (67, .iload 4, 2), (69, .iload_n 1, 1)]) (t' := (0, 0, 70, [some (.ref 94), some (.int v1), some (.int v2), some (.int v3), some (.int v4), some (.int t4)], [.int v1, .int v4, .int v3], pv_mm s T)) (by decide +kernel) rfl ?_
      obtain ⟨t5, hv6, h⟩ := Option.bind_eq_some_iff.mp h
      have hJ7 : pv_Ev xs L (d + 2) 153 (0, 0, 97, [some (.ref 94), some (.int v1), some (.int v2), some (.int v3), some (.int v4), some (.int t4)], [.int t5, .int v3], pv_mm s T) r := by
        refine pv_e_bk (ps := [(97, .ior, 1), (98, .istore_n 3, 1), (99, .iinc 4 1, 3), (102, .goto (-97), 3)]) (t' := (0, 0, 5, [some (.ref 94), some (.int v1), some (.int v2), some (.int (v3 ||| t5)), some (.int (v4 + (1:Int32))), some (.int t4)], [], pv_mm s T)) (by decide +kernel) rfl ?_
        obtain rfl := Option.some.inj h
        exact hK _
      clear h
      have h := hv6
      clear hv6
      refine pv_e_icmpeq (off := 26) (b := 96) (pc' := 73) (by decide +kernel) (by decide +kernel) rfl (fun c8 => ?_) (fun c8 => ?_)
      · rw [if_pos c8] at h
        refine pv_e_bk (ps := [(96, .iconst 0, 1)]) (t' := (0, 0, 97, [some (.ref 94), some (.int v1), some (.int v2), some (.int v3), some (.int v4), some (.int t4)], [.int (0:Int32), .int v3], pv_mm s T)) (by decide +kernel) rfl ?_
        obtain rfl := Option.some.inj h
        exact hJ7
      · rw [if_neg c8] at h
        refine pv_e_bk (ps := [(73, .aload_n 0, 1)]) (t' := (0, 0, 74, [some (.ref 94), some (.int v1), some (.int v2), some (.int v3), some (.int v4), some (.int t4)], [.ref 94, .int v3], pv_mm s T)) (by decide +kernel) rfl ?_
        refine pv_e_gr (i := 32) (ci := 6) (j := 11) (b := 101) (pc' := 77) (by decide +kernel) rfl rfl rfl ?_
        refine pv_e_bk (ps := [(77, .iload 4, 2)]) (t' := (0, 0, 79, [some (.ref 94), some (.int v1), some (.int v2), some (.int v3), some (.int v4), some (.int t4)], [.int v4, .ref 101, .int v3], pv_mm s T)) (by decide +kernel) rfl ?_
        obtain ⟨q9, e10, h⟩ := Option.bind_eq_some_iff.mp h
        refine pv_e_rm (pc' := 80) (by decide +kernel) (by decide) rfl e10 rfl ?_
        refine pv_e_bk (ps := [(80, .iconst 3, 1)]) (t' := (0, 0, 81, [some (.ref 94), some (.int v1), some (.int v2), some (.int v3), some (.int v4), some (.int t4)], [.int (3:Int32), .int q9, .int v3], pv_mm s T)) (by decide +kernel) rfl ?_
        refine pv_e_icmpeq (off := 15) (b := 96) (pc' := 84) (by decide +kernel) (by decide +kernel) rfl (fun c11 => ?_) (fun c11 => ?_)
        · rw [if_pos c11] at h
          refine pv_e_bk (ps := [(96, .iconst 0, 1)]) (t' := (0, 0, 97, [some (.ref 94), some (.int v1), some (.int v2), some (.int v3), some (.int v4), some (.int t4)], [.int (0:Int32), .int v3], pv_mm s T)) (by decide +kernel) rfl ?_
          obtain rfl := Option.some.inj h
          exact hJ7
        · rw [if_neg c11] at h
          refine pv_e_bk (ps := [(84, .iload 5, 2)]) (t' := (0, 0, 86, [some (.ref 94), some (.int v1), some (.int v2), some (.int v3), some (.int v4), some (.int t4)], [.int t4, .int v3], pv_mm s T)) (by decide +kernel) rfl ?_
          refine pv_e_ifeq (off := 10) (b := 96) (pc' := 89) (by decide +kernel) (by decide +kernel) rfl (fun c12 => ?_) (fun c12 => ?_)
          · rw [if_pos c12] at h
            refine pv_e_bk (ps := [(96, .iconst 0, 1)]) (t' := (0, 0, 97, [some (.ref 94), some (.int v1), some (.int v2), some (.int v3), some (.int v4), some (.int t4)], [.int (0:Int32), .int v3], pv_mm s T)) (by decide +kernel) rfl ?_
            obtain rfl := Option.some.inj h
            exact hJ7
          · rw [if_neg c12] at h
            refine pv_e_bk (ps := [(89, .iconst 1, 1), (90, .iload 4, 2), (92, .ishl, 1), (93, .goto 4, 3)]) (t' := (0, 0, 97, [some (.ref 94), some (.int v1), some (.int v2), some (.int v3), some (.int v4), some (.int t4)], [.int ((1:Int32) <<< (v4 &&& 31)), .int v3], pv_mm s T)) (by decide +kernel) rfl ?_
            obtain rfl := Option.some.inj h
            exact hJ7
    clear h
    have h := hv13
    clear hv13
    refine pv_e_icmpne (off := 36) (b := 57) (pc' := 24) (by decide +kernel) (by decide +kernel) rfl (fun c15 => ?_) (fun c15 => ?_)
    · rw [if_pos c15] at h
      refine pv_e_bk (ps := [(24, .aload_n 0, 1), (25, .iload 4, 2)]) (t' := (0, 0, 27, [some (.ref 94), some (.int v1), some (.int v2), some (.int v3), some (.int v4), z5], [.int v4, .ref 94], pv_mm s T)) (by decide +kernel) rfl ?_
      obtain ⟨q17, e16, h⟩ := Option.bind_eq_some_iff.mp h
      refine pv_e_cvi (d := d + 1) (i := 142) (z := 142) (np := 1) (ml := 2) (ci := 6) (As := [.int v4]) (rs := []) (pc' := 30) (by decide +kernel) rfl rfl rfl rfl (Nat.le_of_ble_eq_true rfl) (Nat.le_of_ble_eq_true rfl) rfl (ee142 (d + 1) v4 e16) ?_
      refine pv_e_ifle (off := 23) (b := 53) (pc' := 33) (by decide +kernel) (by decide +kernel) rfl (fun c18 => ?_) (fun c18 => ?_)
      · rw [if_pos c18] at h
        refine pv_e_bk (ps := [(53, .iconst 0, 1), (54, .goto 10, 3)]) (t' := (0, 0, 64, [some (.ref 94), some (.int v1), some (.int v2), some (.int v3), some (.int v4), z5], [.int (0:Int32)], pv_mm s T)) (by decide +kernel) rfl ?_
        obtain rfl := Option.some.inj h
        exact hJ14
      · rw [if_neg c18] at h
        refine pv_e_bk (ps := [(33, .aload_n 0, 1), (34, .iload 4, 2), (36, .iconst 0, 1)]) (t' := (0, 0, 37, [some (.ref 94), some (.int v1), some (.int v2), some (.int v3), some (.int v4), z5], [.int (0:Int32), .int v4, .ref 94], pv_mm s T)) (by decide +kernel) rfl ?_
        obtain ⟨q20, e19, h⟩ := Option.bind_eq_some_iff.mp h
        refine pv_e_cvi (d := d + 1) (i := 145) (z := 143) (np := 2) (ml := 3) (ci := 6) (As := [.int v4, .int (0:Int32)]) (rs := []) (pc' := 40) (by decide +kernel) rfl rfl rfl rfl (Nat.le_of_ble_eq_true rfl) (Nat.le_of_ble_eq_true rfl) rfl (ee143 (d + 1) v4 (0:Int32) e19) ?_
        refine pv_e_bk (ps := [(40, .aload_n 0, 1), (41, .iload_n 2, 1), (42, .iconst 0, 1)]) (t' := (0, 0, 43, [some (.ref 94), some (.int v1), some (.int v2), some (.int v3), some (.int v4), z5], [.int (0:Int32), .int v2, .ref 94, .int q20], pv_mm s T)) (by decide +kernel) rfl ?_
        obtain ⟨q22, e21, h⟩ := Option.bind_eq_some_iff.mp h
        refine pv_e_cvi (d := d + 1) (i := 145) (z := 143) (np := 2) (ml := 3) (ci := 6) (As := [.int v2, .int (0:Int32)]) (rs := [.int q20]) (pc' := 46) (by decide +kernel) rfl rfl rfl rfl (Nat.le_of_ble_eq_true rfl) (Nat.le_of_ble_eq_true rfl) rfl (ee143 (d + 1) v2 (0:Int32) e21) ?_
        refine pv_e_icmpne (off := 7) (b := 53) (pc' := 49) (by decide +kernel) (by decide +kernel) rfl (fun c23 => ?_) (fun c23 => ?_)
        · rw [if_pos c23] at h
          refine pv_e_bk (ps := [(49, .iconst 1, 1), (50, .goto 14, 3)]) (t' := (0, 0, 64, [some (.ref 94), some (.int v1), some (.int v2), some (.int v3), some (.int v4), z5], [.int (1:Int32)], pv_mm s T)) (by decide +kernel) rfl ?_
          obtain rfl := Option.some.inj h
          exact hJ14
        · rw [if_neg c23] at h
          refine pv_e_bk (ps := [(53, .iconst 0, 1), (54, .goto 10, 3)]) (t' := (0, 0, 64, [some (.ref 94), some (.int v1), some (.int v2), some (.int v3), some (.int v4), z5], [.int (0:Int32)], pv_mm s T)) (by decide +kernel) rfl ?_
          obtain rfl := Option.some.inj h
          exact hJ14
    · rw [if_neg c15] at h
      refine pv_e_bk (ps := [(57, .aload_n 0, 1), (58, .iload_n 2, 1), (59, .iload 4, 2)]) (t' := (0, 0, 61, [some (.ref 94), some (.int v1), some (.int v2), some (.int v3), some (.int v4), z5], [.int v4, .int v2, .ref 94], pv_mm s T)) (by decide +kernel) rfl ?_
      obtain ⟨q25, e24, h⟩ := Option.bind_eq_some_iff.mp h
      refine pv_e_cvi (d := d + 1) (i := 148) (z := 144) (np := 2) (ml := 5) (ci := 6) (As := [.int v2, .int v4]) (rs := []) (pc' := 64) (by decide +kernel) rfl rfl rfl rfl (Nat.le_of_ble_eq_true rfl) (Nat.le_of_ble_eq_true rfl) rfl (ee144 (d + 0) v2 v4 e24) ?_
      obtain rfl := Option.some.inj h
      exact hJ14
theorem ee153 {xs : Nat → Int32} {L : Nat} (d : Nat) (x1 : Int32) (x2 : Int32) {s : pv_F} {T : pv_T} {q : Int32}  (h : f153_comers x1 x2 T = some q) : pv_Ev xs L (d + 2) 153 (0, 0, 0, [some (.ref 94), some (.int x1), some (.int x2), none, none, none], [], pv_mm s T) (some (.int q), pv_mm s T) := by
  generalize hr : ((some (.int q), pv_mm s T) : Option Value × pv_M) = r
  unfold f153_comers at h
  refine pv_e_bk (ps := [(0, .iconst 0, 1), (1, .istore_n 3, 1), (2, .iconst 0, 1), (3, .istore 4, 2)]) (t' := (0, 0, 5, [some (.ref 94), some (.int x1), some (.int x2), some (.int (0:Int32)), some (.int (0:Int32)), none], [], pv_mm s T)) (by decide +kernel) rfl ?_
  obtain ⟨⟨w26, w27⟩, e29, h⟩ := Option.bind_eq_some_iff.mp h
  dsimp only at h
  have hx28 : f153_comers_b1_X xs L d r s x1 x2 T (w26, w27) := by
    show ∀ z4 : Option Value, ∀ z5 : Option Value, pv_Ev xs L (d + 2) 153 (0, 0, 105, [some (.ref 94), some (.int x1), some (.int x2), some (.int w26), z4, z5], [], pv_mm s T) r
    intro z4 z5
    refine pv_e_bk (ps := [(105, .iload_n 3, 1)]) (t' := (0, 0, 106, [some (.ref 94), some (.int x1), some (.int x2), some (.int w26), z4, z5], [.int w26], pv_mm s T)) (by decide +kernel) rfl ?_
    obtain rfl := Option.some.inj h
    cases hr
    exact pv_e_ri (by decide +kernel)
  exact pv_lq_ok (H := f153_comers_b1_H xs L d r s x1 x2 T) (X := f153_comers_b1_X xs L d r s x1 x2 T) (f153_comers_b1_ok (xs := xs) (L := L) (d := d) (r := r) (s := s) (v1 := x1) (v2 := x2) (T := T)) 20000 _ _ e29 hx28 _
def f149_mark (x1 : Int32) (x2 : Int32) (T : pv_T) : Option (Int32 × pv_T) :=
  (f140_isOne x1 T).bind fun q2 =>
  if q2 = 0 then
    some ((-1:Int32), T)
  else
    (f114_in x2 (1:Int32) (5:Int32)).bind fun q5 =>
    if q5 = 0 then
      some ((-1:Int32), T)
    else
      (f141_isA x1 x2 T).bind fun q8 =>
      if q8 = 0 then
        (f115_meet (3:Int32) T).bind fun (q11, T12) =>
        some (q11, T12)
      else
        if x2 = (2:Int32) then
          (pv_rd T.1 105 78 (77:Int32)).bind fun q14 =>
          some (q14, T)
        else
          if x2 = (3:Int32) then
            (f145_likes x1 T).bind fun q18 =>
            (f118_sizeOf q18).bind fun q20 =>
            some (q20, T)
          else
            if x2 = (4:Int32) then
              (pv_rd T.1 105 78 ((49:Int32) + x1)).bind fun q22 =>
              some ((2:Int32) - q22, T)
            else
              if x2 = (5:Int32) then
                (f152_mayCall x1 (0:Int32) T).bind fun q26 =>
                ((
                  if q26 = 0 then
                    some (0:Int32)
                  else
                    (f153_comers x1 (0:Int32) T).bind fun q32 =>
                    (f118_sizeOf q32).bind fun q34 =>
                    some q34) : Option (Int32)).bind fun t27 =>
                some (t27, T)
              else
                (f145_likes x1 T).bind fun q36 =>
                (f118_sizeOf q36).bind fun q38 =>
                some (q38, T)
theorem ee149 {xs : Nat → Int32} {L : Nat} (d : Nat) (x1 : Int32) (x2 : Int32) {s : pv_F} {T : pv_T} {q : Int32 × pv_T}  (h : f149_mark x1 x2 T = some q) : pv_Ev xs L (d + 3) 149 (0, 0, 0, [some (.ref 94), some (.int x1), some (.int x2)], [], pv_mm s T) (some (.int q.1), pv_mm s q.2) := by
  generalize hr : ((some (.int q.1), pv_mm s q.2) : Option Value × pv_M) = r
  unfold f149_mark at h
  refine pv_e_bk (ps := [(0, .aload_n 0, 1), (1, .iload_n 1, 1)]) (t' := (0, 0, 2, [some (.ref 94), some (.int x1), some (.int x2)], [.int x1, .ref 94], pv_mm s T)) (by decide +kernel) rfl ?_
  obtain ⟨q2, e1, h⟩ := Option.bind_eq_some_iff.mp h
  refine pv_e_cvi (d := d + 2) (i := 152) (z := 140) (np := 1) (ml := 2) (ci := 6) (As := [.int x1]) (rs := []) (pc' := 5) (by decide +kernel) rfl rfl rfl rfl (Nat.le_of_ble_eq_true rfl) (Nat.le_of_ble_eq_true rfl) rfl (ee140 (d + 1) x1 e1) ?_
  refine pv_e_ifeq (off := 12) (b := 17) (pc' := 8) (by decide +kernel) (by decide +kernel) rfl (fun c3 => ?_) (fun c3 => ?_)
  · rw [if_pos c3] at h
    refine pv_e_bk (ps := [(17, .iconst (-1), 1)]) (t' := (0, 0, 18, [some (.ref 94), some (.int x1), some (.int x2)], [.int (-1:Int32)], pv_mm s T)) (by decide +kernel) rfl ?_
    obtain rfl := Option.some.inj h
    cases hr
    exact pv_e_ri (by decide +kernel)
  · rw [if_neg c3] at h
    refine pv_e_bk (ps := [(8, .iload_n 2, 1), (9, .iconst 1, 1), (10, .iconst 5, 1)]) (t' := (0, 0, 11, [some (.ref 94), some (.int x1), some (.int x2)], [.int (5:Int32), .int (1:Int32), .int x2], pv_mm s T)) (by decide +kernel) rfl ?_
    obtain ⟨q5, e4, h⟩ := Option.bind_eq_some_iff.mp h
    refine pv_e_csi (d := d + 2) (i := 83) (z := 114) (np := 3) (ml := 3) (As := [.int x2, .int (1:Int32), .int (5:Int32)]) (rs := []) (pc' := 14) (by decide +kernel) rfl rfl rfl (Nat.le_of_ble_eq_true rfl) (Nat.le_of_ble_eq_true rfl) rfl (ee114 (d + 2) x2 (1:Int32) (5:Int32) e4) ?_
    refine pv_e_ifne (off := 5) (b := 19) (pc' := 17) (by decide +kernel) (by decide +kernel) rfl (fun c6 => ?_) (fun c6 => ?_)
    · rw [if_pos c6] at h
      refine pv_e_bk (ps := [(17, .iconst (-1), 1)]) (t' := (0, 0, 18, [some (.ref 94), some (.int x1), some (.int x2)], [.int (-1:Int32)], pv_mm s T)) (by decide +kernel) rfl ?_
      obtain rfl := Option.some.inj h
      cases hr
      exact pv_e_ri (by decide +kernel)
    · rw [if_neg c6] at h
      refine pv_e_bk (ps := [(19, .aload_n 0, 1), (20, .iload_n 1, 1), (21, .iload_n 2, 1)]) (t' := (0, 0, 22, [some (.ref 94), some (.int x1), some (.int x2)], [.int x2, .int x1, .ref 94], pv_mm s T)) (by decide +kernel) rfl ?_
      obtain ⟨q8, e7, h⟩ := Option.bind_eq_some_iff.mp h
      refine pv_e_cvi (d := d + 2) (i := 158) (z := 141) (np := 2) (ml := 3) (ci := 6) (As := [.int x1, .int x2]) (rs := []) (pc' := 25) (by decide +kernel) rfl rfl rfl rfl (Nat.le_of_ble_eq_true rfl) (Nat.le_of_ble_eq_true rfl) rfl (ee141 (d + 2) x1 x2 e7) ?_
      refine pv_e_ifne (off := 9) (b := 34) (pc' := 28) (by decide +kernel) (by decide +kernel) rfl (fun c9 => ?_) (fun c9 => ?_)
      · rw [if_pos c9] at h
        refine pv_e_bk (ps := [(28, .aload_n 0, 1), (29, .iconst 3, 1)]) (t' := (0, 0, 30, [some (.ref 94), some (.int x1), some (.int x2)], [.int (3:Int32), .ref 94], pv_mm s T)) (by decide +kernel) rfl ?_
        obtain ⟨⟨q11, T12⟩, e10, h⟩ := Option.bind_eq_some_iff.mp h
        dsimp only at h
        refine pv_e_cvi (d := d + 2) (i := 91) (z := 115) (np := 1) (ml := 2) (ci := 6) (As := [.int (3:Int32)]) (rs := []) (pc' := 33) (by decide +kernel) rfl rfl rfl rfl (Nat.le_of_ble_eq_true rfl) (Nat.le_of_ble_eq_true rfl) rfl (ee115 (d + 2) (3:Int32) e10) ?_
        obtain rfl := Option.some.inj h
        cases hr
        exact pv_e_ri (by decide +kernel)
      · rw [if_neg c9] at h
        refine pv_e_bk (ps := [(34, .iload_n 2, 1)]) (t' := (0, 0, 35, [some (.ref 94), some (.int x1), some (.int x2)], [.int x2], pv_mm s T)) (by decide +kernel) rfl ?_
        by_cases c13 : x2 = (2:Int32)
        · rw [if_pos c13] at h
          refine pv_e_swin (dflt := 72) (lo := 2) (hi := 5) (offs := #[29, 72, 37, 49]) (len := 29) (off := 29) (b := 64) (by decide +kernel) (by rw [c13]; decide +kernel) (by rw [c13]; decide +kernel) (by decide +kernel) ?_
          refine pv_e_bk (ps := [(64, .aload_n 0, 1)]) (t' := (0, 0, 65, [some (.ref 94), some (.int x1), some (.int x2)], [.ref 94], pv_mm s T)) (by decide +kernel) rfl ?_
          refine pv_e_gr (i := 44) (ci := 6) (j := 17) (b := 105) (pc' := 68) (by decide +kernel) rfl rfl rfl ?_
          refine pv_e_bk (ps := [(68, .bipush 77, 2)]) (t' := (0, 0, 70, [some (.ref 94), some (.int x1), some (.int x2)], [.int (77:Int32), .ref 105], pv_mm s T)) (by decide +kernel) rfl ?_
          obtain ⟨q14, e15, h⟩ := Option.bind_eq_some_iff.mp h
          refine pv_e_rm (pc' := 71) (by decide +kernel) (by decide) rfl e15 rfl ?_
          obtain rfl := Option.some.inj h
          cases hr
          exact pv_e_ri (by decide +kernel)
        · rw [if_neg c13] at h
          by_cases c16 : x2 = (3:Int32)
          · rw [if_pos c16] at h
            refine pv_e_swin (dflt := 72) (lo := 2) (hi := 5) (offs := #[29, 72, 37, 49]) (len := 29) (off := 72) (b := 107) (by decide +kernel) (by rw [c16]; decide +kernel) (by rw [c16]; decide +kernel) (by decide +kernel) ?_
            refine pv_e_bk (ps := [(107, .aload_n 0, 1), (108, .iload_n 1, 1)]) (t' := (0, 0, 109, [some (.ref 94), some (.int x1), some (.int x2)], [.int x1, .ref 94], pv_mm s T)) (by decide +kernel) rfl ?_
            obtain ⟨q18, e17, h⟩ := Option.bind_eq_some_iff.mp h
            refine pv_e_cvi (d := d + 2) (i := 170) (z := 145) (np := 1) (ml := 4) (ci := 6) (As := [.int x1]) (rs := []) (pc' := 112) (by decide +kernel) rfl rfl rfl rfl (Nat.le_of_ble_eq_true rfl) (Nat.le_of_ble_eq_true rfl) rfl (ee145 (d + 0) x1 e17) ?_
            obtain ⟨q20, e19, h⟩ := Option.bind_eq_some_iff.mp h
            refine pv_e_csi (d := d + 2) (i := 167) (z := 118) (np := 1) (ml := 3) (As := [.int q18]) (rs := []) (pc' := 115) (by decide +kernel) rfl rfl rfl (Nat.le_of_ble_eq_true rfl) (Nat.le_of_ble_eq_true rfl) rfl (ee118 (d + 2) q18 e19) ?_
            obtain rfl := Option.some.inj h
            cases hr
            exact pv_e_ri (by decide +kernel)
          · rw [if_neg c16] at h
            by_cases c21 : x2 = (4:Int32)
            · rw [if_pos c21] at h
              refine pv_e_swin (dflt := 72) (lo := 2) (hi := 5) (offs := #[29, 72, 37, 49]) (len := 29) (off := 37) (b := 72) (by decide +kernel) (by rw [c21]; decide +kernel) (by rw [c21]; decide +kernel) (by decide +kernel) ?_
              refine pv_e_bk (ps := [(72, .iconst 2, 1), (73, .aload_n 0, 1)]) (t' := (0, 0, 74, [some (.ref 94), some (.int x1), some (.int x2)], [.ref 94, .int (2:Int32)], pv_mm s T)) (by decide +kernel) rfl ?_
              refine pv_e_gr (i := 44) (ci := 6) (j := 17) (b := 105) (pc' := 77) (by decide +kernel) rfl rfl rfl ?_
              refine pv_e_bk (ps := [(77, .bipush 49, 2), (79, .iload_n 1, 1), (80, .iadd, 1)]) (t' := (0, 0, 81, [some (.ref 94), some (.int x1), some (.int x2)], [.int ((49:Int32) + x1), .ref 105, .int (2:Int32)], pv_mm s T)) (by decide +kernel) rfl ?_
              obtain ⟨q22, e23, h⟩ := Option.bind_eq_some_iff.mp h
              refine pv_e_rm (pc' := 82) (by decide +kernel) (by decide) rfl e23 rfl ?_
              refine pv_e_bk (ps := [(82, .isub, 1)]) (t' := (0, 0, 83, [some (.ref 94), some (.int x1), some (.int x2)], [.int ((2:Int32) - q22)], pv_mm s T)) (by decide +kernel) rfl ?_
              obtain rfl := Option.some.inj h
              cases hr
              exact pv_e_ri (by decide +kernel)
            · rw [if_neg c21] at h
              by_cases c24 : x2 = (5:Int32)
              · rw [if_pos c24] at h
                refine pv_e_swin (dflt := 72) (lo := 2) (hi := 5) (offs := #[29, 72, 37, 49]) (len := 29) (off := 49) (b := 84) (by decide +kernel) (by rw [c24]; decide +kernel) (by rw [c24]; decide +kernel) (by decide +kernel) ?_
                refine pv_e_bk (ps := [(84, .aload_n 0, 1), (85, .iload_n 1, 1), (86, .iconst 0, 1)]) (t' := (0, 0, 87, [some (.ref 94), some (.int x1), some (.int x2)], [.int (0:Int32), .int x1, .ref 94], pv_mm s T)) (by decide +kernel) rfl ?_
                obtain ⟨q26, e25, h⟩ := Option.bind_eq_some_iff.mp h
                refine pv_e_cvi (d := d + 2) (i := 161) (z := 152) (np := 2) (ml := 3) (ci := 6) (As := [.int x1, .int (0:Int32)]) (rs := []) (pc' := 90) (by decide +kernel) rfl rfl rfl rfl (Nat.le_of_ble_eq_true rfl) (Nat.le_of_ble_eq_true rfl) rfl (ee152 (d + 1) x1 (0:Int32) e25) ?_
                obtain ⟨t27, hv28, h⟩ := Option.bind_eq_some_iff.mp h
                have hJ29 : pv_Ev xs L (d + 3) 149 (0, 0, 106, [some (.ref 94), some (.int x1), some (.int x2)], [.int t27], pv_mm s T) r := by
                  obtain rfl := Option.some.inj h
                  cases hr
                  exact pv_e_ri (by decide +kernel)
                clear h
                have h := hv28
                clear hv28
                refine pv_e_ifeq (off := 15) (b := 105) (pc' := 93) (by decide +kernel) (by decide +kernel) rfl (fun c30 => ?_) (fun c30 => ?_)
                · rw [if_pos c30] at h
                  refine pv_e_bk (ps := [(105, .iconst 0, 1)]) (t' := (0, 0, 106, [some (.ref 94), some (.int x1), some (.int x2)], [.int (0:Int32)], pv_mm s T)) (by decide +kernel) rfl ?_
                  obtain rfl := Option.some.inj h
                  exact hJ29
                · rw [if_neg c30] at h
                  refine pv_e_bk (ps := [(93, .aload_n 0, 1), (94, .iload_n 1, 1), (95, .iconst 0, 1)]) (t' := (0, 0, 96, [some (.ref 94), some (.int x1), some (.int x2)], [.int (0:Int32), .int x1, .ref 94], pv_mm s T)) (by decide +kernel) rfl ?_
                  obtain ⟨q32, e31, h⟩ := Option.bind_eq_some_iff.mp h
                  refine pv_e_cvi (d := d + 2) (i := 164) (z := 153) (np := 2) (ml := 6) (ci := 6) (As := [.int x1, .int (0:Int32)]) (rs := []) (pc' := 99) (by decide +kernel) rfl rfl rfl rfl (Nat.le_of_ble_eq_true rfl) (Nat.le_of_ble_eq_true rfl) rfl (ee153 (d + 0) x1 (0:Int32) e31) ?_
                  obtain ⟨q34, e33, h⟩ := Option.bind_eq_some_iff.mp h
                  refine pv_e_csi (d := d + 2) (i := 167) (z := 118) (np := 1) (ml := 3) (As := [.int q32]) (rs := []) (pc' := 102) (by decide +kernel) rfl rfl rfl (Nat.le_of_ble_eq_true rfl) (Nat.le_of_ble_eq_true rfl) rfl (ee118 (d + 2) q32 e33) ?_
                  refine pv_e_bk (ps := [(102, .goto 4, 3)]) (t' := (0, 0, 106, [some (.ref 94), some (.int x1), some (.int x2)], [.int q34], pv_mm s T)) (by decide +kernel) rfl ?_
                  obtain rfl := Option.some.inj h
                  exact hJ29
              · rw [if_neg c24] at h
                refine pv_e_swout (dflt := 72) (lo := 2) (hi := 5) (offs := #[29, 72, 37, 49]) (len := 29) (b := 107) (by decide +kernel) ?_ (by decide +kernel) ?_
                · have nc13 : x2.toInt ≠ (2 : Int) := fun e9 => c13 (Int32.toInt_inj.mp (e9.trans (by decide +kernel)))
                  have nc16 : x2.toInt ≠ (3 : Int) := fun e9 => c16 (Int32.toInt_inj.mp (e9.trans (by decide +kernel)))
                  have nc21 : x2.toInt ≠ (4 : Int) := fun e9 => c21 (Int32.toInt_inj.mp (e9.trans (by decide +kernel)))
                  have nc24 : x2.toInt ≠ (5 : Int) := fun e9 => c24 (Int32.toInt_inj.mp (e9.trans (by decide +kernel)))
                  omega
                · refine pv_e_bk (ps := [(107, .aload_n 0, 1), (108, .iload_n 1, 1)]) (t' := (0, 0, 109, [some (.ref 94), some (.int x1), some (.int x2)], [.int x1, .ref 94], pv_mm s T)) (by decide +kernel) rfl ?_
                  obtain ⟨q36, e35, h⟩ := Option.bind_eq_some_iff.mp h
                  refine pv_e_cvi (d := d + 2) (i := 170) (z := 145) (np := 1) (ml := 4) (ci := 6) (As := [.int x1]) (rs := []) (pc' := 112) (by decide +kernel) rfl rfl rfl rfl (Nat.le_of_ble_eq_true rfl) (Nat.le_of_ble_eq_true rfl) rfl (ee145 (d + 0) x1 e35) ?_
                  obtain ⟨q38, e37, h⟩ := Option.bind_eq_some_iff.mp h
                  refine pv_e_csi (d := d + 2) (i := 167) (z := 118) (np := 1) (ml := 3) (As := [.int q36]) (rs := []) (pc' := 115) (by decide +kernel) rfl rfl rfl (Nat.le_of_ble_eq_true rfl) (Nat.le_of_ble_eq_true rfl) rfl (ee118 (d + 2) q36 e37) ?_
                  obtain rfl := Option.some.inj h
                  cases hr
                  exact pv_e_ri (by decide +kernel)
def f150_way (x1 : Int32) (T : pv_T) : Option (Int32 × pv_T) :=
  (f114_in x1 (0:Int32) (2:Int32)).bind fun q2 =>
  if q2 = 0 then
    some ((-1:Int32), T)
  else
    (pv_pm T 94 9 x1).bind fun T4 =>
    some (T.1 94 9, T4)
theorem ee150 {xs : Nat → Int32} {L : Nat} (d : Nat) (x1 : Int32) {s : pv_F} {T : pv_T} {q : Int32 × pv_T}  (h : f150_way x1 T = some q) : pv_Ev xs L (d + 1) 150 (0, 0, 0, [some (.ref 94), some (.int x1), none], [], pv_mm s T) (some (.int q.1), pv_mm s q.2) := by
  generalize hr : ((some (.int q.1), pv_mm s q.2) : Option Value × pv_M) = r
  unfold f150_way at h
  refine pv_e_bk (ps := [(0, .iload_n 1, 1), (1, .iconst 0, 1), (2, .iconst 2, 1)]) (t' := (0, 0, 3, [some (.ref 94), some (.int x1), none], [.int (2:Int32), .int (0:Int32), .int x1], pv_mm s T)) (by decide +kernel) rfl ?_
  obtain ⟨q2, e1, h⟩ := Option.bind_eq_some_iff.mp h
  refine pv_e_csi (d := d + 0) (i := 83) (z := 114) (np := 3) (ml := 3) (As := [.int x1, .int (0:Int32), .int (2:Int32)]) (rs := []) (pc' := 6) (by decide +kernel) rfl rfl rfl (Nat.le_of_ble_eq_true rfl) (Nat.le_of_ble_eq_true rfl) rfl (ee114 (d + 0) x1 (0:Int32) (2:Int32) e1) ?_
  refine pv_e_ifne (off := 5) (b := 11) (pc' := 9) (by decide +kernel) (by decide +kernel) rfl (fun c3 => ?_) (fun c3 => ?_)
  · rw [if_pos c3] at h
    refine pv_e_bk (ps := [(9, .iconst (-1), 1)]) (t' := (0, 0, 10, [some (.ref 94), some (.int x1), none], [.int (-1:Int32)], pv_mm s T)) (by decide +kernel) rfl ?_
    obtain rfl := Option.some.inj h
    cases hr
    exact pv_e_ri (by decide +kernel)
  · rw [if_neg c3] at h
    refine pv_e_bk (ps := [(11, .aload_n 0, 1)]) (t' := (0, 0, 12, [some (.ref 94), some (.int x1), none], [.ref 94], pv_mm s T)) (by decide +kernel) rfl ?_
    refine pv_e_gm (i := 173) (ci := 6) (j := 9) (pc' := 15) (by decide +kernel) (by decide) rfl rfl rfl ?_
    refine pv_e_bk (ps := [(15, .istore_n 2, 1), (16, .aload_n 0, 1), (17, .iload_n 1, 1)]) (t' := (0, 0, 18, [some (.ref 94), some (.int x1), some (.int (T.1 94 9))], [.int x1, .ref 94], pv_mm s T)) (by decide +kernel) rfl ?_
    obtain ⟨T4, e5, h⟩ := Option.bind_eq_some_iff.mp h
    refine pv_e_pms (i := 173) (ci := 6) (j := 9) (pc' := 21) (by decide +kernel) rfl rfl (by decide) rfl rfl e5 rfl ?_
    refine pv_e_bk (ps := [(21, .iload_n 2, 1)]) (t' := (0, 0, 22, [some (.ref 94), some (.int x1), some (.int (T.1 94 9))], [.int (T.1 94 9)], pv_mm s T4)) (by decide +kernel) rfl ?_
    obtain rfl := Option.some.inj h
    cases hr
    exact pv_e_ri (by decide +kernel)
def f151_price (x1 : Int32) (T : pv_T) : Option (Int32 × pv_T) :=
  (f114_in x1 (0:Int32) (99:Int32)).bind fun q2 =>
  if q2 = 0 then
    some ((-1:Int32), T)
  else
    (pv_pm T 94 10 x1).bind fun T4 =>
    some (T.1 94 10, T4)
theorem ee151 {xs : Nat → Int32} {L : Nat} (d : Nat) (x1 : Int32) {s : pv_F} {T : pv_T} {q : Int32 × pv_T}  (h : f151_price x1 T = some q) : pv_Ev xs L (d + 1) 151 (0, 0, 0, [some (.ref 94), some (.int x1), none], [], pv_mm s T) (some (.int q.1), pv_mm s q.2) := by
  generalize hr : ((some (.int q.1), pv_mm s q.2) : Option Value × pv_M) = r
  unfold f151_price at h
  refine pv_e_bk (ps := [(0, .iload_n 1, 1), (1, .iconst 0, 1), (2, .bipush 99, 2)]) (t' := (0, 0, 4, [some (.ref 94), some (.int x1), none], [.int (99:Int32), .int (0:Int32), .int x1], pv_mm s T)) (by decide +kernel) rfl ?_
  obtain ⟨q2, e1, h⟩ := Option.bind_eq_some_iff.mp h
  refine pv_e_csi (d := d + 0) (i := 83) (z := 114) (np := 3) (ml := 3) (As := [.int x1, .int (0:Int32), .int (99:Int32)]) (rs := []) (pc' := 7) (by decide +kernel) rfl rfl rfl (Nat.le_of_ble_eq_true rfl) (Nat.le_of_ble_eq_true rfl) rfl (ee114 (d + 0) x1 (0:Int32) (99:Int32) e1) ?_
  refine pv_e_ifne (off := 5) (b := 12) (pc' := 10) (by decide +kernel) (by decide +kernel) rfl (fun c3 => ?_) (fun c3 => ?_)
  · rw [if_pos c3] at h
    refine pv_e_bk (ps := [(10, .iconst (-1), 1)]) (t' := (0, 0, 11, [some (.ref 94), some (.int x1), none], [.int (-1:Int32)], pv_mm s T)) (by decide +kernel) rfl ?_
    obtain rfl := Option.some.inj h
    cases hr
    exact pv_e_ri (by decide +kernel)
  · rw [if_neg c3] at h
    refine pv_e_bk (ps := [(12, .aload_n 0, 1)]) (t' := (0, 0, 13, [some (.ref 94), some (.int x1), none], [.ref 94], pv_mm s T)) (by decide +kernel) rfl ?_
    refine pv_e_gm (i := 28) (ci := 6) (j := 10) (pc' := 16) (by decide +kernel) (by decide) rfl rfl rfl ?_
    refine pv_e_bk (ps := [(16, .istore_n 2, 1), (17, .aload_n 0, 1), (18, .iload_n 1, 1)]) (t' := (0, 0, 19, [some (.ref 94), some (.int x1), some (.int (T.1 94 10))], [.int x1, .ref 94], pv_mm s T)) (by decide +kernel) rfl ?_
    obtain ⟨T4, e5, h⟩ := Option.bind_eq_some_iff.mp h
    refine pv_e_pms (i := 28) (ci := 6) (j := 10) (pc' := 22) (by decide +kernel) rfl rfl (by decide) rfl rfl e5 rfl ?_
    refine pv_e_bk (ps := [(22, .iload_n 2, 1)]) (t' := (0, 0, 23, [some (.ref 94), some (.int x1), some (.int (T.1 94 10))], [.int (T.1 94 10)], pv_mm s T4)) (by decide +kernel) rfl ?_
    obtain rfl := Option.some.inj h
    cases hr
    exact pv_e_ri (by decide +kernel)
def f154_wornAt_b1 (v1 : Nat) (v2 : Int32) (v3 : Int32) (T : pv_T) (st : Int32) : Option (Int32 ⊕ (Int32 ⊕ Int32)) := match st with
  | v4 =>
    if v3 ≤ v4 then
      some (.inr (.inl v4))
    else
      if (T.1 94 9) = (2:Int32) then
        (pv_rd T.1 v1 (pv_an v1) (v2 + v4)).bind fun q4 =>
        (f135_isVowel q4).bind fun q7 =>
        if q7 = 0 then
          some (.inl (v4 + (1:Int32)))
        else
          some (.inr (.inr v4))
      else
        some (.inr (.inl v4))
def f154_wornAt_b1_H (xs : Nat → Int32) (L d : Nat) (r : Option Value × pv_M) (s : pv_F) (v1 : Nat) (v2 : Int32) (v3 : Int32) (T : pv_T) (st : Int32) : Prop := match st with
  | v4 => pv_Ev xs L (d + 1) 154 (0, 0, 13, [some (.ref 94), some (.ref v1), some (.int v2), some (.int v3), some (.int v4)], [], pv_mm s T) r
def f154_wornAt_b1_X (xs : Nat → Int32) (L d : Nat) (r : Option Value × pv_M) (s : pv_F) (v1 : Nat) (v2 : Int32) (v3 : Int32) (T : pv_T) (st : Int32) : Prop := match st with
  | v4 => ∀ z4 : Option Value, pv_Ev xs L (d + 1) 154 (0, 0, 48, [some (.ref 94), some (.ref v1), some (.int v2), some (.int v3), z4], [], pv_mm s T) r
def f154_wornAt (x1 : Nat) (x2 : Int32) (x3 : Int32) (T : pv_T) : Option (Int32) :=
  if (T.1 94 9) = (1:Int32) then
    some (0:Int32)
  else
    (pv_lp (f154_wornAt_b1 x1 x2 x3 T) 20000 (0:Int32)).bind fun o12 => match o12 with
      | .inl w9 =>
        some (x3 - (1:Int32))
      | .inr q => some q
theorem f154_wornAt_b1_ok {xs : Nat → Int32} {L d : Nat} {r : Option Value × pv_M} {s : pv_F} {v1 : Nat} {v2 : Int32} {v3 : Int32} {T : pv_T} (g1 : v1 ∈ pv_iam) (st : Int32) (o : Int32 ⊕ (Int32 ⊕ Int32)) (h : f154_wornAt_b1 v1 v2 v3 T st = some o) (hK : pv_Kp (f154_wornAt_b1_H xs L d r s v1 v2 v3 T) (f154_wornAt_b1_X xs L d r s v1 v2 v3 T) (fun q => (some (.int q), pv_mm s T) = r) o) : f154_wornAt_b1_H xs L d r s v1 v2 v3 T st := by
  obtain ⟨v4, rfl⟩ : ∃ z, z = st := ⟨st, rfl⟩
  show pv_Ev xs L (d + 1) 154 (0, 0, 13, [some (.ref 94), some (.ref v1), some (.int v2), some (.int v3), some (.int v4)], [], pv_mm s T) r
  unfold f154_wornAt_b1 at h
  dsimp only at h
  refine pv_e_bk (ps := [(13, .iload 4, 2), (15, .iload_n 3, 1)]) (t' := (0, 0, 16, [some (.ref 94), some (.ref v1), some (.int v2), some (.int v3), some (.int v4)], [.int v3, .int v4], pv_mm s T)) (by decide +kernel) rfl ?_
  refine pv_e_icmpge (off := 32) (b := 48) (pc' := 19) (by decide +kernel) (by decide +kernel) rfl (fun c2 => ?_) (fun c2 => ?_)
  · rw [if_pos c2] at h
    obtain rfl := Option.some.inj h
    exact hK _
  · rw [if_neg c2] at h
    refine pv_e_bk (ps := [(19, .aload_n 0, 1)]) (t' := (0, 0, 20, [some (.ref 94), some (.ref v1), some (.int v2), some (.int v3), some (.int v4)], [.ref 94], pv_mm s T)) (by decide +kernel) rfl ?_
    refine pv_e_gm (i := 173) (ci := 6) (j := 9) (pc' := 23) (by decide +kernel) (by decide) rfl rfl rfl ?_
    refine pv_e_bk (ps := [(23, .iconst 2, 1)]) (t' := (0, 0, 24, [some (.ref 94), some (.ref v1), some (.int v2), some (.int v3), some (.int v4)], [.int (2:Int32), .int (T.1 94 9)], pv_mm s T)) (by decide +kernel) rfl ?_
    refine pv_e_icmpne (off := 24) (b := 48) (pc' := 27) (by decide +kernel) (by decide +kernel) rfl (fun c3 => ?_) (fun c3 => ?_)
    · rw [if_pos c3] at h
      refine pv_e_bk (ps := [(27, .aload_n 1, 1), (28, .iload_n 2, 1), (29, .iload 4, 2), (31, .iadd, 1)]) (t' := (0, 0, 32, [some (.ref 94), some (.ref v1), some (.int v2), some (.int v3), some (.int v4)], [.int (v2 + v4), .ref v1], pv_mm s T)) (by decide +kernel) rfl ?_
      obtain ⟨q4, e5, h⟩ := Option.bind_eq_some_iff.mp h
      refine pv_e_rm (pc' := 33) (by decide +kernel) (im g1).2 (im g1).1 e5 rfl ?_
      obtain ⟨q7, e6, h⟩ := Option.bind_eq_some_iff.mp h
      refine pv_e_csi (d := d + 0) (i := 176) (z := 135) (np := 1) (ml := 1) (As := [.int q4]) (rs := []) (pc' := 36) (by decide +kernel) rfl rfl rfl (Nat.le_of_ble_eq_true rfl) (Nat.le_of_ble_eq_true rfl) rfl (ee135 (d + 0) q4 e6) ?_
      refine pv_e_ifeq (off := 6) (b := 42) (pc' := 39) (by decide +kernel) (by decide +kernel) rfl (fun c8 => ?_) (fun c8 => ?_)
      · rw [if_pos c8] at h
        refine pv_e_bk (ps := [(42, .iinc 4 1, 3), (45, .goto (-32), 3)]) (t' := (0, 0, 13, [some (.ref 94), some (.ref v1), some (.int v2), some (.int v3), some (.int (v4 + (1:Int32)))], [], pv_mm s T)) (by decide +kernel) rfl ?_
        obtain rfl := Option.some.inj h
        exact hK
      · rw [if_neg c8] at h
        refine pv_e_bk (ps := [(39, .iload 4, 2)]) (t' := (0, 0, 41, [some (.ref 94), some (.ref v1), some (.int v2), some (.int v3), some (.int v4)], [.int v4], pv_mm s T)) (by decide +kernel) rfl ?_
        obtain rfl := Option.some.inj h
        cases hK
        exact pv_e_ri (by decide +kernel)
    · rw [if_neg c3] at h
      obtain rfl := Option.some.inj h
      exact hK _
theorem ee154 {xs : Nat → Int32} {L : Nat} (d : Nat) (x1 : Nat) (x2 : Int32) (x3 : Int32) {s : pv_F} {T : pv_T} {q : Int32} (g1 : x1 ∈ pv_iam) (h : f154_wornAt x1 x2 x3 T = some q) : pv_Ev xs L (d + 1) 154 (0, 0, 0, [some (.ref 94), some (.ref x1), some (.int x2), some (.int x3), none], [], pv_mm s T) (some (.int q), pv_mm s T) := by
  generalize hr : ((some (.int q), pv_mm s T) : Option Value × pv_M) = r
  unfold f154_wornAt at h
  refine pv_e_bk (ps := [(0, .aload_n 0, 1)]) (t' := (0, 0, 1, [some (.ref 94), some (.ref x1), some (.int x2), some (.int x3), none], [.ref 94], pv_mm s T)) (by decide +kernel) rfl ?_
  refine pv_e_gm (i := 173) (ci := 6) (j := 9) (pc' := 4) (by decide +kernel) (by decide) rfl rfl rfl ?_
  refine pv_e_bk (ps := [(4, .iconst 1, 1)]) (t' := (0, 0, 5, [some (.ref 94), some (.ref x1), some (.int x2), some (.int x3), none], [.int (1:Int32), .int (T.1 94 9)], pv_mm s T)) (by decide +kernel) rfl ?_
  refine pv_e_icmpne (off := 5) (b := 10) (pc' := 8) (by decide +kernel) (by decide +kernel) rfl (fun c1 => ?_) (fun c1 => ?_)
  · rw [if_pos c1] at h
    refine pv_e_bk (ps := [(8, .iconst 0, 1)]) (t' := (0, 0, 9, [some (.ref 94), some (.ref x1), some (.int x2), some (.int x3), none], [.int (0:Int32)], pv_mm s T)) (by decide +kernel) rfl ?_
    obtain rfl := Option.some.inj h
    cases hr
    exact pv_e_ri (by decide +kernel)
  · rw [if_neg c1] at h
    refine pv_e_bk (ps := [(10, .iconst 0, 1), (11, .istore 4, 2)]) (t' := (0, 0, 13, [some (.ref 94), some (.ref x1), some (.int x2), some (.int x3), some (.int (0:Int32))], [], pv_mm s T)) (by decide +kernel) rfl ?_
    obtain ⟨o12, e11, h⟩ := Option.bind_eq_some_iff.mp h
    refine pv_lp_ok (H := f154_wornAt_b1_H xs L d r s x1 x2 x3 T) (X := f154_wornAt_b1_X xs L d r s x1 x2 x3 T) (Z := (fun q => (some (.int q), pv_mm s T) = r)) (f154_wornAt_b1_ok (xs := xs) (L := L) (d := d) (r := r) (s := s) (v1 := x1) (v2 := x2) (v3 := x3) (T := T) g1) 20000 _ _ e11 ?_
    rcases o12 with w9 | q
    · dsimp only at h ⊢
      show ∀ z4 : Option Value, pv_Ev xs L (d + 1) 154 (0, 0, 48, [some (.ref 94), some (.ref x1), some (.int x2), some (.int x3), z4], [], pv_mm s T) r
      intro z4
      refine pv_e_bk (ps := [(48, .iload_n 3, 1), (49, .iconst 1, 1), (50, .isub, 1)]) (t' := (0, 0, 51, [some (.ref 94), some (.ref x1), some (.int x2), some (.int x3), z4], [.int (x3 - (1:Int32))], pv_mm s T)) (by decide +kernel) rfl ?_
      obtain rfl := Option.some.inj h
      cases hr
      exact pv_e_ri (by decide +kernel)
    · dsimp only at h ⊢
      obtain rfl := Option.some.inj h
      exact hr
def f155_wear_b1 (v1 : Nat) (v2 : Int32) (v3 : Int32) (st : Int32 × pv_T) : Option ((Int32 × pv_T) ⊕ (Int32 × pv_T)) := match st with
  | (v5, T) =>
    if (v3 - (1:Int32)) ≤ v5 then
      some (.inr (v5, T))
    else
      (pv_rd T.1 v1 (pv_an v1) ((v2 + v5) + (1:Int32))).bind fun q4 =>
      (pv_wm T v1 (pv_an v1) (v2 + v5) q4).bind fun T6 =>
      some (.inl (v5 + (1:Int32), T6))
def f155_wear_b1_H (xs : Nat → Int32) (L d : Nat) (r : Option Value × pv_M) (s : pv_F) (v1 : Nat) (v2 : Int32) (v3 : Int32) (v4 : Int32) (st : Int32 × pv_T) : Prop := match st with
  | (v5, T) => pv_Ev xs L (d + 2) 155 (0, 0, 13, [some (.ref 94), some (.ref v1), some (.int v2), some (.int v3), some (.int v4), some (.int v5)], [], pv_mm s T) r
def f155_wear_b1_X (xs : Nat → Int32) (L d : Nat) (r : Option Value × pv_M) (s : pv_F) (v1 : Nat) (v2 : Int32) (v3 : Int32) (v4 : Int32) (st : Int32 × pv_T) : Prop := match st with
  | (v5, T) => ∀ z5 : Option Value, pv_Ev xs L (d + 2) 155 (0, 0, 41, [some (.ref 94), some (.ref v1), some (.int v2), some (.int v3), some (.int v4), z5], [], pv_mm s T) r
def f155_wear (x1 : Nat) (x2 : Int32) (x3 : Int32) (T : pv_T) : Option (Int32 × pv_T) :=
  (f154_wornAt x1 x2 x3 T).bind fun q2 =>
  (pv_lq (f155_wear_b1 x1 x2 x3) 20000 (q2, T)).bind fun (w8, T9) =>
  some (x3 - (1:Int32), T9)
theorem f155_wear_b1_ok {xs : Nat → Int32} {L d : Nat} {r : Option Value × pv_M} {s : pv_F} {v1 : Nat} {v2 : Int32} {v3 : Int32} {v4 : Int32} (g1 : v1 ∈ pv_iam) (st : Int32 × pv_T) (o : (Int32 × pv_T) ⊕ (Int32 × pv_T)) (h : f155_wear_b1 v1 v2 v3 st = some o) (hK : pv_Kq (f155_wear_b1_H xs L d r s v1 v2 v3 v4) (f155_wear_b1_X xs L d r s v1 v2 v3 v4) o) : f155_wear_b1_H xs L d r s v1 v2 v3 v4 st := by
  obtain ⟨v5, T⟩ := st
  show pv_Ev xs L (d + 2) 155 (0, 0, 13, [some (.ref 94), some (.ref v1), some (.int v2), some (.int v3), some (.int v4), some (.int v5)], [], pv_mm s T) r
  unfold f155_wear_b1 at h
  dsimp only at h
  refine pv_e_bk (ps := [(13, .iload 5, 2), (15, .iload_n 3, 1), (16, .iconst 1, 1), (17, .isub, 1)]) (t' := (0, 0, 18, [some (.ref 94), some (.ref v1), some (.int v2), some (.int v3), some (.int v4), some (.int v5)], [.int (v3 - (1:Int32)), .int v5], pv_mm s T)) (by decide +kernel) rfl ?_
  refine pv_e_icmpge (off := 23) (b := 41) (pc' := 21) (by decide +kernel) (by decide +kernel) rfl (fun c3 => ?_) (fun c3 => ?_)
  · rw [if_pos c3] at h
    obtain rfl := Option.some.inj h
    exact hK _
  · rw [if_neg c3] at h
    refine pv_e_bk (ps := [(21, .aload_n 1, 1), (22, .iload_n 2, 1), (23, .iload 5, 2), (25, .iadd, 1), (26, .aload_n 1, 1), (27, .iload_n 2, 1), (28, .iload 5, 2), (30, .iadd, 1), (31, .iconst 1, 1), (32, .iadd, 1)]) (t' := (0, 0, 33, [some (.ref 94), some (.ref v1), some (.int v2), some (.int v3), some (.int v4), some (.int v5)], [.int ((v2 + v5) + (1:Int32)), .ref v1, .int (v2 + v5), .ref v1], pv_mm s T)) (by decide +kernel) rfl ?_
    obtain ⟨q4, e5, h⟩ := Option.bind_eq_some_iff.mp h
    refine pv_e_rm (pc' := 34) (by decide +kernel) (im g1).2 (im g1).1 e5 rfl ?_
    obtain ⟨T6, e7, h⟩ := Option.bind_eq_some_iff.mp h
    refine pv_e_wm (pc' := 35) (by decide +kernel) (im g1).2 (im g1).1 e7 rfl ?_
    refine pv_e_bk (ps := [(35, .iinc 5 1, 3), (38, .goto (-25), 3)]) (t' := (0, 0, 13, [some (.ref 94), some (.ref v1), some (.int v2), some (.int v3), some (.int v4), some (.int (v5 + (1:Int32)))], [], pv_mm s T6)) (by decide +kernel) rfl ?_
    obtain rfl := Option.some.inj h
    exact hK
theorem ee155 {xs : Nat → Int32} {L : Nat} (d : Nat) (x1 : Nat) (x2 : Int32) (x3 : Int32) {s : pv_F} {T : pv_T} {q : Int32 × pv_T} (g1 : x1 ∈ pv_iam) (h : f155_wear x1 x2 x3 T = some q) : pv_Ev xs L (d + 2) 155 (0, 0, 0, [some (.ref 94), some (.ref x1), some (.int x2), some (.int x3), none, none], [], pv_mm s T) (some (.int q.1), pv_mm s q.2) := by
  generalize hr : ((some (.int q.1), pv_mm s q.2) : Option Value × pv_M) = r
  unfold f155_wear at h
  refine pv_e_bk (ps := [(0, .aload_n 0, 1), (1, .aload_n 1, 1), (2, .iload_n 2, 1), (3, .iload_n 3, 1)]) (t' := (0, 0, 4, [some (.ref 94), some (.ref x1), some (.int x2), some (.int x3), none, none], [.int x3, .int x2, .ref x1, .ref 94], pv_mm s T)) (by decide +kernel) rfl ?_
  obtain ⟨q2, e1, h⟩ := Option.bind_eq_some_iff.mp h
  refine pv_e_cvi (d := d + 1) (i := 179) (z := 154) (np := 3) (ml := 5) (ci := 6) (As := [.ref x1, .int x2, .int x3]) (rs := []) (pc' := 7) (by decide +kernel) rfl rfl rfl rfl (Nat.le_of_ble_eq_true rfl) (Nat.le_of_ble_eq_true rfl) rfl (ee154 (d + 0) x1 x2 x3 g1 e1) ?_
  refine pv_e_bk (ps := [(7, .istore 4, 2), (9, .iload 4, 2), (11, .istore 5, 2)]) (t' := (0, 0, 13, [some (.ref 94), some (.ref x1), some (.int x2), some (.int x3), some (.int q2), some (.int q2)], [], pv_mm s T)) (by decide +kernel) rfl ?_
  obtain ⟨⟨w8, T9⟩, e11, h⟩ := Option.bind_eq_some_iff.mp h
  dsimp only at h
  have hx10 : f155_wear_b1_X xs L d r s x1 x2 x3 q2 (w8, T9) := by
    show ∀ z5 : Option Value, pv_Ev xs L (d + 2) 155 (0, 0, 41, [some (.ref 94), some (.ref x1), some (.int x2), some (.int x3), some (.int q2), z5], [], pv_mm s T9) r
    intro z5
    refine pv_e_bk (ps := [(41, .iload_n 3, 1), (42, .iconst 1, 1), (43, .isub, 1)]) (t' := (0, 0, 44, [some (.ref 94), some (.ref x1), some (.int x2), some (.int x3), some (.int q2), z5], [.int (x3 - (1:Int32))], pv_mm s T9)) (by decide +kernel) rfl ?_
    obtain rfl := Option.some.inj h
    cases hr
    exact pv_e_ri (by decide +kernel)
  exact pv_lq_ok (H := f155_wear_b1_H xs L d r s x1 x2 x3 q2) (X := f155_wear_b1_X xs L d r s x1 x2 x3 q2) (f155_wear_b1_ok (xs := xs) (L := L) (d := d) (r := r) (s := s) (v1 := x1) (v2 := x2) (v3 := x3) (v4 := q2) g1) 20000 _ _ e11 hx10
def f156_comeOne (x1 : Int32) (T : pv_T) : Option (pv_T) :=
  (pv_rd T.1 101 7 x1).bind fun q1 =>
  ((
    if q1 = (4:Int32) then
      (pv_rd T.1 105 78 ((49:Int32) + x1)).bind fun q27 =>
      if q27 = 0 then
        some (1:Int32)
      else
        some (0:Int32)
    else
      some (0:Int32)) : Option (Int32)).bind fun t3 =>
  ((
    if t3 = 0 then
      some (0:Int32)
    else
      some (1:Int32)) : Option (Int32)).bind fun t4 =>
  (pv_wm T 105 78 ((49:Int32) + x1) t4).bind fun T5 =>
  ((
    if t3 = 0 then
      (f142_lenOf x1 T5).bind fun q12 =>
      if q12 ≤ 0 then
        some T5
      else
        (f142_lenOf x1 T5).bind fun q15 =>
        (f155_wear 105 ((6:Int32) * x1) q15 T5).bind fun (q17, T18) =>
        (pv_wm T18 105 78 ((42:Int32) + x1) q17).bind fun T19 =>
        some T19
    else
      some T5) : Option (pv_T)).bind fun T7 =>
  some T7
theorem ee156 {xs : Nat → Int32} {L : Nat} (d : Nat) (x1 : Int32) {s : pv_F} {T : pv_T} {q : pv_T}  (h : f156_comeOne x1 T = some q) : pv_Ev xs L (d + 3) 156 (0, 0, 0, [some (.ref 94), some (.int x1), none], [], pv_mm s T) (none, pv_mm s q) := by
  generalize hr : ((none, pv_mm s q) : Option Value × pv_M) = r
  unfold f156_comeOne at h
  refine pv_e_bk (ps := [(0, .aload_n 0, 1)]) (t' := (0, 0, 1, [some (.ref 94), some (.int x1), none], [.ref 94], pv_mm s T)) (by decide +kernel) rfl ?_
  refine pv_e_gr (i := 32) (ci := 6) (j := 11) (b := 101) (pc' := 4) (by decide +kernel) rfl rfl rfl ?_
  refine pv_e_bk (ps := [(4, .iload_n 1, 1)]) (t' := (0, 0, 5, [some (.ref 94), some (.int x1), none], [.int x1, .ref 101], pv_mm s T)) (by decide +kernel) rfl ?_
  obtain ⟨q1, e2, h⟩ := Option.bind_eq_some_iff.mp h
  refine pv_e_rm (pc' := 6) (by decide +kernel) (by decide) rfl e2 rfl ?_
  refine pv_e_bk (ps := [(6, .iconst 4, 1)]) (t' := (0, 0, 7, [some (.ref 94), some (.int x1), none], [.int (4:Int32), .int q1], pv_mm s T)) (by decide +kernel) rfl ?_
  obtain ⟨t3, hv24, h⟩ := Option.bind_eq_some_iff.mp h
  have hJ25 : pv_Ev xs L (d + 3) 156 (0, 0, 27, [some (.ref 94), some (.int x1), none], [.int t3], pv_mm s T) r := by
    refine pv_e_bk (ps := [(27, .istore_n 2, 1), (28, .aload_n 0, 1)]) (t' := (0, 0, 29, [some (.ref 94), some (.int x1), some (.int t3)], [.ref 94], pv_mm s T)) (by decide +kernel) rfl ?_
    refine pv_e_gr (i := 44) (ci := 6) (j := 17) (b := 105) (pc' := 32) (by decide +kernel) rfl rfl rfl ?_
    refine pv_e_bk (ps := [(32, .bipush 49, 2), (34, .iload_n 1, 1), (35, .iadd, 1), (36, .iload_n 2, 1)]) (t' := (0, 0, 37, [some (.ref 94), some (.int x1), some (.int t3)], [.int t3, .int ((49:Int32) + x1), .ref 105], pv_mm s T)) (by decide +kernel) rfl ?_
    obtain ⟨t4, hv21, h⟩ := Option.bind_eq_some_iff.mp h
    have hJ22 : pv_Ev xs L (d + 3) 156 (0, 0, 45, [some (.ref 94), some (.int x1), some (.int t3)], [.int t4, .int ((49:Int32) + x1), .ref 105], pv_mm s T) r := by
      obtain ⟨T5, e6, h⟩ := Option.bind_eq_some_iff.mp h
      refine pv_e_wm (pc' := 46) (by decide +kernel) (by decide) rfl e6 rfl ?_
      refine pv_e_bk (ps := [(46, .iload_n 2, 1)]) (t' := (0, 0, 47, [some (.ref 94), some (.int x1), some (.int t3)], [.int t3], pv_mm s T5)) (by decide +kernel) rfl ?_
      obtain ⟨T7, hv8, h⟩ := Option.bind_eq_some_iff.mp h
      have hJ9 : pv_Ev xs L (d + 3) 156 (0, 0, 84, [some (.ref 94), some (.int x1), some (.int t3)], [], pv_mm s T7) r := by
        obtain rfl := Option.some.inj h
        cases hr
        exact pv_e_rv (by decide +kernel)
      clear h
      have h := hv8
      clear hv8
      refine pv_e_ifne (off := 37) (b := 84) (pc' := 50) (by decide +kernel) (by decide +kernel) rfl (fun c10 => ?_) (fun c10 => ?_)
      · rw [if_pos c10] at h
        refine pv_e_bk (ps := [(50, .aload_n 0, 1), (51, .iload_n 1, 1)]) (t' := (0, 0, 52, [some (.ref 94), some (.int x1), some (.int t3)], [.int x1, .ref 94], pv_mm s T5)) (by decide +kernel) rfl ?_
        obtain ⟨q12, e11, h⟩ := Option.bind_eq_some_iff.mp h
        refine pv_e_cvi (d := d + 2) (i := 142) (z := 142) (np := 1) (ml := 2) (ci := 6) (As := [.int x1]) (rs := []) (pc' := 55) (by decide +kernel) rfl rfl rfl rfl (Nat.le_of_ble_eq_true rfl) (Nat.le_of_ble_eq_true rfl) rfl (ee142 (d + 2) x1 e11) ?_
        refine pv_e_ifle (off := 29) (b := 84) (pc' := 58) (by decide +kernel) (by decide +kernel) rfl (fun c13 => ?_) (fun c13 => ?_)
        · rw [if_pos c13] at h
          obtain rfl := Option.some.inj h
          exact hJ9
        · rw [if_neg c13] at h
          refine pv_e_bk (ps := [(58, .aload_n 0, 1)]) (t' := (0, 0, 59, [some (.ref 94), some (.int x1), some (.int t3)], [.ref 94], pv_mm s T5)) (by decide +kernel) rfl ?_
          refine pv_e_gr (i := 44) (ci := 6) (j := 17) (b := 105) (pc' := 62) (by decide +kernel) rfl rfl rfl ?_
          refine pv_e_bk (ps := [(62, .bipush 42, 2), (64, .iload_n 1, 1), (65, .iadd, 1), (66, .aload_n 0, 1), (67, .aload_n 0, 1)]) (t' := (0, 0, 68, [some (.ref 94), some (.int x1), some (.int t3)], [.ref 94, .ref 94, .int ((42:Int32) + x1), .ref 105], pv_mm s T5)) (by decide +kernel) rfl ?_
          refine pv_e_gr (i := 44) (ci := 6) (j := 17) (b := 105) (pc' := 71) (by decide +kernel) rfl rfl rfl ?_
          refine pv_e_bk (ps := [(71, .bipush 6, 2), (73, .iload_n 1, 1), (74, .imul, 1), (75, .aload_n 0, 1), (76, .iload_n 1, 1)]) (t' := (0, 0, 77, [some (.ref 94), some (.int x1), some (.int t3)], [.int x1, .ref 94, .int ((6:Int32) * x1), .ref 105, .ref 94, .int ((42:Int32) + x1), .ref 105], pv_mm s T5)) (by decide +kernel) rfl ?_
          obtain ⟨q15, e14, h⟩ := Option.bind_eq_some_iff.mp h
          refine pv_e_cvi (d := d + 2) (i := 142) (z := 142) (np := 1) (ml := 2) (ci := 6) (As := [.int x1]) (rs := [.int ((6:Int32) * x1), .ref 105, .ref 94, .int ((42:Int32) + x1), .ref 105]) (pc' := 80) (by decide +kernel) rfl rfl rfl rfl (Nat.le_of_ble_eq_true rfl) (Nat.le_of_ble_eq_true rfl) rfl (ee142 (d + 2) x1 e14) ?_
          obtain ⟨⟨q17, T18⟩, e16, h⟩ := Option.bind_eq_some_iff.mp h
          dsimp only at h
          refine pv_e_cvi (d := d + 2) (i := 183) (z := 155) (np := 3) (ml := 6) (ci := 6) (As := [.ref 105, .int ((6:Int32) * x1), .int q15]) (rs := [.int ((42:Int32) + x1), .ref 105]) (pc' := 83) (by decide +kernel) rfl rfl rfl rfl (Nat.le_of_ble_eq_true rfl) (Nat.le_of_ble_eq_true rfl) rfl (ee155 (d + 0) 105 ((6:Int32) * x1) q15 (by decide) e16) ?_
          obtain ⟨T19, e20, h⟩ := Option.bind_eq_some_iff.mp h
          refine pv_e_wm (pc' := 84) (by decide +kernel) (by decide) rfl e20 rfl ?_
          obtain rfl := Option.some.inj h
          exact hJ9
      · rw [if_neg c10] at h
        obtain rfl := Option.some.inj h
        exact hJ9
    clear h
    have h := hv21
    clear hv21
    refine pv_e_ifeq (off := 7) (b := 44) (pc' := 40) (by decide +kernel) (by decide +kernel) rfl (fun c23 => ?_) (fun c23 => ?_)
    · rw [if_pos c23] at h
      refine pv_e_bk (ps := [(44, .iconst 0, 1)]) (t' := (0, 0, 45, [some (.ref 94), some (.int x1), some (.int t3)], [.int (0:Int32), .int ((49:Int32) + x1), .ref 105], pv_mm s T)) (by decide +kernel) rfl ?_
      obtain rfl := Option.some.inj h
      exact hJ22
    · rw [if_neg c23] at h
      refine pv_e_bk (ps := [(40, .iconst 1, 1), (41, .goto 4, 3)]) (t' := (0, 0, 45, [some (.ref 94), some (.int x1), some (.int t3)], [.int (1:Int32), .int ((49:Int32) + x1), .ref 105], pv_mm s T)) (by decide +kernel) rfl ?_
      obtain rfl := Option.some.inj h
      exact hJ22
  clear h
  have h := hv24
  clear hv24
  refine pv_e_icmpne (off := 19) (b := 26) (pc' := 10) (by decide +kernel) (by decide +kernel) rfl (fun c26 => ?_) (fun c26 => ?_)
  · rw [if_pos c26] at h
    refine pv_e_bk (ps := [(10, .aload_n 0, 1)]) (t' := (0, 0, 11, [some (.ref 94), some (.int x1), none], [.ref 94], pv_mm s T)) (by decide +kernel) rfl ?_
    refine pv_e_gr (i := 44) (ci := 6) (j := 17) (b := 105) (pc' := 14) (by decide +kernel) rfl rfl rfl ?_
    refine pv_e_bk (ps := [(14, .bipush 49, 2), (16, .iload_n 1, 1), (17, .iadd, 1)]) (t' := (0, 0, 18, [some (.ref 94), some (.int x1), none], [.int ((49:Int32) + x1), .ref 105], pv_mm s T)) (by decide +kernel) rfl ?_
    obtain ⟨q27, e28, h⟩ := Option.bind_eq_some_iff.mp h
    refine pv_e_rm (pc' := 19) (by decide +kernel) (by decide) rfl e28 rfl ?_
    refine pv_e_ifne (off := 7) (b := 26) (pc' := 22) (by decide +kernel) (by decide +kernel) rfl (fun c29 => ?_) (fun c29 => ?_)
    · rw [if_pos c29] at h
      refine pv_e_bk (ps := [(22, .iconst 1, 1), (23, .goto 4, 3)]) (t' := (0, 0, 27, [some (.ref 94), some (.int x1), none], [.int (1:Int32)], pv_mm s T)) (by decide +kernel) rfl ?_
      obtain rfl := Option.some.inj h
      exact hJ25
    · rw [if_neg c29] at h
      refine pv_e_bk (ps := [(26, .iconst 0, 1)]) (t' := (0, 0, 27, [some (.ref 94), some (.int x1), none], [.int (0:Int32)], pv_mm s T)) (by decide +kernel) rfl ?_
      obtain rfl := Option.some.inj h
      exact hJ25
  · rw [if_neg c26] at h
    refine pv_e_bk (ps := [(26, .iconst 0, 1)]) (t' := (0, 0, 27, [some (.ref 94), some (.int x1), none], [.int (0:Int32)], pv_mm s T)) (by decide +kernel) rfl ?_
    obtain rfl := Option.some.inj h
    exact hJ25
