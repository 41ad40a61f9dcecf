-- printed by wip/whole/gen/parts.py: methods as functions over the ints of the memory, and that the pure machine runs so
def f176_haveOne_b2 (v1 : Int32) (v2 : Int32) (v3 : Int32) (T : pv_T) (st : Int32 × Int32) : Option ((Int32 × Int32) ⊕ (Int32 × Int32)) := match st with
  | (v4, v5) =>
    if (T.1 94 26) ≤ v5 then
      some (.inr (v4, v5))
    else
      ((
        if v4 = 0 then
          some (0:Int32)
        else
          (f142_letterOf v3 v5 T).bind fun q9 =>
          (pv_rd T.1 111 6 v5).bind fun q10 =>
          if q9 = q10 then
            some (1:Int32)
          else
            some (0:Int32)) : Option (Int32)).bind fun t4 =>
      some (.inl (t4, v5 + (1:Int32)))
def f176_haveOne_b2_H (xs : Nat → Int32) (L d : Nat) (r : Option Value × pv_M) (s : pv_F) (v1 : Int32) (v2 : Int32) (v3 : Int32) (T : pv_T) (st : Int32 × Int32) : Prop := match st with
  | (v4, v5) => pv_Ev xs L (d + 1) 176 (0, 0, 49, [some (.ref 94), some (.int v1), some (.int v2), some (.int v3), some (.int v4), some (.int v5)], [], pv_mm s T) r
def f176_haveOne_b2_X (xs : Nat → Int32) (L d : Nat) (r : Option Value × pv_M) (s : pv_F) (v1 : Int32) (v2 : Int32) (v3 : Int32) (T : pv_T) (st : Int32 × Int32) : Prop := match st with
  | (v4, v5) => ∀ z5 : Option Value, pv_Ev xs L (d + 1) 176 (0, 0, 93, [some (.ref 94), some (.int v1), some (.int v2), some (.int v3), some (.int v4), z5], [], pv_mm s T) r
def f176_haveOne_b1 (v1 : Int32) (T : pv_T) (st : Int32 × Int32) : Option ((Int32 × Int32) ⊕ (Int32 × Int32)) := match st with
  | (v2, v3) =>
    if (T.1 94 8) ≤ v3 then
      some (.inr (v2, v3))
    else
      ((
        if v3 = v1 then
          some (0:Int32)
        else
          (pv_rd T.1 101 7 v3).bind fun q24 =>
          if q24 = (3:Int32) then
            some (0:Int32)
          else
            (f141_lenOf v3 T).bind fun q28 =>
            if q28 = (T.1 94 26) then
              some (1:Int32)
            else
              some (0:Int32)) : Option (Int32)).bind fun t2 =>
      (pv_lq (f176_haveOne_b2 v1 v2 v3 T) 20000 (t2, (0:Int32))).bind fun (w13, w14) =>
      ((
        if w13 = 0 then
          some (0:Int32)
        else
          some ((1:Int32) <<< (v3 &&& 31))) : Option (Int32)).bind fun t15 =>
      some (.inl (v2 ||| t15, v3 + (1:Int32)))
def f176_haveOne_b1_H (xs : Nat → Int32) (L d : Nat) (r : Option Value × pv_M) (s : pv_F) (v1 : Int32) (T : pv_T) (st : Int32 × Int32) : Prop := match st with
  | (v2, v3) => ∀ z4 : Option Value, ∀ z5 : Option Value, pv_Ev xs L (d + 1) 176 (0, 0, 4, [some (.ref 94), some (.int v1), some (.int v2), some (.int v3), z4, z5], [], pv_mm s T) r
def f176_haveOne_b1_X (xs : Nat → Int32) (L d : Nat) (r : Option Value × pv_M) (s : pv_F) (v1 : Int32) (T : pv_T) (st : Int32 × Int32) : Prop := match st with
  | (v2, v3) => ∀ z3 : Option Value, ∀ z4 : Option Value, ∀ z5 : Option Value, pv_Ev xs L (d + 1) 176 (0, 0, 114, [some (.ref 94), some (.int v1), some (.int v2), z3, z4, z5], [], pv_mm s T) r
def f176_haveOne (x1 : Int32) (T : pv_T) : Option (Int32) :=
  (pv_lq (f176_haveOne_b1 x1 T) 20000 ((0:Int32), (0:Int32))).bind fun (w30, w31) =>
  some w30
theorem f176_haveOne_b2_ok {xs : Nat → Int32} {L d : Nat} {r : Option Value × pv_M} {s : pv_F} {v1 : Int32} {v2 : Int32} {v3 : Int32} {T : pv_T} (st : Int32 × Int32) (o : (Int32 × Int32) ⊕ (Int32 × Int32)) (h : f176_haveOne_b2 v1 v2 v3 T st = some o) (hK : pv_Kq (f176_haveOne_b2_H xs L d r s v1 v2 v3 T) (f176_haveOne_b2_X xs L d r s v1 v2 v3 T) o) : f176_haveOne_b2_H xs L d r s v1 v2 v3 T st := by
  obtain ⟨v4, v5⟩ := st
  show pv_Ev xs L (d + 1) 176 (0, 0, 49, [some (.ref 94), some (.int v1), some (.int v2), some (.int v3), some (.int v4), some (.int v5)], [], pv_mm s T) r
  unfold f176_haveOne_b2 at h
  dsimp only at h
  refine pv_e_bk (ps := [(49, .iload 5, 2), (51, .aload_n 0, 1)]) (t' := (0, 0, 52, [some (.ref 94), some (.int v1), some (.int v2), some (.int v3), some (.int v4), some (.int v5)], [.ref 94, .int v5], pv_mm s T)) (by decide +kernel) rfl ?_
  refine pv_e_gm (i := 225) (ci := 6) (j := 26) (pc' := 55) (by decide +kernel) (by decide) rfl rfl rfl ?_
  refine pv_e_icmpge (off := 38) (b := 93) (pc' := 58) (by decide +kernel) (by decide +kernel) rfl (fun c3 => ?_) (fun c3 => ?_)
  · rw [if_pos c3] at h
    cases h
    exact hK _
  · rw [if_neg c3] at h
    refine pv_e_bk (ps := [(58, .iload 4, 2)]) (t' := (0, 0, 60, [some (.ref 94), some (.int v1), some (.int v2), some (.int v3), some (.int v4), some (.int v5)], [.int v4], pv_mm s T)) (by decide +kernel) rfl ?_
    obtain ⟨t4, hv5, h⟩ := Option.bind_eq_some_iff.mp h
    have hJ6 : pv_Ev xs L (d + 1) 176 (0, 0, 85, [some (.ref 94), some (.int v1), some (.int v2), some (.int v3), some (.int v4), some (.int v5)], [.int t4], pv_mm s T) r := by
      refine pv_e_bk (ps := [(85, .istore 4, 2), (87, .iinc 5 1, 3), (90, .goto (-41), 3)]) (t' := (0, 0, 49, [some (.ref 94), some (.int v1), some (.int v2), some (.int v3), some (.int t4), some (.int (v5 + (1:Int32)))], [], pv_mm s T)) (by decide +kernel) rfl ?_
      cases h
      exact hK
    clear h
    have h := hv5
    clear hv5
    refine pv_e_ifeq (off := 24) (b := 84) (pc' := 63) (by decide +kernel) (by decide +kernel) rfl (fun c7 => ?_) (fun c7 => ?_)
    · rw [if_pos c7] at h
      refine pv_e_bk (ps := [(84, .iconst 0, 1)]) (t' := (0, 0, 85, [some (.ref 94), some (.int v1), some (.int v2), some (.int v3), some (.int v4), some (.int v5)], [.int (0:Int32)], pv_mm s T)) (by decide +kernel) rfl ?_
      cases h
      exact hJ6
    · rw [if_neg c7] at h
      refine pv_e_bk (ps := [(63, .aload_n 0, 1), (64, .iload_n 3, 1), (65, .iload 5, 2)]) (t' := (0, 0, 67, [some (.ref 94), some (.int v1), some (.int v2), some (.int v3), some (.int v4), some (.int v5)], [.int v5, .int v3, .ref 94], pv_mm s T)) (by decide +kernel) rfl ?_
      obtain ⟨q9, e8, h⟩ := Option.bind_eq_some_iff.mp h
      refine pv_e_cvi (d := d + 0) (i := 145) (z := 142) (np := 2) (ml := 3) (ci := 6) (As := [.int v3, .int v5]) (rs := []) (pc' := 70) (by decide +kernel) rfl rfl rfl rfl (Nat.le_of_ble_eq_true rfl) (Nat.le_of_ble_eq_true rfl) rfl (ee142 (d + 0) v3 v5 e8) ?_
      refine pv_e_bk (ps := [(70, .aload_n 0, 1)]) (t' := (0, 0, 71, [some (.ref 94), some (.int v1), some (.int v2), some (.int v3), some (.int v4), some (.int v5)], [.ref 94, .int q9], pv_mm s T)) (by decide +kernel) rfl ?_
      refine pv_e_gr (i := 62) (ci := 6) (j := 25) (b := 111) (pc' := 74) (by decide +kernel) rfl rfl rfl ?_
      refine pv_e_bk (ps := [(74, .iload 5, 2)]) (t' := (0, 0, 76, [some (.ref 94), some (.int v1), some (.int v2), some (.int v3), some (.int v4), some (.int v5)], [.int v5, .ref 111, .int q9], pv_mm s T)) (by decide +kernel) rfl ?_
      obtain ⟨q10, e11, h⟩ := Option.bind_eq_some_iff.mp h
      refine pv_e_rm (pc' := 77) (by decide +kernel) (by decide) rfl e11 rfl ?_
      refine pv_e_icmpne (off := 7) (b := 84) (pc' := 80) (by decide +kernel) (by decide +kernel) rfl (fun c12 => ?_) (fun c12 => ?_)
      · rw [if_pos c12] at h
        refine pv_e_bk (ps := [(80, .iconst 1, 1), (81, .goto 4, 3)]) (t' := (0, 0, 85, [some (.ref 94), some (.int v1), some (.int v2), some (.int v3), some (.int v4), some (.int v5)], [.int (1:Int32)], pv_mm s T)) (by decide +kernel) rfl ?_
        cases h
        exact hJ6
      · rw [if_neg c12] at h
        refine pv_e_bk (ps := [(84, .iconst 0, 1)]) (t' := (0, 0, 85, [some (.ref 94), some (.int v1), some (.int v2), some (.int v3), some (.int v4), some (.int v5)], [.int (0:Int32)], pv_mm s T)) (by decide +kernel) rfl ?_
        cases h
        exact hJ6
theorem f176_haveOne_b1_ok {xs : Nat → Int32} {L d : Nat} {r : Option Value × pv_M} {s : pv_F} {v1 : Int32} {T : pv_T} (st : Int32 × Int32) (o : (Int32 × Int32) ⊕ (Int32 × Int32)) (h : f176_haveOne_b1 v1 T st = some o) (hK : pv_Kq (f176_haveOne_b1_H xs L d r s v1 T) (f176_haveOne_b1_X xs L d r s v1 T) o) : f176_haveOne_b1_H xs L d r s v1 T st := by
  obtain ⟨v2, v3⟩ := st
  show ∀ z4 : Option Value, ∀ z5 : Option Value, pv_Ev xs L (d + 1) 176 (0, 0, 4, [some (.ref 94), some (.int v1), some (.int v2), some (.int v3), z4, z5], [], pv_mm s T) r
  intro z4 z5
  unfold f176_haveOne_b1 at h
  dsimp only at h
  refine pv_e_bk (ps := [(4, .iload_n 3, 1), (5, .aload_n 0, 1)]) (t' := (0, 0, 6, [some (.ref 94), some (.int v1), some (.int v2), some (.int v3), z4, z5], [.ref 94, .int v3], pv_mm s T)) (by decide +kernel) rfl ?_
  refine pv_e_gm (i := 136) (ci := 6) (j := 8) (pc' := 9) (by decide +kernel) (by decide) rfl rfl rfl ?_
  refine pv_e_icmpge (off := 105) (b := 114) (pc' := 12) (by decide +kernel) (by decide +kernel) rfl (fun c1 => ?_) (fun c1 => ?_)
  · rw [if_pos c1] at h
    cases h
    exact hK _ _ _
  · rw [if_neg c1] at h
    refine pv_e_bk (ps := [(12, .iload_n 3, 1), (13, .iload_n 1, 1)]) (t' := (0, 0, 14, [some (.ref 94), some (.int v1), some (.int v2), some (.int v3), z4, z5], [.int v1, .int v3], pv_mm s T)) (by decide +kernel) rfl ?_
    obtain ⟨t2, hv21, h⟩ := Option.bind_eq_some_iff.mp h
    have hJ22 : pv_Ev xs L (d + 1) 176 (0, 0, 44, [some (.ref 94), some (.int v1), some (.int v2), some (.int v3), z4, z5], [.int t2], pv_mm s T) r := by
      refine pv_e_bk (ps := [(44, .istore 4, 2), (46, .iconst 0, 1), (47, .istore 5, 2)]) (t' := (0, 0, 49, [some (.ref 94), some (.int v1), some (.int v2), some (.int v3), some (.int t2), some (.int (0:Int32))], [], pv_mm s T)) (by decide +kernel) rfl ?_
      obtain ⟨⟨w13, w14⟩, e20, h⟩ := Option.bind_eq_some_iff.mp h
      dsimp only at h
      have hx19 : f176_haveOne_b2_X xs L d r s v1 v2 v3 T (w13, w14) := by
        show ∀ z5 : Option Value, pv_Ev xs L (d + 1) 176 (0, 0, 93, [some (.ref 94), some (.int v1), some (.int v2), some (.int v3), some (.int w13), z5], [], pv_mm s T) r
        intro z5
        refine pv_e_bk (ps := [(93, .iload_n 2, 1), (94, .iload 4, 2)]) (t' := (0, 0, 96, [some (.ref 94), some (.int v1), some (.int v2), some (.int v3), some (.int w13), z5], [.int w13, .int v2], pv_mm s T)) (by decide +kernel) rfl ?_
        obtain ⟨t15, hv16, h⟩ := Option.bind_eq_some_iff.mp h
        have hJ17 : pv_Ev xs L (d + 1) 176 (0, 0, 106, [some (.ref 94), some (.int v1), some (.int v2), some (.int v3), some (.int w13), z5], [.int t15, .int v2], pv_mm s T) r := by
          refine pv_e_bk (ps := [(106, .ior, 1), (107, .istore_n 2, 1), (108, .iinc 3 1, 3), (111, .goto (-107), 3)]) (t' := (0, 0, 4, [some (.ref 94), some (.int v1), some (.int (v2 ||| t15)), some (.int (v3 + (1:Int32))), some (.int w13), z5], [], pv_mm s T)) (by decide +kernel) rfl ?_
          cases h
          exact hK _ _
        clear h
        have h := hv16
        clear hv16
        refine pv_e_ifeq (off := 9) (b := 105) (pc' := 99) (by decide +kernel) (by decide +kernel) rfl (fun c18 => ?_) (fun c18 => ?_)
        · rw [if_pos c18] at h
          refine pv_e_bk (ps := [(105, .iconst 0, 1)]) (t' := (0, 0, 106, [some (.ref 94), some (.int v1), some (.int v2), some (.int v3), some (.int w13), z5], [.int (0:Int32), .int v2], pv_mm s T)) (by decide +kernel) rfl ?_
          cases h
          exact hJ17
        · rw [if_neg c18] at h
          refine pv_e_bk (ps := [(99, .iconst 1, 1), (100, .iload_n 3, 1), (101, .ishl, 1), (102, .goto 4, 3)]) (t' := (0, 0, 106, [some (.ref 94), some (.int v1), some (.int v2), some (.int v3), some (.int w13), z5], [.int ((1:Int32) <<< (v3 &&& 31)), .int v2], pv_mm s T)) (by decide +kernel) rfl ?_
          cases h
          exact hJ17
      exact pv_lq_ok (H := f176_haveOne_b2_H xs L d r s v1 v2 v3 T) (X := f176_haveOne_b2_X xs L d r s v1 v2 v3 T) (f176_haveOne_b2_ok (xs := xs) (L := L) (d := d) (r := r) (s := s) (v1 := v1) (v2 := v2) (v3 := v3) (T := T)) 20000 _ _ e20 hx19
    clear h
    have h := hv21
    clear hv21
    refine pv_e_icmpeq (off := 29) (b := 43) (pc' := 17) (by decide +kernel) (by decide +kernel) rfl (fun c23 => ?_) (fun c23 => ?_)
    · rw [if_pos c23] at h
      refine pv_e_bk (ps := [(43, .iconst 0, 1)]) (t' := (0, 0, 44, [some (.ref 94), some (.int v1), some (.int v2), some (.int v3), z4, z5], [.int (0:Int32)], pv_mm s T)) (by decide +kernel) rfl ?_
      cases h
      exact hJ22
    · rw [if_neg c23] at h
      refine pv_e_bk (ps := [(17, .aload_n 0, 1)]) (t' := (0, 0, 18, [some (.ref 94), some (.int v1), some (.int v2), some (.int v3), z4, z5], [.ref 94], pv_mm s T)) (by decide +kernel) rfl ?_
      refine pv_e_gr (i := 32) (ci := 6) (j := 11) (b := 101) (pc' := 21) (by decide +kernel) rfl rfl rfl ?_
      refine pv_e_bk (ps := [(21, .iload_n 3, 1)]) (t' := (0, 0, 22, [some (.ref 94), some (.int v1), some (.int v2), some (.int v3), z4, z5], [.int v3, .ref 101], pv_mm s T)) (by decide +kernel) rfl ?_
      obtain ⟨q24, e25, h⟩ := Option.bind_eq_some_iff.mp h
      refine pv_e_rm (pc' := 23) (by decide +kernel) (by decide) rfl e25 rfl ?_
      refine pv_e_bk (ps := [(23, .iconst 3, 1)]) (t' := (0, 0, 24, [some (.ref 94), some (.int v1), some (.int v2), some (.int v3), z4, z5], [.int (3:Int32), .int q24], pv_mm s T)) (by decide +kernel) rfl ?_
      refine pv_e_icmpeq (off := 19) (b := 43) (pc' := 27) (by decide +kernel) (by decide +kernel) rfl (fun c26 => ?_) (fun c26 => ?_)
      · rw [if_pos c26] at h
        refine pv_e_bk (ps := [(43, .iconst 0, 1)]) (t' := (0, 0, 44, [some (.ref 94), some (.int v1), some (.int v2), some (.int v3), z4, z5], [.int (0:Int32)], pv_mm s T)) (by decide +kernel) rfl ?_
        cases h
        exact hJ22
      · rw [if_neg c26] at h
        refine pv_e_bk (ps := [(27, .aload_n 0, 1), (28, .iload_n 3, 1)]) (t' := (0, 0, 29, [some (.ref 94), some (.int v1), some (.int v2), some (.int v3), z4, z5], [.int v3, .ref 94], pv_mm s T)) (by decide +kernel) rfl ?_
        obtain ⟨q28, e27, h⟩ := Option.bind_eq_some_iff.mp h
        refine pv_e_cvi (d := d + 0) (i := 142) (z := 141) (np := 1) (ml := 2) (ci := 6) (As := [.int v3]) (rs := []) (pc' := 32) (by decide +kernel) rfl rfl rfl rfl (Nat.le_of_ble_eq_true rfl) (Nat.le_of_ble_eq_true rfl) rfl (ee141 (d + 0) v3 e27) ?_
        refine pv_e_bk (ps := [(32, .aload_n 0, 1)]) (t' := (0, 0, 33, [some (.ref 94), some (.int v1), some (.int v2), some (.int v3), z4, z5], [.ref 94, .int q28], pv_mm s T)) (by decide +kernel) rfl ?_
        refine pv_e_gm (i := 225) (ci := 6) (j := 26) (pc' := 36) (by decide +kernel) (by decide) rfl rfl rfl ?_
        refine pv_e_icmpne (off := 7) (b := 43) (pc' := 39) (by decide +kernel) (by decide +kernel) rfl (fun c29 => ?_) (fun c29 => ?_)
        · rw [if_pos c29] at h
          refine pv_e_bk (ps := [(39, .iconst 1, 1), (40, .goto 4, 3)]) (t' := (0, 0, 44, [some (.ref 94), some (.int v1), some (.int v2), some (.int v3), z4, z5], [.int (1:Int32)], pv_mm s T)) (by decide +kernel) rfl ?_
          cases h
          exact hJ22
        · rw [if_neg c29] at h
          refine pv_e_bk (ps := [(43, .iconst 0, 1)]) (t' := (0, 0, 44, [some (.ref 94), some (.int v1), some (.int v2), some (.int v3), z4, z5], [.int (0:Int32)], pv_mm s T)) (by decide +kernel) rfl ?_
          cases h
          exact hJ22
theorem ee176 {xs : Nat → Int32} {L : Nat} (d : Nat) (x1 : Int32) {s : pv_F} {T : pv_T} {q : Int32}  (h : f176_haveOne x1 T = some q) : pv_Ev xs L (d + 1) 176 (0, 0, 0, [some (.ref 94), some (.int x1), none, none, none, none], [], pv_mm s T) (some (.int q), pv_mm s T) := by
  generalize hr : ((some (.int q), pv_mm s T) : Option Value × pv_M) = r
  unfold f176_haveOne at h
  refine pv_e_bk (ps := [(0, .iconst 0, 1), (1, .istore_n 2, 1), (2, .iconst 0, 1), (3, .istore_n 3, 1)]) (t' := (0, 0, 4, [some (.ref 94), some (.int x1), some (.int (0:Int32)), some (.int (0:Int32)), none, none], [], pv_mm s T)) (by decide +kernel) rfl ?_
  obtain ⟨⟨w30, w31⟩, e33, h⟩ := Option.bind_eq_some_iff.mp h
  dsimp only at h
  have hx32 : f176_haveOne_b1_X xs L d r s x1 T (w30, w31) := by
    show ∀ z3 : Option Value, ∀ z4 : Option Value, ∀ z5 : Option Value, pv_Ev xs L (d + 1) 176 (0, 0, 114, [some (.ref 94), some (.int x1), some (.int w30), z3, z4, z5], [], pv_mm s T) r
    intro z3 z4 z5
    refine pv_e_bk (ps := [(114, .iload_n 2, 1)]) (t' := (0, 0, 115, [some (.ref 94), some (.int x1), some (.int w30), z3, z4, z5], [.int w30], pv_mm s T)) (by decide +kernel) rfl ?_
    cases h
    cases hr
    exact pv_e_ri (by decide +kernel)
  exact pv_lq_ok (H := f176_haveOne_b1_H xs L d r s x1 T) (X := f176_haveOne_b1_X xs L d r s x1 T) (f176_haveOne_b1_ok (xs := xs) (L := L) (d := d) (r := r) (s := s) (v1 := x1) (T := T)) 20000 _ _ e33 hx32 _ _
def f177_oneLasts_b1 (v1 : Int32) (st : Int32 × pv_T) : Option ((Int32 × pv_T) ⊕ (Int32 × pv_T)) := match st with
  | (v2, T) =>
    if (T.1 94 26) ≤ 0 then
      some (.inr (v2, T))
    else
      (f176_haveOne v1 T).bind fun q3 =>
      if q3 = 0 then
        (f154_wear 111 (0:Int32) (T.1 94 26) T).bind fun (q6, T7) =>
        (pv_pm T7 94 26 q6).bind fun T8 =>
        some (.inl (v2 + (1:Int32), T8))
      else
        some (.inr (v2, T))
def f177_oneLasts_b1_H (xs : Nat → Int32) (L d : Nat) (r : Option Value × pv_M) (s : pv_F) (v1 : Int32) (st : Int32 × pv_T) : Prop := match st with
  | (v2, T) => pv_Ev xs L (d + 3) 177 (0, 0, 2, [some (.ref 94), some (.int v1), some (.int v2)], [], pv_mm s T) r
def f177_oneLasts_b1_X (xs : Nat → Int32) (L d : Nat) (r : Option Value × pv_M) (s : pv_F) (v1 : Int32) (st : Int32 × pv_T) : Prop := match st with
  | (v2, T) => pv_Ev xs L (d + 3) 177 (0, 0, 40, [some (.ref 94), some (.int v1), some (.int v2)], [], pv_mm s T) r
def f177_oneLasts (x1 : Int32) (T : pv_T) : Option (Int32 × pv_T) :=
  (pv_lq (f177_oneLasts_b1 x1) 20000 ((0:Int32), T)).bind fun (w10, T11) =>
  some (w10, T11)
theorem f177_oneLasts_b1_ok {xs : Nat → Int32} {L d : Nat} {r : Option Value × pv_M} {s : pv_F} {v1 : Int32} (st : Int32 × pv_T) (o : (Int32 × pv_T) ⊕ (Int32 × pv_T)) (h : f177_oneLasts_b1 v1 st = some o) (hK : pv_Kq (f177_oneLasts_b1_H xs L d r s v1) (f177_oneLasts_b1_X xs L d r s v1) o) : f177_oneLasts_b1_H xs L d r s v1 st := by
  obtain ⟨v2, T⟩ := st
  show pv_Ev xs L (d + 3) 177 (0, 0, 2, [some (.ref 94), some (.int v1), some (.int v2)], [], pv_mm s T) r
  unfold f177_oneLasts_b1 at h
  dsimp only at h
  refine pv_e_bk (ps := [(2, .aload_n 0, 1)]) (t' := (0, 0, 3, [some (.ref 94), some (.int v1), some (.int v2)], [.ref 94], pv_mm s T)) (by decide +kernel) rfl ?_
  refine pv_e_gm (i := 225) (ci := 6) (j := 26) (pc' := 6) (by decide +kernel) (by decide) rfl rfl rfl ?_
  refine pv_e_ifle (off := 34) (b := 40) (pc' := 9) (by decide +kernel) (by decide +kernel) rfl (fun c1 => ?_) (fun c1 => ?_)
  · rw [if_pos c1] at h
    cases h
    exact hK
  · rw [if_neg c1] at h
    refine pv_e_bk (ps := [(9, .aload_n 0, 1), (10, .iload_n 1, 1)]) (t' := (0, 0, 11, [some (.ref 94), some (.int v1), some (.int v2)], [.int v1, .ref 94], pv_mm s T)) (by decide +kernel) rfl ?_
    obtain ⟨q3, e2, h⟩ := Option.bind_eq_some_iff.mp h
    refine pv_e_cvi (d := d + 2) (i := 228) (z := 176) (np := 1) (ml := 6) (ci := 6) (As := [.int v1]) (rs := []) (pc' := 14) (by decide +kernel) rfl rfl rfl rfl (Nat.le_of_ble_eq_true rfl) (Nat.le_of_ble_eq_true rfl) rfl (ee176 (d + 1) v1 e2) ?_
    refine pv_e_ifne (off := 26) (b := 40) (pc' := 17) (by decide +kernel) (by decide +kernel) rfl (fun c4 => ?_) (fun c4 => ?_)
    · rw [if_pos c4] at h
      refine pv_e_bk (ps := [(17, .aload_n 0, 1), (18, .aload_n 0, 1), (19, .aload_n 0, 1)]) (t' := (0, 0, 20, [some (.ref 94), some (.int v1), some (.int v2)], [.ref 94, .ref 94, .ref 94], pv_mm s T)) (by decide +kernel) rfl ?_
      refine pv_e_gr (i := 62) (ci := 6) (j := 25) (b := 111) (pc' := 23) (by decide +kernel) rfl rfl rfl ?_
      refine pv_e_bk (ps := [(23, .iconst 0, 1), (24, .aload_n 0, 1)]) (t' := (0, 0, 25, [some (.ref 94), some (.int v1), some (.int v2)], [.ref 94, .int (0:Int32), .ref 111, .ref 94, .ref 94], pv_mm s T)) (by decide +kernel) rfl ?_
      refine pv_e_gm (i := 225) (ci := 6) (j := 26) (pc' := 28) (by decide +kernel) (by decide) rfl rfl rfl ?_
      obtain ⟨⟨q6, T7⟩, e5, h⟩ := Option.bind_eq_some_iff.mp h
      dsimp only at h
      refine pv_e_cvi (d := d + 2) (i := 183) (z := 154) (np := 3) (ml := 6) (ci := 6) (As := [.ref 111, .int (0:Int32), .int (T.1 94 26)]) (rs := [.ref 94]) (pc' := 31) (by decide +kernel) rfl rfl rfl rfl (Nat.le_of_ble_eq_true rfl) (Nat.le_of_ble_eq_true rfl) rfl (ee154 (d + 0) 111 (0:Int32) (T.1 94 26) (by decide) e5) ?_
      obtain ⟨T8, e9, h⟩ := Option.bind_eq_some_iff.mp h
      refine pv_e_pms (i := 225) (ci := 6) (j := 26) (pc' := 34) (by decide +kernel) rfl rfl (by decide) rfl rfl e9 rfl ?_
      refine pv_e_bk (ps := [(34, .iinc 2 1, 3), (37, .goto (-35), 3)]) (t' := (0, 0, 2, [some (.ref 94), some (.int v1), some (.int (v2 + (1:Int32)))], [], pv_mm s T8)) (by decide +kernel) rfl ?_
      cases h
      exact hK
    · rw [if_neg c4] at h
      cases h
      exact hK
theorem ee177 {xs : Nat → Int32} {L : Nat} (d : Nat) (x1 : Int32) {s : pv_F} {T : pv_T} {q : Int32 × pv_T}  (h : f177_oneLasts x1 T = some q) : pv_Ev xs L (d + 3) 177 (0, 0, 0, [some (.ref 94), some (.int x1), none], [], pv_mm s T) (some (.int q.1), pv_mm s q.2) := by
  generalize hr : ((some (.int q.1), pv_mm s q.2) : Option Value × pv_M) = r
  unfold f177_oneLasts at h
  refine pv_e_bk (ps := [(0, .iconst 0, 1), (1, .istore_n 2, 1)]) (t' := (0, 0, 2, [some (.ref 94), some (.int x1), some (.int (0:Int32))], [], pv_mm s T)) (by decide +kernel) rfl ?_
  obtain ⟨⟨w10, T11⟩, e13, h⟩ := Option.bind_eq_some_iff.mp h
  dsimp only at h
  have hx12 : f177_oneLasts_b1_X xs L d r s x1 (w10, T11) := by
    show pv_Ev xs L (d + 3) 177 (0, 0, 40, [some (.ref 94), some (.int x1), some (.int w10)], [], pv_mm s T11) r
    refine pv_e_bk (ps := [(40, .iload_n 2, 1)]) (t' := (0, 0, 41, [some (.ref 94), some (.int x1), some (.int w10)], [.int w10], pv_mm s T11)) (by decide +kernel) rfl ?_
    cases h
    cases hr
    exact pv_e_ri (by decide +kernel)
  exact pv_lq_ok (H := f177_oneLasts_b1_H xs L d r s x1) (X := f177_oneLasts_b1_X xs L d r s x1) (f177_oneLasts_b1_ok (xs := xs) (L := L) (d := d) (r := r) (s := s) (v1 := x1)) 20000 _ _ e13 hx12
def f178_askedName_b1 (v1 : Int32) (T : pv_T) (st : Int32) : Option (Int32 ⊕ (Int32 ⊕ (Int32 × pv_T))) := match st with
  | v3 =>
    (pv_rd T.1 99 4 v1).bind fun q13 =>
    if q13 ≤ v3 then
      some (.inr (.inl v3))
    else
      (pv_rd T.1 100 320 (((80:Int32) * v1) + v3)).bind fun q16 =>
      (f133_isLetter q16).bind fun q19 =>
      if q19 = 0 then
        (f114_meet (3:Int32) T).bind fun (q22, T23) =>
        some (.inr (.inr (q22, T23)))
      else
        some (.inl (v3 + (1:Int32)))
def f178_askedName_b1_H (xs : Nat → Int32) (L d : Nat) (r : Option Value × pv_M) (s : pv_F) (v1 : Int32) (T : pv_T) (v2 : Int32) (st : Int32) : Prop := match st with
  | v3 => pv_Ev xs L (d + 3) 178 (0, 0, 35, [some (.ref 94), some (.int v1), some (.int v2), some (.int v3)], [], pv_mm s T) r
def f178_askedName_b1_X (xs : Nat → Int32) (L d : Nat) (r : Option Value × pv_M) (s : pv_F) (v1 : Int32) (T : pv_T) (v2 : Int32) (st : Int32) : Prop := match st with
  | v3 => ∀ z3 : Option Value, pv_Ev xs L (d + 3) 178 (0, 0, 74, [some (.ref 94), some (.int v1), some (.int v2), z3], [], pv_mm s T) r
def f178_askedName_b2 (v1 : Int32) (st : Int32 × pv_T) : Option ((Int32 × pv_T) ⊕ (Int32 × pv_T)) := match st with
  | (v3, T) =>
    if (T.1 94 26) ≤ v3 then
      some (.inr (v3, T))
    else
      (pv_rd T.1 100 320 (((80:Int32) * v1) + v3)).bind fun q30 =>
      (pv_wm T 111 6 v3 q30).bind fun T32 =>
      some (.inl (v3 + (1:Int32), T32))
def f178_askedName_b2_H (xs : Nat → Int32) (L d : Nat) (r : Option Value × pv_M) (s : pv_F) (v1 : Int32) (v2 : Int32) (st : Int32 × pv_T) : Prop := match st with
  | (v3, T) => pv_Ev xs L (d + 3) 178 (0, 0, 86, [some (.ref 94), some (.int v1), some (.int v2), some (.int v3)], [], pv_mm s T) r
def f178_askedName_b2_X (xs : Nat → Int32) (L d : Nat) (r : Option Value × pv_M) (s : pv_F) (v1 : Int32) (v2 : Int32) (st : Int32 × pv_T) : Prop := match st with
  | (v3, T) => ∀ z3 : Option Value, pv_Ev xs L (d + 3) 178 (0, 0, 117, [some (.ref 94), some (.int v1), some (.int v2), z3], [], pv_mm s T) r
def f178_askedName (x1 : Int32) (T : pv_T) : Option (Int32 × pv_T) :=
  (f121_askedText x1 T).bind fun (q2, T3) =>
  if 0 ≤ q2 then
    (pv_rd T3.1 99 4 x1).bind fun q5 =>
    (f113_in q5 (1:Int32) (6:Int32)).bind fun q8 =>
    if q8 = 0 then
      (f114_meet (5:Int32) T3).bind fun (q11, T12) =>
      some (q11, T12)
    else
      (pv_lp (f178_askedName_b1 x1 T3) 20000 (0:Int32)).bind fun o40 => match o40 with
        | .inl w24 =>
          (pv_rd T3.1 99 4 x1).bind fun q25 =>
          (pv_pm T3 94 26 q25).bind fun T27 =>
          (pv_lq (f178_askedName_b2 x1) 20000 ((0:Int32), T27)).bind fun (w34, T35) =>
          some ((0:Int32), T35)
        | .inr q => some q
  else
    some (q2, T3)
theorem f178_askedName_b1_ok {xs : Nat → Int32} {L d : Nat} {r : Option Value × pv_M} {s : pv_F} {v1 : Int32} {T : pv_T} {v2 : Int32} (st : Int32) (o : Int32 ⊕ (Int32 ⊕ (Int32 × pv_T))) (h : f178_askedName_b1 v1 T st = some o) (hK : pv_Kp (f178_askedName_b1_H xs L d r s v1 T v2) (f178_askedName_b1_X xs L d r s v1 T v2) (fun q => (some (.int q.1), pv_mm s q.2) = r) o) : f178_askedName_b1_H xs L d r s v1 T v2 st := by
  obtain ⟨v3, rfl⟩ : ∃ z, z = st := ⟨st, rfl⟩
  show pv_Ev xs L (d + 3) 178 (0, 0, 35, [some (.ref 94), some (.int v1), some (.int v2), some (.int v3)], [], pv_mm s T) r
  unfold f178_askedName_b1 at h
  dsimp only at h
  refine pv_e_bk (ps := [(35, .iload_n 3, 1), (36, .aload_n 0, 1)]) (t' := (0, 0, 37, [some (.ref 94), some (.int v1), some (.int v2), some (.int v3)], [.ref 94, .int v3], pv_mm s T)) (by decide +kernel) rfl ?_
  refine pv_e_gr (i := 22) (ci := 6) (j := 6) (b := 99) (pc' := 40) (by decide +kernel) rfl rfl rfl ?_
  refine pv_e_bk (ps := [(40, .iload_n 1, 1)]) (t' := (0, 0, 41, [some (.ref 94), some (.int v1), some (.int v2), some (.int v3)], [.int v1, .ref 99, .int v3], pv_mm s T)) (by decide +kernel) rfl ?_
  obtain ⟨q13, e14, h⟩ := Option.bind_eq_some_iff.mp h
  refine pv_e_rm (pc' := 42) (by decide +kernel) (by decide) rfl e14 rfl ?_
  refine pv_e_icmpge (off := 32) (b := 74) (pc' := 45) (by decide +kernel) (by decide +kernel) rfl (fun c15 => ?_) (fun c15 => ?_)
  · rw [if_pos c15] at h
    cases h
    exact hK _
  · rw [if_neg c15] at h
    refine pv_e_bk (ps := [(45, .aload_n 0, 1)]) (t' := (0, 0, 46, [some (.ref 94), some (.int v1), some (.int v2), some (.int v3)], [.ref 94], pv_mm s T)) (by decide +kernel) rfl ?_
    refine pv_e_gr (i := 25) (ci := 6) (j := 7) (b := 100) (pc' := 49) (by decide +kernel) rfl rfl rfl ?_
    refine pv_e_bk (ps := [(49, .bipush 80, 2), (51, .iload_n 1, 1), (52, .imul, 1), (53, .iload_n 3, 1), (54, .iadd, 1)]) (t' := (0, 0, 55, [some (.ref 94), some (.int v1), some (.int v2), some (.int v3)], [.int (((80:Int32) * v1) + v3), .ref 100], pv_mm s T)) (by decide +kernel) rfl ?_
    obtain ⟨q16, e17, h⟩ := Option.bind_eq_some_iff.mp h
    refine pv_e_rm (pc' := 56) (by decide +kernel) (by decide) rfl e17 rfl ?_
    obtain ⟨q19, e18, h⟩ := Option.bind_eq_some_iff.mp h
    refine pv_e_csi (d := d + 2) (i := 127) (z := 133) (np := 1) (ml := 1) (As := [.int q16]) (rs := []) (pc' := 59) (by decide +kernel) rfl rfl rfl (Nat.le_of_ble_eq_true rfl) (Nat.le_of_ble_eq_true rfl) rfl (ee133 (d + 1) q16 e18) ?_
    refine pv_e_ifne (off := 9) (b := 68) (pc' := 62) (by decide +kernel) (by decide +kernel) rfl (fun c20 => ?_) (fun c20 => ?_)
    · rw [if_pos c20] at h
      refine pv_e_bk (ps := [(62, .aload_n 0, 1), (63, .iconst 3, 1)]) (t' := (0, 0, 64, [some (.ref 94), some (.int v1), some (.int v2), some (.int v3)], [.int (3:Int32), .ref 94], pv_mm s T)) (by decide +kernel) rfl ?_
      obtain ⟨⟨q22, T23⟩, e21, h⟩ := Option.bind_eq_some_iff.mp h
      dsimp only at h
      refine pv_e_cvi (d := d + 2) (i := 91) (z := 114) (np := 1) (ml := 2) (ci := 6) (As := [.int (3:Int32)]) (rs := []) (pc' := 67) (by decide +kernel) rfl rfl rfl rfl (Nat.le_of_ble_eq_true rfl) (Nat.le_of_ble_eq_true rfl) rfl (ee114 (d + 2) (3:Int32) e21) ?_
      cases h
      cases hK
      exact pv_e_ri (by decide +kernel)
    · rw [if_neg c20] at h
      refine pv_e_bk (ps := [(68, .iinc 3 1, 3), (71, .goto (-36), 3)]) (t' := (0, 0, 35, [some (.ref 94), some (.int v1), some (.int v2), some (.int (v3 + (1:Int32)))], [], pv_mm s T)) (by decide +kernel) rfl ?_
      cases h
      exact hK
theorem f178_askedName_b2_ok {xs : Nat → Int32} {L d : Nat} {r : Option Value × pv_M} {s : pv_F} {v1 : Int32} {v2 : Int32} (st : Int32 × pv_T) (o : (Int32 × pv_T) ⊕ (Int32 × pv_T)) (h : f178_askedName_b2 v1 st = some o) (hK : pv_Kq (f178_askedName_b2_H xs L d r s v1 v2) (f178_askedName_b2_X xs L d r s v1 v2) o) : f178_askedName_b2_H xs L d r s v1 v2 st := by
  obtain ⟨v3, T⟩ := st
  show pv_Ev xs L (d + 3) 178 (0, 0, 86, [some (.ref 94), some (.int v1), some (.int v2), some (.int v3)], [], pv_mm s T) r
  unfold f178_askedName_b2 at h
  dsimp only at h
  refine pv_e_bk (ps := [(86, .iload_n 3, 1), (87, .aload_n 0, 1)]) (t' := (0, 0, 88, [some (.ref 94), some (.int v1), some (.int v2), some (.int v3)], [.ref 94, .int v3], pv_mm s T)) (by decide +kernel) rfl ?_
  refine pv_e_gm (i := 225) (ci := 6) (j := 26) (pc' := 91) (by decide +kernel) (by decide) rfl rfl rfl ?_
  refine pv_e_icmpge (off := 26) (b := 117) (pc' := 94) (by decide +kernel) (by decide +kernel) rfl (fun c29 => ?_) (fun c29 => ?_)
  · rw [if_pos c29] at h
    cases h
    exact hK _
  · rw [if_neg c29] at h
    refine pv_e_bk (ps := [(94, .aload_n 0, 1)]) (t' := (0, 0, 95, [some (.ref 94), some (.int v1), some (.int v2), some (.int v3)], [.ref 94], pv_mm s T)) (by decide +kernel) rfl ?_
    refine pv_e_gr (i := 62) (ci := 6) (j := 25) (b := 111) (pc' := 98) (by decide +kernel) rfl rfl rfl ?_
    refine pv_e_bk (ps := [(98, .iload_n 3, 1), (99, .aload_n 0, 1)]) (t' := (0, 0, 100, [some (.ref 94), some (.int v1), some (.int v2), some (.int v3)], [.ref 94, .int v3, .ref 111], pv_mm s T)) (by decide +kernel) rfl ?_
    refine pv_e_gr (i := 25) (ci := 6) (j := 7) (b := 100) (pc' := 103) (by decide +kernel) rfl rfl rfl ?_
    refine pv_e_bk (ps := [(103, .bipush 80, 2), (105, .iload_n 1, 1), (106, .imul, 1), (107, .iload_n 3, 1), (108, .iadd, 1)]) (t' := (0, 0, 109, [some (.ref 94), some (.int v1), some (.int v2), some (.int v3)], [.int (((80:Int32) * v1) + v3), .ref 100, .int v3, .ref 111], pv_mm s T)) (by decide +kernel) rfl ?_
    obtain ⟨q30, e31, h⟩ := Option.bind_eq_some_iff.mp h
    refine pv_e_rm (pc' := 110) (by decide +kernel) (by decide) rfl e31 rfl ?_
    obtain ⟨T32, e33, h⟩ := Option.bind_eq_some_iff.mp h
    refine pv_e_wm (pc' := 111) (by decide +kernel) (by decide) rfl e33 rfl ?_
    refine pv_e_bk (ps := [(111, .iinc 3 1, 3), (114, .goto (-28), 3)]) (t' := (0, 0, 86, [some (.ref 94), some (.int v1), some (.int v2), some (.int (v3 + (1:Int32)))], [], pv_mm s T32)) (by decide +kernel) rfl ?_
    cases h
    exact hK
theorem ee178 {xs : Nat → Int32} {L : Nat} (d : Nat) (x1 : Int32) {s : pv_F} {T : pv_T} {q : Int32 × pv_T}  (h : f178_askedName x1 T = some q) : pv_Ev xs L (d + 3) 178 (0, 0, 0, [some (.ref 94), some (.int x1), none, none], [], pv_mm s T) (some (.int q.1), pv_mm s q.2) := by
  generalize hr : ((some (.int q.1), pv_mm s q.2) : Option Value × pv_M) = r
  unfold f178_askedName at h
  refine pv_e_bk (ps := [(0, .aload_n 0, 1), (1, .iload_n 1, 1)]) (t' := (0, 0, 2, [some (.ref 94), some (.int x1), none, none], [.int x1, .ref 94], pv_mm s T)) (by decide +kernel) rfl ?_
  obtain ⟨⟨q2, T3⟩, e1, h⟩ := Option.bind_eq_some_iff.mp h
  dsimp only at h
  refine pv_e_cvi (d := d + 2) (i := 115) (z := 121) (np := 1) (ml := 2) (ci := 6) (As := [.int x1]) (rs := []) (pc' := 5) (by decide +kernel) rfl rfl rfl rfl (Nat.le_of_ble_eq_true rfl) (Nat.le_of_ble_eq_true rfl) rfl (ee121 (d + 0) x1 e1) ?_
  refine pv_e_bk (ps := [(5, .istore_n 2, 1), (6, .iload_n 2, 1)]) (t' := (0, 0, 7, [some (.ref 94), some (.int x1), some (.int q2), none], [.int q2], pv_mm s T3)) (by decide +kernel) rfl ?_
  refine pv_e_ifge (off := 5) (b := 12) (pc' := 10) (by decide +kernel) (by decide +kernel) rfl (fun c4 => ?_) (fun c4 => ?_)
  · rw [if_pos c4] at h
    refine pv_e_bk (ps := [(12, .aload_n 0, 1)]) (t' := (0, 0, 13, [some (.ref 94), some (.int x1), some (.int q2), none], [.ref 94], pv_mm s T3)) (by decide +kernel) rfl ?_
    refine pv_e_gr (i := 22) (ci := 6) (j := 6) (b := 99) (pc' := 16) (by decide +kernel) rfl rfl rfl ?_
    refine pv_e_bk (ps := [(16, .iload_n 1, 1)]) (t' := (0, 0, 17, [some (.ref 94), some (.int x1), some (.int q2), none], [.int x1, .ref 99], pv_mm s T3)) (by decide +kernel) rfl ?_
    obtain ⟨q5, e6, h⟩ := Option.bind_eq_some_iff.mp h
    refine pv_e_rm (pc' := 18) (by decide +kernel) (by decide) rfl e6 rfl ?_
    refine pv_e_bk (ps := [(18, .iconst 1, 1), (19, .bipush 6, 2)]) (t' := (0, 0, 21, [some (.ref 94), some (.int x1), some (.int q2), none], [.int (6:Int32), .int (1:Int32), .int q5], pv_mm s T3)) (by decide +kernel) rfl ?_
    obtain ⟨q8, e7, h⟩ := Option.bind_eq_some_iff.mp h
    refine pv_e_csi (d := d + 2) (i := 83) (z := 113) (np := 3) (ml := 3) (As := [.int q5, .int (1:Int32), .int (6:Int32)]) (rs := []) (pc' := 24) (by decide +kernel) rfl rfl rfl (Nat.le_of_ble_eq_true rfl) (Nat.le_of_ble_eq_true rfl) rfl (ee113 (d + 2) q5 (1:Int32) (6:Int32) e7) ?_
    refine pv_e_ifne (off := 9) (b := 33) (pc' := 27) (by decide +kernel) (by decide +kernel) rfl (fun c9 => ?_) (fun c9 => ?_)
    · rw [if_pos c9] at h
      refine pv_e_bk (ps := [(27, .aload_n 0, 1), (28, .iconst 5, 1)]) (t' := (0, 0, 29, [some (.ref 94), some (.int x1), some (.int q2), none], [.int (5:Int32), .ref 94], pv_mm s T3)) (by decide +kernel) rfl ?_
      obtain ⟨⟨q11, T12⟩, e10, h⟩ := Option.bind_eq_some_iff.mp h
      dsimp only at h
      refine pv_e_cvi (d := d + 2) (i := 91) (z := 114) (np := 1) (ml := 2) (ci := 6) (As := [.int (5:Int32)]) (rs := []) (pc' := 32) (by decide +kernel) rfl rfl rfl rfl (Nat.le_of_ble_eq_true rfl) (Nat.le_of_ble_eq_true rfl) rfl (ee114 (d + 2) (5:Int32) e10) ?_
      cases h
      cases hr
      exact pv_e_ri (by decide +kernel)
    · rw [if_neg c9] at h
      refine pv_e_bk (ps := [(33, .iconst 0, 1), (34, .istore_n 3, 1)]) (t' := (0, 0, 35, [some (.ref 94), some (.int x1), some (.int q2), some (.int (0:Int32))], [], pv_mm s T3)) (by decide +kernel) rfl ?_
      obtain ⟨o40, e39, h⟩ := Option.bind_eq_some_iff.mp h
      refine pv_lp_ok (H := f178_askedName_b1_H xs L d r s x1 T3 q2) (X := f178_askedName_b1_X xs L d r s x1 T3 q2) (Z := (fun q => (some (.int q.1), pv_mm s q.2) = r)) (f178_askedName_b1_ok (xs := xs) (L := L) (d := d) (r := r) (s := s) (v1 := x1) (T := T3) (v2 := q2)) 20000 _ _ e39 ?_
      rcases o40 with w24 | q
      · dsimp only at h ⊢
        show ∀ z3 : Option Value, pv_Ev xs L (d + 3) 178 (0, 0, 74, [some (.ref 94), some (.int x1), some (.int q2), z3], [], pv_mm s T3) r
        intro z3
        refine pv_e_bk (ps := [(74, .aload_n 0, 1), (75, .aload_n 0, 1)]) (t' := (0, 0, 76, [some (.ref 94), some (.int x1), some (.int q2), z3], [.ref 94, .ref 94], pv_mm s T3)) (by decide +kernel) rfl ?_
        refine pv_e_gr (i := 22) (ci := 6) (j := 6) (b := 99) (pc' := 79) (by decide +kernel) rfl rfl rfl ?_
        refine pv_e_bk (ps := [(79, .iload_n 1, 1)]) (t' := (0, 0, 80, [some (.ref 94), some (.int x1), some (.int q2), z3], [.int x1, .ref 99, .ref 94], pv_mm s T3)) (by decide +kernel) rfl ?_
        obtain ⟨q25, e26, h⟩ := Option.bind_eq_some_iff.mp h
        refine pv_e_rm (pc' := 81) (by decide +kernel) (by decide) rfl e26 rfl ?_
        obtain ⟨T27, e28, h⟩ := Option.bind_eq_some_iff.mp h
        refine pv_e_pms (i := 225) (ci := 6) (j := 26) (pc' := 84) (by decide +kernel) rfl rfl (by decide) rfl rfl e28 rfl ?_
        refine pv_e_bk (ps := [(84, .iconst 0, 1), (85, .istore_n 3, 1)]) (t' := (0, 0, 86, [some (.ref 94), some (.int x1), some (.int q2), some (.int (0:Int32))], [], pv_mm s T27)) (by decide +kernel) rfl ?_
        obtain ⟨⟨w34, T35⟩, e37, h⟩ := Option.bind_eq_some_iff.mp h
        dsimp only at h
        have hx36 : f178_askedName_b2_X xs L d r s x1 q2 (w34, T35) := by
          show ∀ z3 : Option Value, pv_Ev xs L (d + 3) 178 (0, 0, 117, [some (.ref 94), some (.int x1), some (.int q2), z3], [], pv_mm s T35) r
          intro z3
          refine pv_e_bk (ps := [(117, .iconst 0, 1)]) (t' := (0, 0, 118, [some (.ref 94), some (.int x1), some (.int q2), z3], [.int (0:Int32)], pv_mm s T35)) (by decide +kernel) rfl ?_
          cases h
          cases hr
          exact pv_e_ri (by decide +kernel)
        exact pv_lq_ok (H := f178_askedName_b2_H xs L d r s x1 q2) (X := f178_askedName_b2_X xs L d r s x1 q2) (f178_askedName_b2_ok (xs := xs) (L := L) (d := d) (r := r) (s := s) (v1 := x1) (v2 := q2)) 20000 _ _ e37 hx36
      · dsimp only at h ⊢
        cases h
        exact hr
  · rw [if_neg c4] at h
    refine pv_e_bk (ps := [(10, .iload_n 2, 1)]) (t' := (0, 0, 11, [some (.ref 94), some (.int x1), some (.int q2), none], [.int q2], pv_mm s T3)) (by decide +kernel) rfl ?_
    cases h
    cases hr
    exact pv_e_ri (by decide +kernel)
def f179_name (x1 : Int32) (T : pv_T) : Option (Int32 × pv_T) :=
  (f178_askedName x1 T).bind fun (q2, T3) =>
  ((
    if 0 ≤ q2 then
      (f177_oneLasts (-9:Int32) T3).bind fun (q10, T11) =>
      some (q10, T11)
    else
      some (q2, T3)) : Option (Int32 × pv_T)).bind fun (t4, T5) =>
  some (t4, T5)
theorem ee179 {xs : Nat → Int32} {L : Nat} (d : Nat) (x1 : Int32) {s : pv_F} {T : pv_T} {q : Int32 × pv_T}  (h : f179_name x1 T = some q) : pv_Ev xs L (d + 4) 179 (0, 0, 0, [some (.ref 94), some (.int x1), none], [], pv_mm s T) (some (.int q.1), pv_mm s q.2) := by
  generalize hr : ((some (.int q.1), pv_mm s q.2) : Option Value × pv_M) = r
  unfold f179_name at h
  refine pv_e_bk (ps := [(0, .aload_n 0, 1), (1, .iload_n 1, 1)]) (t' := (0, 0, 2, [some (.ref 94), some (.int x1), none], [.int x1, .ref 94], pv_mm s T)) (by decide +kernel) rfl ?_
  obtain ⟨⟨q2, T3⟩, e1, h⟩ := Option.bind_eq_some_iff.mp h
  dsimp only at h
  refine pv_e_cvi (d := d + 3) (i := 231) (z := 178) (np := 1) (ml := 4) (ci := 6) (As := [.int x1]) (rs := []) (pc' := 5) (by decide +kernel) rfl rfl rfl rfl (Nat.le_of_ble_eq_true rfl) (Nat.le_of_ble_eq_true rfl) rfl (ee178 (d + 0) x1 e1) ?_
  refine pv_e_bk (ps := [(5, .istore_n 2, 1), (6, .iload_n 2, 1)]) (t' := (0, 0, 7, [some (.ref 94), some (.int x1), some (.int q2)], [.int q2], pv_mm s T3)) (by decide +kernel) rfl ?_
  obtain ⟨⟨t4, T5⟩, hv6, h⟩ := Option.bind_eq_some_iff.mp h
  dsimp only at h
  have hJ7 : pv_Ev xs L (d + 4) 179 (0, 0, 20, [some (.ref 94), some (.int x1), some (.int q2)], [.int t4], pv_mm s T5) r := by
    cases h
    cases hr
    exact pv_e_ri (by decide +kernel)
  clear h
  have h := hv6
  clear hv6
  refine pv_e_ifge (off := 7) (b := 14) (pc' := 10) (by decide +kernel) (by decide +kernel) rfl (fun c8 => ?_) (fun c8 => ?_)
  · rw [if_pos c8] at h
    refine pv_e_bk (ps := [(14, .aload_n 0, 1), (15, .bipush (-9), 2)]) (t' := (0, 0, 17, [some (.ref 94), some (.int x1), some (.int q2)], [.int (-9:Int32), .ref 94], pv_mm s T3)) (by decide +kernel) rfl ?_
    obtain ⟨⟨q10, T11⟩, e9, h⟩ := Option.bind_eq_some_iff.mp h
    dsimp only at h
    refine pv_e_cvi (d := d + 3) (i := 234) (z := 177) (np := 1) (ml := 3) (ci := 6) (As := [.int (-9:Int32)]) (rs := []) (pc' := 20) (by decide +kernel) rfl rfl rfl rfl (Nat.le_of_ble_eq_true rfl) (Nat.le_of_ble_eq_true rfl) rfl (ee177 (d + 0) (-9:Int32) e9) ?_
    cases h
    exact hJ7
  · rw [if_neg c8] at h
    refine pv_e_bk (ps := [(10, .iload_n 2, 1), (11, .goto 9, 3)]) (t' := (0, 0, 20, [some (.ref 94), some (.int x1), some (.int q2)], [.int q2], pv_mm s T3)) (by decide +kernel) rfl ?_
    cases h
    exact hJ7
def f180_best_b2 (v1 : Int32) (v2 : Int32) (v3 : Int32) (v4 : Int32) (st : Int32 × pv_T) : Option ((Int32 × pv_T) ⊕ (Int32 × pv_T)) := match st with
  | (v5, T) =>
    (f141_lenOf v1 T).bind fun q12 =>
    if q12 ≤ v5 then
      some (.inr (v5, T))
    else
      (f142_letterOf v1 v5 T).bind fun q15 =>
      (pv_wm T 111 6 v5 q15).bind fun T16 =>
      some (.inl (v5 + (1:Int32), T16))
def f180_best_b2_H (xs : Nat → Int32) (L d : Nat) (r : Option Value × pv_M) (s : pv_F) (v1 : Int32) (v2 : Int32) (v3 : Int32) (v4 : Int32) (st : Int32 × pv_T) : Prop := match st with
  | (v5, T) => pv_Ev xs L (d + 4) 180 (0, 0, 52, [some (.ref 94), some (.int v1), some (.int v2), some (.int v3), some (.int v4), some (.int v5)], [], pv_mm s T) r
def f180_best_b2_X (xs : Nat → Int32) (L d : Nat) (r : Option Value × pv_M) (s : pv_F) (v1 : Int32) (v2 : Int32) (v3 : Int32) (v4 : Int32) (st : Int32 × pv_T) : Prop := match st with
  | (v5, T) => ∀ z5 : Option Value, pv_Ev xs L (d + 4) 180 (0, 0, 82, [some (.ref 94), some (.int v1), some (.int v2), some (.int v3), some (.int v4), z5], [], pv_mm s T) r
def f180_best_b1 (v1 : Int32) (st : Int32 × Int32 × Int32 × pv_T) : Option ((Int32 × Int32 × Int32 × pv_T) ⊕ (Int32 × Int32 × Int32 × pv_T)) := match st with
  | (v2, v3, v4, T) =>
    if (122:Int32) < v4 then
      some (.inr (v2, v3, v4, T))
    else
      (pv_lq (f180_best_b2 v1 v2 v3 v4) 20000 ((0:Int32), T)).bind fun (w18, T19) =>
      (f141_lenOf v1 T19).bind fun q21 =>
      (pv_wm T19 111 6 q21 v4).bind fun T22 =>
      (f141_lenOf v1 T22).bind fun q25 =>
      (pv_pm T22 94 26 (q25 + (1:Int32))).bind fun T26 =>
      (f177_oneLasts v1 T26).bind fun (q29, T30) =>
      ((
        if q29 ≤ v3 then
          some v2
        else
          some v4) : Option (Int32)).bind fun t31 =>
      ((
        if q29 ≤ v3 then
          some v3
        else
          some q29) : Option (Int32)).bind fun t32 =>
      some (.inl (t31, t32, v4 + (1:Int32), T30))
def f180_best_b1_H (xs : Nat → Int32) (L d : Nat) (r : Option Value × pv_M) (s : pv_F) (v1 : Int32) (st : Int32 × Int32 × Int32 × pv_T) : Prop := match st with
  | (v2, v3, v4, T) => ∀ z5 : Option Value, pv_Ev xs L (d + 4) 180 (0, 0, 42, [some (.ref 94), some (.int v1), some (.int v2), some (.int v3), some (.int v4), z5], [], pv_mm s T) r
def f180_best_b1_X (xs : Nat → Int32) (L d : Nat) (r : Option Value × pv_M) (s : pv_F) (v1 : Int32) (st : Int32 × Int32 × Int32 × pv_T) : Prop := match st with
  | (v2, v3, v4, T) => ∀ z4 : Option Value, ∀ z5 : Option Value, pv_Ev xs L (d + 4) 180 (0, 0, 144, [some (.ref 94), some (.int v1), some (.int v2), some (.int v3), z4, z5], [], pv_mm s T) r
def f180_best (x1 : Int32) (T : pv_T) : Option (Int32 × pv_T) :=
  (f139_isOne x1 T).bind fun q2 =>
  if q2 = 0 then
    some ((-1:Int32), T)
  else
    (pv_rd T.1 101 7 x1).bind fun q4 =>
    if q4 = (3:Int32) then
      some ((-4:Int32), T)
    else
      (f141_lenOf x1 T).bind fun q8 =>
      if q8 = (6:Int32) then
        some ((-4:Int32), T)
      else
        (pv_lq (f180_best_b1 x1) 20000 ((-9:Int32), (-1:Int32), (97:Int32), T)).bind fun (w41, w42, w43, T44) =>
        (f115_ask w42 w41 T44).bind fun (q46, T47) =>
        some (q46, T47)
theorem f180_best_b2_ok {xs : Nat → Int32} {L d : Nat} {r : Option Value × pv_M} {s : pv_F} {v1 : Int32} {v2 : Int32} {v3 : Int32} {v4 : Int32} (st : Int32 × pv_T) (o : (Int32 × pv_T) ⊕ (Int32 × pv_T)) (h : f180_best_b2 v1 v2 v3 v4 st = some o) (hK : pv_Kq (f180_best_b2_H xs L d r s v1 v2 v3 v4) (f180_best_b2_X xs L d r s v1 v2 v3 v4) o) : f180_best_b2_H xs L d r s v1 v2 v3 v4 st := by
  obtain ⟨v5, T⟩ := st
  show pv_Ev xs L (d + 4) 180 (0, 0, 52, [some (.ref 94), some (.int v1), some (.int v2), some (.int v3), some (.int v4), some (.int v5)], [], pv_mm s T) r
  unfold f180_best_b2 at h
  dsimp only at h
  refine pv_e_bk (ps := [(52, .iload 5, 2), (54, .aload_n 0, 1), (55, .iload_n 1, 1)]) (t' := (0, 0, 56, [some (.ref 94), some (.int v1), some (.int v2), some (.int v3), some (.int v4), some (.int v5)], [.int v1, .ref 94, .int v5], pv_mm s T)) (by decide +kernel) rfl ?_
  obtain ⟨q12, e11, h⟩ := Option.bind_eq_some_iff.mp h
  refine pv_e_cvi (d := d + 3) (i := 142) (z := 141) (np := 1) (ml := 2) (ci := 6) (As := [.int v1]) (rs := [.int v5]) (pc' := 59) (by decide +kernel) rfl rfl rfl rfl (Nat.le_of_ble_eq_true rfl) (Nat.le_of_ble_eq_true rfl) rfl (ee141 (d + 3) v1 e11) ?_
  refine pv_e_icmpge (off := 23) (b := 82) (pc' := 62) (by decide +kernel) (by decide +kernel) rfl (fun c13 => ?_) (fun c13 => ?_)
  · rw [if_pos c13] at h
    cases h
    exact hK _
  · rw [if_neg c13] at h
    refine pv_e_bk (ps := [(62, .aload_n 0, 1)]) (t' := (0, 0, 63, [some (.ref 94), some (.int v1), some (.int v2), some (.int v3), some (.int v4), some (.int v5)], [.ref 94], pv_mm s T)) (by decide +kernel) rfl ?_
    refine pv_e_gr (i := 62) (ci := 6) (j := 25) (b := 111) (pc' := 66) (by decide +kernel) rfl rfl rfl ?_
    refine pv_e_bk (ps := [(66, .iload 5, 2), (68, .aload_n 0, 1), (69, .iload_n 1, 1), (70, .iload 5, 2)]) (t' := (0, 0, 72, [some (.ref 94), some (.int v1), some (.int v2), some (.int v3), some (.int v4), some (.int v5)], [.int v5, .int v1, .ref 94, .int v5, .ref 111], pv_mm s T)) (by decide +kernel) rfl ?_
    obtain ⟨q15, e14, h⟩ := Option.bind_eq_some_iff.mp h
    refine pv_e_cvi (d := d + 3) (i := 145) (z := 142) (np := 2) (ml := 3) (ci := 6) (As := [.int v1, .int v5]) (rs := [.int v5, .ref 111]) (pc' := 75) (by decide +kernel) rfl rfl rfl rfl (Nat.le_of_ble_eq_true rfl) (Nat.le_of_ble_eq_true rfl) rfl (ee142 (d + 3) v1 v5 e14) ?_
    obtain ⟨T16, e17, h⟩ := Option.bind_eq_some_iff.mp h
    refine pv_e_wm (pc' := 76) (by decide +kernel) (by decide) rfl e17 rfl ?_
    refine pv_e_bk (ps := [(76, .iinc 5 1, 3), (79, .goto (-27), 3)]) (t' := (0, 0, 52, [some (.ref 94), some (.int v1), some (.int v2), some (.int v3), some (.int v4), some (.int (v5 + (1:Int32)))], [], pv_mm s T16)) (by decide +kernel) rfl ?_
    cases h
    exact hK
theorem f180_best_b1_ok {xs : Nat → Int32} {L d : Nat} {r : Option Value × pv_M} {s : pv_F} {v1 : Int32} (st : Int32 × Int32 × Int32 × pv_T) (o : (Int32 × Int32 × Int32 × pv_T) ⊕ (Int32 × Int32 × Int32 × pv_T)) (h : f180_best_b1 v1 st = some o) (hK : pv_Kq (f180_best_b1_H xs L d r s v1) (f180_best_b1_X xs L d r s v1) o) : f180_best_b1_H xs L d r s v1 st := by
  obtain ⟨v2, v3, v4, T⟩ := st
  show ∀ z5 : Option Value, pv_Ev xs L (d + 4) 180 (0, 0, 42, [some (.ref 94), some (.int v1), some (.int v2), some (.int v3), some (.int v4), z5], [], pv_mm s T) r
  intro z5
  unfold f180_best_b1 at h
  dsimp only at h
  refine pv_e_bk (ps := [(42, .iload 4, 2), (44, .bipush 122, 2)]) (t' := (0, 0, 46, [some (.ref 94), some (.int v1), some (.int v2), some (.int v3), some (.int v4), z5], [.int (122:Int32), .int v4], pv_mm s T)) (by decide +kernel) rfl ?_
  refine pv_e_icmpgt (off := 98) (b := 144) (pc' := 49) (by decide +kernel) (by decide +kernel) rfl (fun c10 => ?_) (fun c10 => ?_)
  · rw [if_pos c10] at h
    cases h
    exact hK _ _
  · rw [if_neg c10] at h
    refine pv_e_bk (ps := [(49, .iconst 0, 1), (50, .istore 5, 2)]) (t' := (0, 0, 52, [some (.ref 94), some (.int v1), some (.int v2), some (.int v3), some (.int v4), some (.int (0:Int32))], [], pv_mm s T)) (by decide +kernel) rfl ?_
    obtain ⟨⟨w18, T19⟩, e40, h⟩ := Option.bind_eq_some_iff.mp h
    dsimp only at h
    have hx39 : f180_best_b2_X xs L d r s v1 v2 v3 v4 (w18, T19) := by
      show ∀ z5 : Option Value, pv_Ev xs L (d + 4) 180 (0, 0, 82, [some (.ref 94), some (.int v1), some (.int v2), some (.int v3), some (.int v4), z5], [], pv_mm s T19) r
      intro z5
      refine pv_e_bk (ps := [(82, .aload_n 0, 1)]) (t' := (0, 0, 83, [some (.ref 94), some (.int v1), some (.int v2), some (.int v3), some (.int v4), z5], [.ref 94], pv_mm s T19)) (by decide +kernel) rfl ?_
      refine pv_e_gr (i := 62) (ci := 6) (j := 25) (b := 111) (pc' := 86) (by decide +kernel) rfl rfl rfl ?_
      refine pv_e_bk (ps := [(86, .aload_n 0, 1), (87, .iload_n 1, 1)]) (t' := (0, 0, 88, [some (.ref 94), some (.int v1), some (.int v2), some (.int v3), some (.int v4), z5], [.int v1, .ref 94, .ref 111], pv_mm s T19)) (by decide +kernel) rfl ?_
      obtain ⟨q21, e20, h⟩ := Option.bind_eq_some_iff.mp h
      refine pv_e_cvi (d := d + 3) (i := 142) (z := 141) (np := 1) (ml := 2) (ci := 6) (As := [.int v1]) (rs := [.ref 111]) (pc' := 91) (by decide +kernel) rfl rfl rfl rfl (Nat.le_of_ble_eq_true rfl) (Nat.le_of_ble_eq_true rfl) rfl (ee141 (d + 3) v1 e20) ?_
      refine pv_e_bk (ps := [(91, .iload 4, 2)]) (t' := (0, 0, 93, [some (.ref 94), some (.int v1), some (.int v2), some (.int v3), some (.int v4), z5], [.int v4, .int q21, .ref 111], pv_mm s T19)) (by decide +kernel) rfl ?_
      obtain ⟨T22, e23, h⟩ := Option.bind_eq_some_iff.mp h
      refine pv_e_wm (pc' := 94) (by decide +kernel) (by decide) rfl e23 rfl ?_
      refine pv_e_bk (ps := [(94, .aload_n 0, 1), (95, .aload_n 0, 1), (96, .iload_n 1, 1)]) (t' := (0, 0, 97, [some (.ref 94), some (.int v1), some (.int v2), some (.int v3), some (.int v4), z5], [.int v1, .ref 94, .ref 94], pv_mm s T22)) (by decide +kernel) rfl ?_
      obtain ⟨q25, e24, h⟩ := Option.bind_eq_some_iff.mp h
      refine pv_e_cvi (d := d + 3) (i := 142) (z := 141) (np := 1) (ml := 2) (ci := 6) (As := [.int v1]) (rs := [.ref 94]) (pc' := 100) (by decide +kernel) rfl rfl rfl rfl (Nat.le_of_ble_eq_true rfl) (Nat.le_of_ble_eq_true rfl) rfl (ee141 (d + 3) v1 e24) ?_
      refine pv_e_bk (ps := [(100, .iconst 1, 1), (101, .iadd, 1)]) (t' := (0, 0, 102, [some (.ref 94), some (.int v1), some (.int v2), some (.int v3), some (.int v4), z5], [.int (q25 + (1:Int32)), .ref 94], pv_mm s T22)) (by decide +kernel) rfl ?_
      obtain ⟨T26, e27, h⟩ := Option.bind_eq_some_iff.mp h
      refine pv_e_pms (i := 225) (ci := 6) (j := 26) (pc' := 105) (by decide +kernel) rfl rfl (by decide) rfl rfl e27 rfl ?_
      refine pv_e_bk (ps := [(105, .aload_n 0, 1), (106, .iload_n 1, 1)]) (t' := (0, 0, 107, [some (.ref 94), some (.int v1), some (.int v2), some (.int v3), some (.int v4), z5], [.int v1, .ref 94], pv_mm s T26)) (by decide +kernel) rfl ?_
      obtain ⟨⟨q29, T30⟩, e28, h⟩ := Option.bind_eq_some_iff.mp h
      dsimp only at h
      refine pv_e_cvi (d := d + 3) (i := 234) (z := 177) (np := 1) (ml := 3) (ci := 6) (As := [.int v1]) (rs := []) (pc' := 110) (by decide +kernel) rfl rfl rfl rfl (Nat.le_of_ble_eq_true rfl) (Nat.le_of_ble_eq_true rfl) rfl (ee177 (d + 0) v1 e28) ?_
      refine pv_e_bk (ps := [(110, .istore 5, 2), (112, .iload 5, 2), (114, .iload_n 3, 1)]) (t' := (0, 0, 115, [some (.ref 94), some (.int v1), some (.int v2), some (.int v3), some (.int v4), some (.int q29)], [.int v3, .int q29], pv_mm s T30)) (by decide +kernel) rfl ?_
      obtain ⟨t31, hv36, h⟩ := Option.bind_eq_some_iff.mp h
      have hJ37 : pv_Ev xs L (d + 4) 180 (0, 0, 124, [some (.ref 94), some (.int v1), some (.int v2), some (.int v3), some (.int v4), some (.int q29)], [.int t31], pv_mm s T30) r := by
        refine pv_e_bk (ps := [(124, .istore_n 2, 1), (125, .iload 5, 2), (127, .iload_n 3, 1)]) (t' := (0, 0, 128, [some (.ref 94), some (.int v1), some (.int t31), some (.int v3), some (.int v4), some (.int q29)], [.int v3, .int q29], pv_mm s T30)) (by decide +kernel) rfl ?_
        obtain ⟨t32, hv33, h⟩ := Option.bind_eq_some_iff.mp h
        have hJ34 : pv_Ev xs L (d + 4) 180 (0, 0, 137, [some (.ref 94), some (.int v1), some (.int t31), some (.int v3), some (.int v4), some (.int q29)], [.int t32], pv_mm s T30) r := by
          refine pv_e_bk (ps := [(137, .istore_n 3, 1), (138, .iinc 4 1, 3), (141, .goto (-99), 3)]) (t' := (0, 0, 42, [some (.ref 94), some (.int v1), some (.int t31), some (.int t32), some (.int (v4 + (1:Int32))), some (.int q29)], [], pv_mm s T30)) (by decide +kernel) rfl ?_
          cases h
          exact hK _
        clear h
        have h := hv33
        clear hv33
        refine pv_e_icmple (off := 8) (b := 136) (pc' := 131) (by decide +kernel) (by decide +kernel) rfl (fun c35 => ?_) (fun c35 => ?_)
        · rw [if_pos c35] at h
          refine pv_e_bk (ps := [(136, .iload_n 3, 1)]) (t' := (0, 0, 137, [some (.ref 94), some (.int v1), some (.int t31), some (.int v3), some (.int v4), some (.int q29)], [.int v3], pv_mm s T30)) (by decide +kernel) rfl ?_
          cases h
          exact hJ34
        · rw [if_neg c35] at h
          refine pv_e_bk (ps := [(131, .iload 5, 2), (133, .goto 4, 3)]) (t' := (0, 0, 137, [some (.ref 94), some (.int v1), some (.int t31), some (.int v3), some (.int v4), some (.int q29)], [.int q29], pv_mm s T30)) (by decide +kernel) rfl ?_
          cases h
          exact hJ34
      clear h
      have h := hv36
      clear hv36
      refine pv_e_icmple (off := 8) (b := 123) (pc' := 118) (by decide +kernel) (by decide +kernel) rfl (fun c38 => ?_) (fun c38 => ?_)
      · rw [if_pos c38] at h
        refine pv_e_bk (ps := [(123, .iload_n 2, 1)]) (t' := (0, 0, 124, [some (.ref 94), some (.int v1), some (.int v2), some (.int v3), some (.int v4), some (.int q29)], [.int v2], pv_mm s T30)) (by decide +kernel) rfl ?_
        cases h
        exact hJ37
      · rw [if_neg c38] at h
        refine pv_e_bk (ps := [(118, .iload 4, 2), (120, .goto 4, 3)]) (t' := (0, 0, 124, [some (.ref 94), some (.int v1), some (.int v2), some (.int v3), some (.int v4), some (.int q29)], [.int v4], pv_mm s T30)) (by decide +kernel) rfl ?_
        cases h
        exact hJ37
    exact pv_lq_ok (H := f180_best_b2_H xs L d r s v1 v2 v3 v4) (X := f180_best_b2_X xs L d r s v1 v2 v3 v4) (f180_best_b2_ok (xs := xs) (L := L) (d := d) (r := r) (s := s) (v1 := v1) (v2 := v2) (v3 := v3) (v4 := v4)) 20000 _ _ e40 hx39
theorem ee180 {xs : Nat → Int32} {L : Nat} (d : Nat) (x1 : Int32) {s : pv_F} {T : pv_T} {q : Int32 × pv_T}  (h : f180_best x1 T = some q) : pv_Ev xs L (d + 4) 180 (0, 0, 0, [some (.ref 94), some (.int x1), none, none, none, none], [], pv_mm s T) (some (.int q.1), pv_mm s q.2) := by
  generalize hr : ((some (.int q.1), pv_mm s q.2) : Option Value × pv_M) = r
  unfold f180_best at h
  refine pv_e_bk (ps := [(0, .aload_n 0, 1), (1, .iload_n 1, 1)]) (t' := (0, 0, 2, [some (.ref 94), some (.int x1), none, none, none, none], [.int x1, .ref 94], pv_mm s T)) (by decide +kernel) rfl ?_
  obtain ⟨q2, e1, h⟩ := Option.bind_eq_some_iff.mp h
  refine pv_e_cvi (d := d + 3) (i := 152) (z := 139) (np := 1) (ml := 2) (ci := 6) (As := [.int x1]) (rs := []) (pc' := 5) (by decide +kernel) rfl rfl rfl rfl (Nat.le_of_ble_eq_true rfl) (Nat.le_of_ble_eq_true rfl) rfl (ee139 (d + 2) x1 e1) ?_
  refine pv_e_ifne (off := 5) (b := 10) (pc' := 8) (by decide +kernel) (by decide +kernel) rfl (fun c3 => ?_) (fun c3 => ?_)
  · rw [if_pos c3] at h
    refine pv_e_bk (ps := [(8, .iconst (-1), 1)]) (t' := (0, 0, 9, [some (.ref 94), some (.int x1), none, none, none, none], [.int (-1:Int32)], pv_mm s T)) (by decide +kernel) rfl ?_
    cases h
    cases hr
    exact pv_e_ri (by decide +kernel)
  · rw [if_neg c3] at h
    refine pv_e_bk (ps := [(10, .aload_n 0, 1)]) (t' := (0, 0, 11, [some (.ref 94), some (.int x1), none, none, none, none], [.ref 94], pv_mm s T)) (by decide +kernel) rfl ?_
    refine pv_e_gr (i := 32) (ci := 6) (j := 11) (b := 101) (pc' := 14) (by decide +kernel) rfl rfl rfl ?_
    refine pv_e_bk (ps := [(14, .iload_n 1, 1)]) (t' := (0, 0, 15, [some (.ref 94), some (.int x1), none, none, none, none], [.int x1, .ref 101], pv_mm s T)) (by decide +kernel) rfl ?_
    obtain ⟨q4, e5, h⟩ := Option.bind_eq_some_iff.mp h
    refine pv_e_rm (pc' := 16) (by decide +kernel) (by decide) rfl e5 rfl ?_
    refine pv_e_bk (ps := [(16, .iconst 3, 1)]) (t' := (0, 0, 17, [some (.ref 94), some (.int x1), none, none, none, none], [.int (3:Int32), .int q4], pv_mm s T)) (by decide +kernel) rfl ?_
    refine pv_e_icmpeq (off := 13) (b := 30) (pc' := 20) (by decide +kernel) (by decide +kernel) rfl (fun c6 => ?_) (fun c6 => ?_)
    · rw [if_pos c6] at h
      refine pv_e_bk (ps := [(30, .bipush (-4), 2)]) (t' := (0, 0, 32, [some (.ref 94), some (.int x1), none, none, none, none], [.int (-4:Int32)], pv_mm s T)) (by decide +kernel) rfl ?_
      cases h
      cases hr
      exact pv_e_ri (by decide +kernel)
    · rw [if_neg c6] at h
      refine pv_e_bk (ps := [(20, .aload_n 0, 1), (21, .iload_n 1, 1)]) (t' := (0, 0, 22, [some (.ref 94), some (.int x1), none, none, none, none], [.int x1, .ref 94], pv_mm s T)) (by decide +kernel) rfl ?_
      obtain ⟨q8, e7, h⟩ := Option.bind_eq_some_iff.mp h
      refine pv_e_cvi (d := d + 3) (i := 142) (z := 141) (np := 1) (ml := 2) (ci := 6) (As := [.int x1]) (rs := []) (pc' := 25) (by decide +kernel) rfl rfl rfl rfl (Nat.le_of_ble_eq_true rfl) (Nat.le_of_ble_eq_true rfl) rfl (ee141 (d + 3) x1 e7) ?_
      refine pv_e_bk (ps := [(25, .bipush 6, 2)]) (t' := (0, 0, 27, [some (.ref 94), some (.int x1), none, none, none, none], [.int (6:Int32), .int q8], pv_mm s T)) (by decide +kernel) rfl ?_
      refine pv_e_icmpne (off := 6) (b := 33) (pc' := 30) (by decide +kernel) (by decide +kernel) rfl (fun c9 => ?_) (fun c9 => ?_)
      · rw [if_pos c9] at h
        refine pv_e_bk (ps := [(30, .bipush (-4), 2)]) (t' := (0, 0, 32, [some (.ref 94), some (.int x1), none, none, none, none], [.int (-4:Int32)], pv_mm s T)) (by decide +kernel) rfl ?_
        cases h
        cases hr
        exact pv_e_ri (by decide +kernel)
      · rw [if_neg c9] at h
        refine pv_e_bk (ps := [(33, .bipush (-9), 2), (35, .istore_n 2, 1), (36, .iconst (-1), 1), (37, .istore_n 3, 1), (38, .bipush 97, 2), (40, .istore 4, 2)]) (t' := (0, 0, 42, [some (.ref 94), some (.int x1), some (.int (-9:Int32)), some (.int (-1:Int32)), some (.int (97:Int32)), none], [], pv_mm s T)) (by decide +kernel) rfl ?_
        obtain ⟨⟨w41, w42, w43, T44⟩, e49, h⟩ := Option.bind_eq_some_iff.mp h
        dsimp only at h
        have hx48 : f180_best_b1_X xs L d r s x1 (w41, w42, w43, T44) := by
          show ∀ z4 : Option Value, ∀ z5 : Option Value, pv_Ev xs L (d + 4) 180 (0, 0, 144, [some (.ref 94), some (.int x1), some (.int w41), some (.int w42), z4, z5], [], pv_mm s T44) r
          intro z4 z5
          refine pv_e_bk (ps := [(144, .aload_n 0, 1), (145, .iload_n 3, 1), (146, .iload_n 2, 1)]) (t' := (0, 0, 147, [some (.ref 94), some (.int x1), some (.int w41), some (.int w42), z4, z5], [.int w41, .int w42, .ref 94], pv_mm s T44)) (by decide +kernel) rfl ?_
          obtain ⟨⟨q46, T47⟩, e45, h⟩ := Option.bind_eq_some_iff.mp h
          dsimp only at h
          refine pv_e_cvi (d := d + 3) (i := 109) (z := 115) (np := 2) (ml := 3) (ci := 6) (As := [.int w42, .int w41]) (rs := []) (pc' := 150) (by decide +kernel) rfl rfl rfl rfl (Nat.le_of_ble_eq_true rfl) (Nat.le_of_ble_eq_true rfl) rfl (ee115 (d + 3) w42 w41 e45) ?_
          cases h
          cases hr
          exact pv_e_ri (by decide +kernel)
        exact pv_lq_ok (H := f180_best_b1_H xs L d r s x1) (X := f180_best_b1_X xs L d r s x1) (f180_best_b1_ok (xs := xs) (L := L) (d := d) (r := r) (s := s) (v1 := x1)) 20000 _ _ e49 hx48 _
def f181_isCall (x1 : Int32) (T : pv_T) : Option (Int32) :=
  ((
    if x1 < 0 then
      some (0:Int32)
    else
      (pv_dv x1 (100:Int32)).bind fun q7 =>
      (f139_isOne q7 T).bind fun q10 =>
      if q10 = 0 then
        some (0:Int32)
      else
        (pv_rmd x1 (100:Int32)).bind fun q12 =>
        (f139_isOne q12 T).bind fun q15 =>
        if q15 = 0 then
          some (0:Int32)
        else
          (pv_dv x1 (100:Int32)).bind fun q17 =>
          (pv_rmd x1 (100:Int32)).bind fun q19 =>
          if q17 = q19 then
            some (0:Int32)
          else
            some (1:Int32)) : Option (Int32)).bind fun t1 =>
  (pv_bl t1).bind fun q2 => some q2
theorem ee181 {xs : Nat → Int32} {L : Nat} (d : Nat) (x1 : Int32) {s : pv_F} {T : pv_T} {q : Int32}  (h : f181_isCall x1 T = some q) : pv_Ev xs L (d + 2) 181 (0, 0, 0, [some (.ref 94), some (.int x1)], [], pv_mm s T) (some (.int q), pv_mm s T) := by
  generalize hr : ((some (.int q), pv_mm s T) : Option Value × pv_M) = r
  unfold f181_isCall at h
  refine pv_e_bk (ps := [(0, .iload_n 1, 1)]) (t' := (0, 0, 1, [some (.ref 94), some (.int x1)], [.int x1], pv_mm s T)) (by decide +kernel) rfl ?_
  obtain ⟨t1, hv4, h⟩ := Option.bind_eq_some_iff.mp h
  have hJ5 : pv_Ev xs L (d + 2) 181 (0, 0, 42, [some (.ref 94), some (.int x1)], [.int t1], pv_mm s T) r := by
    obtain ⟨q2, e3, h⟩ := Option.bind_eq_some_iff.mp h
    cases h
    cases hr
    exact pv_e_rz (by decide +kernel) e3
  clear h
  have h := hv4
  clear hv4
  refine pv_e_iflt (off := 40) (b := 41) (pc' := 4) (by decide +kernel) (by decide +kernel) rfl (fun c6 => ?_) (fun c6 => ?_)
  · rw [if_pos c6] at h
    refine pv_e_bk (ps := [(41, .iconst 0, 1)]) (t' := (0, 0, 42, [some (.ref 94), some (.int x1)], [.int (0:Int32)], pv_mm s T)) (by decide +kernel) rfl ?_
    cases h
    exact hJ5
  · rw [if_neg c6] at h
    refine pv_e_bk (ps := [(4, .aload_n 0, 1), (5, .iload_n 1, 1), (6, .bipush 100, 2)]) (t' := (0, 0, 8, [some (.ref 94), some (.int x1)], [.int (100:Int32), .int x1, .ref 94], pv_mm s T)) (by decide +kernel) rfl ?_
    obtain ⟨q7, e8, h⟩ := Option.bind_eq_some_iff.mp h
    refine pv_e_dv (pc' := 9) (by decide +kernel) e8 rfl ?_
    obtain ⟨q10, e9, h⟩ := Option.bind_eq_some_iff.mp h
    refine pv_e_cvi (d := d + 1) (i := 152) (z := 139) (np := 1) (ml := 2) (ci := 6) (As := [.int q7]) (rs := []) (pc' := 12) (by decide +kernel) rfl rfl rfl rfl (Nat.le_of_ble_eq_true rfl) (Nat.le_of_ble_eq_true rfl) rfl (ee139 (d + 0) q7 e9) ?_
    refine pv_e_ifeq (off := 29) (b := 41) (pc' := 15) (by decide +kernel) (by decide +kernel) rfl (fun c11 => ?_) (fun c11 => ?_)
    · rw [if_pos c11] at h
      refine pv_e_bk (ps := [(41, .iconst 0, 1)]) (t' := (0, 0, 42, [some (.ref 94), some (.int x1)], [.int (0:Int32)], pv_mm s T)) (by decide +kernel) rfl ?_
      cases h
      exact hJ5
    · rw [if_neg c11] at h
      refine pv_e_bk (ps := [(15, .aload_n 0, 1), (16, .iload_n 1, 1), (17, .bipush 100, 2)]) (t' := (0, 0, 19, [some (.ref 94), some (.int x1)], [.int (100:Int32), .int x1, .ref 94], pv_mm s T)) (by decide +kernel) rfl ?_
      obtain ⟨q12, e13, h⟩ := Option.bind_eq_some_iff.mp h
      refine pv_e_rm_ (pc' := 20) (by decide +kernel) e13 rfl ?_
      obtain ⟨q15, e14, h⟩ := Option.bind_eq_some_iff.mp h
      refine pv_e_cvi (d := d + 1) (i := 152) (z := 139) (np := 1) (ml := 2) (ci := 6) (As := [.int q12]) (rs := []) (pc' := 23) (by decide +kernel) rfl rfl rfl rfl (Nat.le_of_ble_eq_true rfl) (Nat.le_of_ble_eq_true rfl) rfl (ee139 (d + 0) q12 e14) ?_
      refine pv_e_ifeq (off := 18) (b := 41) (pc' := 26) (by decide +kernel) (by decide +kernel) rfl (fun c16 => ?_) (fun c16 => ?_)
      · rw [if_pos c16] at h
        refine pv_e_bk (ps := [(41, .iconst 0, 1)]) (t' := (0, 0, 42, [some (.ref 94), some (.int x1)], [.int (0:Int32)], pv_mm s T)) (by decide +kernel) rfl ?_
        cases h
        exact hJ5
      · rw [if_neg c16] at h
        refine pv_e_bk (ps := [(26, .iload_n 1, 1), (27, .bipush 100, 2)]) (t' := (0, 0, 29, [some (.ref 94), some (.int x1)], [.int (100:Int32), .int x1], pv_mm s T)) (by decide +kernel) rfl ?_
        obtain ⟨q17, e18, h⟩ := Option.bind_eq_some_iff.mp h
        refine pv_e_dv (pc' := 30) (by decide +kernel) e18 rfl ?_
        refine pv_e_bk (ps := [(30, .iload_n 1, 1), (31, .bipush 100, 2)]) (t' := (0, 0, 33, [some (.ref 94), some (.int x1)], [.int (100:Int32), .int x1, .int q17], pv_mm s T)) (by decide +kernel) rfl ?_
        obtain ⟨q19, e20, h⟩ := Option.bind_eq_some_iff.mp h
        refine pv_e_rm_ (pc' := 34) (by decide +kernel) e20 rfl ?_
        refine pv_e_icmpeq (off := 7) (b := 41) (pc' := 37) (by decide +kernel) (by decide +kernel) rfl (fun c21 => ?_) (fun c21 => ?_)
        · rw [if_pos c21] at h
          refine pv_e_bk (ps := [(41, .iconst 0, 1)]) (t' := (0, 0, 42, [some (.ref 94), some (.int x1)], [.int (0:Int32)], pv_mm s T)) (by decide +kernel) rfl ?_
          cases h
          exact hJ5
        · rw [if_neg c21] at h
          refine pv_e_bk (ps := [(37, .iconst 1, 1), (38, .goto 4, 3)]) (t' := (0, 0, 42, [some (.ref 94), some (.int x1)], [.int (1:Int32)], pv_mm s T)) (by decide +kernel) rfl ?_
          cases h
          exact hJ5
