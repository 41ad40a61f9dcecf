-- printed by wip/whole/gen/parts.py: methods as functions over the ints of the memory, and that the pure machine runs so
def f144_likes_b1 (v1 : Int32) (T : pv_T) (st : Int32 × Int32) : Option ((Int32 × Int32) ⊕ (Int32 × Int32)) := match st with
  | (v2, v3) =>
    if (T.1 94 8) ≤ v3 then
      some (.inr (v2, v3))
    else
      ((
        if v3 = v1 then
          some (0:Int32)
        else
          (pv_rd T.1 101 7 v3).bind fun q6 =>
          if q6 = (3:Int32) then
            some (0:Int32)
          else
            (f143_isLike v1 v3 T).bind fun q10 =>
            if q10 = 0 then
              some (0:Int32)
            else
              some ((1:Int32) <<< (v3 &&& 31))) : Option (Int32)).bind fun t2 =>
      some (.inl (v2 ||| t2, v3 + (1:Int32)))
def f144_likes_b1_H (xs : Nat → Int32) (L d : Nat) (r : Option Value × pv_M) (s : pv_F) (v1 : Int32) (T : pv_T) (st : Int32 × Int32) : Prop := match st with
  | (v2, v3) => pv_Ev xs L (d + 2) 144 (0, 0, 4, [some (.ref 94), some (.int v1), some (.int v2), some (.int v3)], [], pv_mm s T) r
def f144_likes_b1_X (xs : Nat → Int32) (L d : Nat) (r : Option Value × pv_M) (s : pv_F) (v1 : Int32) (T : pv_T) (st : Int32 × Int32) : Prop := match st with
  | (v2, v3) => ∀ z3 : Option Value, pv_Ev xs L (d + 2) 144 (0, 0, 52, [some (.ref 94), some (.int v1), some (.int v2), z3], [], pv_mm s T) r
def f144_likes (x1 : Int32) (T : pv_T) : Option (Int32) :=
  (pv_lq (f144_likes_b1 x1 T) 20000 ((0:Int32), (0:Int32))).bind fun (w12, w13) =>
  some w12
theorem f144_likes_b1_ok {xs : Nat → Int32} {L d : Nat} {r : Option Value × pv_M} {s : pv_F} {v1 : Int32} {T : pv_T} (st : Int32 × Int32) (o : (Int32 × Int32) ⊕ (Int32 × Int32)) (h : f144_likes_b1 v1 T st = some o) (hK : pv_Kq (f144_likes_b1_H xs L d r s v1 T) (f144_likes_b1_X xs L d r s v1 T) o) : f144_likes_b1_H xs L d r s v1 T st := by
  obtain ⟨v2, v3⟩ := st
  show pv_Ev xs L (d + 2) 144 (0, 0, 4, [some (.ref 94), some (.int v1), some (.int v2), some (.int v3)], [], pv_mm s T) r
  unfold f144_likes_b1 at h
  dsimp only at h
  refine pv_e_bk (ps := [(4, .iload_n 3, 1), (5, .aload_n 0, 1)]) (t' := (0, 0, 6, [some (.ref 94), some (.int v1), some (.int v2), some (.int v3)], [.ref 94, .int v3], pv_mm s T)) (by decide +kernel) rfl ?_
  refine pv_e_gm (i := 136) (ci := 6) (j := 8) (pc' := 9) (by decide +kernel) (by decide) rfl rfl rfl ?_
  refine pv_e_icmpge (off := 43) (b := 52) (pc' := 12) (by decide +kernel) (by decide +kernel) rfl (fun c1 => ?_) (fun c1 => ?_)
  · rw [if_pos c1] at h
    obtain rfl := Option.some.inj h
    exact hK _
  · rw [if_neg c1] at h
    refine pv_e_bk (ps := [(12, .iload_n 2, 1), (13, .iload_n 3, 1), (14, .iload_n 1, 1)]) (t' := (0, 0, 15, [some (.ref 94), some (.int v1), some (.int v2), some (.int v3)], [.int v1, .int v3, .int v2], pv_mm s T)) (by decide +kernel) rfl ?_
    obtain ⟨t2, hv3, h⟩ := Option.bind_eq_some_iff.mp h
    have hJ4 : pv_Ev xs L (d + 2) 144 (0, 0, 44, [some (.ref 94), some (.int v1), some (.int v2), some (.int v3)], [.int t2, .int v2], pv_mm s T) r := by
      refine pv_e_bk (ps := [(44, .ior, 1), (45, .istore_n 2, 1), (46, .iinc 3 1, 3), (49, .goto (-45), 3)]) (t' := (0, 0, 4, [some (.ref 94), some (.int v1), some (.int (v2 ||| t2)), some (.int (v3 + (1:Int32)))], [], pv_mm s T)) (by decide +kernel) rfl ?_
      obtain rfl := Option.some.inj h
      exact hK
    clear h
    have h := hv3
    clear hv3
    refine pv_e_icmpeq (off := 28) (b := 43) (pc' := 18) (by decide +kernel) (by decide +kernel) rfl (fun c5 => ?_) (fun c5 => ?_)
    · rw [if_pos c5] at h
      refine pv_e_bk (ps := [(43, .iconst 0, 1)]) (t' := (0, 0, 44, [some (.ref 94), some (.int v1), some (.int v2), some (.int v3)], [.int (0:Int32), .int v2], pv_mm s T)) (by decide +kernel) rfl ?_
      obtain rfl := Option.some.inj h
      exact hJ4
    · rw [if_neg c5] at h
      refine pv_e_bk (ps := [(18, .aload_n 0, 1)]) (t' := (0, 0, 19, [some (.ref 94), some (.int v1), some (.int v2), some (.int v3)], [.ref 94, .int v2], pv_mm s T)) (by decide +kernel) rfl ?_
      refine pv_e_gr (i := 32) (ci := 6) (j := 11) (b := 101) (pc' := 22) (by decide +kernel) rfl rfl rfl ?_
      refine pv_e_bk (ps := [(22, .iload_n 3, 1)]) (t' := (0, 0, 23, [some (.ref 94), some (.int v1), some (.int v2), some (.int v3)], [.int v3, .ref 101, .int v2], pv_mm s T)) (by decide +kernel) rfl ?_
      obtain ⟨q6, e7, h⟩ := Option.bind_eq_some_iff.mp h
      refine pv_e_rm (pc' := 24) (by decide +kernel) (by decide) rfl e7 rfl ?_
      refine pv_e_bk (ps := [(24, .iconst 3, 1)]) (t' := (0, 0, 25, [some (.ref 94), some (.int v1), some (.int v2), some (.int v3)], [.int (3:Int32), .int q6, .int v2], pv_mm s T)) (by decide +kernel) rfl ?_
      refine pv_e_icmpeq (off := 18) (b := 43) (pc' := 28) (by decide +kernel) (by decide +kernel) rfl (fun c8 => ?_) (fun c8 => ?_)
      · rw [if_pos c8] at h
        refine pv_e_bk (ps := [(43, .iconst 0, 1)]) (t' := (0, 0, 44, [some (.ref 94), some (.int v1), some (.int v2), some (.int v3)], [.int (0:Int32), .int v2], pv_mm s T)) (by decide +kernel) rfl ?_
        obtain rfl := Option.some.inj h
        exact hJ4
      · rw [if_neg c8] at h
        refine pv_e_bk (ps := [(28, .aload_n 0, 1), (29, .iload_n 1, 1), (30, .iload_n 3, 1)]) (t' := (0, 0, 31, [some (.ref 94), some (.int v1), some (.int v2), some (.int v3)], [.int v3, .int v1, .ref 94, .int v2], pv_mm s T)) (by decide +kernel) rfl ?_
        obtain ⟨q10, e9, h⟩ := Option.bind_eq_some_iff.mp h
        refine pv_e_cvi (d := d + 1) (i := 148) (z := 143) (np := 2) (ml := 5) (ci := 6) (As := [.int v1, .int v3]) (rs := [.int v2]) (pc' := 34) (by decide +kernel) rfl rfl rfl rfl (Nat.le_of_ble_eq_true rfl) (Nat.le_of_ble_eq_true rfl) rfl (ee143 (d + 0) v1 v3 e9) ?_
        refine pv_e_ifeq (off := 9) (b := 43) (pc' := 37) (by decide +kernel) (by decide +kernel) rfl (fun c11 => ?_) (fun c11 => ?_)
        · rw [if_pos c11] at h
          refine pv_e_bk (ps := [(43, .iconst 0, 1)]) (t' := (0, 0, 44, [some (.ref 94), some (.int v1), some (.int v2), some (.int v3)], [.int (0:Int32), .int v2], pv_mm s T)) (by decide +kernel) rfl ?_
          obtain rfl := Option.some.inj h
          exact hJ4
        · rw [if_neg c11] at h
          refine pv_e_bk (ps := [(37, .iconst 1, 1), (38, .iload_n 3, 1), (39, .ishl, 1), (40, .goto 4, 3)]) (t' := (0, 0, 44, [some (.ref 94), some (.int v1), some (.int v2), some (.int v3)], [.int ((1:Int32) <<< (v3 &&& 31)), .int v2], pv_mm s T)) (by decide +kernel) rfl ?_
          obtain rfl := Option.some.inj h
          exact hJ4
theorem ee144 {xs : Nat → Int32} {L : Nat} (d : Nat) (x1 : Int32) {s : pv_F} {T : pv_T} {q : Int32}  (h : f144_likes x1 T = some q) : pv_Ev xs L (d + 2) 144 (0, 0, 0, [some (.ref 94), some (.int x1), none, none], [], pv_mm s T) (some (.int q), pv_mm s T) := by
  generalize hr : ((some (.int q), pv_mm s T) : Option Value × pv_M) = r
  unfold f144_likes at h
  refine pv_e_bk (ps := [(0, .iconst 0, 1), (1, .istore_n 2, 1), (2, .iconst 0, 1), (3, .istore_n 3, 1)]) (t' := (0, 0, 4, [some (.ref 94), some (.int x1), some (.int (0:Int32)), some (.int (0:Int32))], [], pv_mm s T)) (by decide +kernel) rfl ?_
  obtain ⟨⟨w12, w13⟩, e15, h⟩ := Option.bind_eq_some_iff.mp h
  dsimp only at h
  have hx14 : f144_likes_b1_X xs L d r s x1 T (w12, w13) := by
    show ∀ z3 : Option Value, pv_Ev xs L (d + 2) 144 (0, 0, 52, [some (.ref 94), some (.int x1), some (.int w12), z3], [], pv_mm s T) r
    intro z3
    refine pv_e_bk (ps := [(52, .iload_n 2, 1)]) (t' := (0, 0, 53, [some (.ref 94), some (.int x1), some (.int w12), z3], [.int w12], pv_mm s T)) (by decide +kernel) rfl ?_
    obtain rfl := Option.some.inj h
    cases hr
    exact pv_e_ri (by decide +kernel)
  exact pv_lq_ok (H := f144_likes_b1_H xs L d r s x1 T) (X := f144_likes_b1_X xs L d r s x1 T) (f144_likes_b1_ok (xs := xs) (L := L) (d := d) (r := r) (s := s) (v1 := x1) (T := T)) 20000 _ _ e15 hx14
def f145_personOf (x1 : Int32) (x2 : Int32) (T : pv_T) : Option (Int32) :=
  ((
    if x2 = 0 then
      (pv_rd T.1 101 7 x1).bind fun q5 =>
      some q5
    else
      if x2 = (1:Int32) then
        (f141_lenOf x1 T).bind fun q9 =>
        some q9
      else
        if x2 = (2:Int32) then
          (pv_rd T.1 105 78 ((56:Int32) + x1)).bind fun q11 =>
          some q11
        else
          if x2 = (3:Int32) then
            (pv_rd T.1 105 78 ((63:Int32) + x1)).bind fun q14 =>
            some q14
          else
            (pv_rd T.1 105 78 ((70:Int32) + x1)).bind fun q16 =>
            some q16) : Option (Int32)).bind fun t1 =>
  some t1
theorem ee145 {xs : Nat → Int32} {L : Nat} (d : Nat) (x1 : Int32) (x2 : Int32) {s : pv_F} {T : pv_T} {q : Int32}  (h : f145_personOf x1 x2 T = some q) : pv_Ev xs L (d + 1) 145 (0, 0, 0, [some (.ref 94), some (.int x1), some (.int x2)], [], pv_mm s T) (some (.int q), pv_mm s T) := by
  generalize hr : ((some (.int q), pv_mm s T) : Option Value × pv_M) = r
  unfold f145_personOf at h
  refine pv_e_bk (ps := [(0, .iload_n 2, 1)]) (t' := (0, 0, 1, [some (.ref 94), some (.int x1), some (.int x2)], [.int x2], pv_mm s T)) (by decide +kernel) rfl ?_
  obtain ⟨t1, hv2, h⟩ := Option.bind_eq_some_iff.mp h
  have hJ3 : pv_Ev xs L (d + 1) 145 (0, 0, 69, [some (.ref 94), some (.int x1), some (.int x2)], [.int t1], pv_mm s T) r := by
    obtain rfl := Option.some.inj h
    cases hr
    exact pv_e_ri (by decide +kernel)
  clear h
  have h := hv2
  clear hv2
  refine pv_e_ifne (off := 12) (b := 13) (pc' := 4) (by decide +kernel) (by decide +kernel) rfl (fun c4 => ?_) (fun c4 => ?_)
  · rw [if_pos c4] at h
    refine pv_e_bk (ps := [(4, .aload_n 0, 1)]) (t' := (0, 0, 5, [some (.ref 94), some (.int x1), some (.int x2)], [.ref 94], pv_mm s T)) (by decide +kernel) rfl ?_
    refine pv_e_gr (i := 32) (ci := 6) (j := 11) (b := 101) (pc' := 8) (by decide +kernel) rfl rfl rfl ?_
    refine pv_e_bk (ps := [(8, .iload_n 1, 1)]) (t' := (0, 0, 9, [some (.ref 94), some (.int x1), some (.int x2)], [.int x1, .ref 101], pv_mm s T)) (by decide +kernel) rfl ?_
    obtain ⟨q5, e6, h⟩ := Option.bind_eq_some_iff.mp h
    refine pv_e_rm (pc' := 10) (by decide +kernel) (by decide) rfl e6 rfl ?_
    refine pv_e_bk (ps := [(10, .goto 59, 3)]) (t' := (0, 0, 69, [some (.ref 94), some (.int x1), some (.int x2)], [.int q5], pv_mm s T)) (by decide +kernel) rfl ?_
    obtain rfl := Option.some.inj h
    exact hJ3
  · rw [if_neg c4] at h
    refine pv_e_bk (ps := [(13, .iload_n 2, 1), (14, .iconst 1, 1)]) (t' := (0, 0, 15, [some (.ref 94), some (.int x1), some (.int x2)], [.int (1:Int32), .int x2], pv_mm s T)) (by decide +kernel) rfl ?_
    refine pv_e_icmpne (off := 11) (b := 26) (pc' := 18) (by decide +kernel) (by decide +kernel) rfl (fun c7 => ?_) (fun c7 => ?_)
    · rw [if_pos c7] at h
      refine pv_e_bk (ps := [(18, .aload_n 0, 1), (19, .iload_n 1, 1)]) (t' := (0, 0, 20, [some (.ref 94), some (.int x1), some (.int x2)], [.int x1, .ref 94], pv_mm s T)) (by decide +kernel) rfl ?_
      obtain ⟨q9, e8, h⟩ := Option.bind_eq_some_iff.mp h
      refine pv_e_cvi (d := d + 0) (i := 142) (z := 141) (np := 1) (ml := 2) (ci := 6) (As := [.int x1]) (rs := []) (pc' := 23) (by decide +kernel) rfl rfl rfl rfl (Nat.le_of_ble_eq_true rfl) (Nat.le_of_ble_eq_true rfl) rfl (ee141 (d + 0) x1 e8) ?_
      refine pv_e_bk (ps := [(23, .goto 46, 3)]) (t' := (0, 0, 69, [some (.ref 94), some (.int x1), some (.int x2)], [.int q9], pv_mm s T)) (by decide +kernel) rfl ?_
      obtain rfl := Option.some.inj h
      exact hJ3
    · rw [if_neg c7] at h
      refine pv_e_bk (ps := [(26, .iload_n 2, 1), (27, .iconst 2, 1)]) (t' := (0, 0, 28, [some (.ref 94), some (.int x1), some (.int x2)], [.int (2:Int32), .int x2], pv_mm s T)) (by decide +kernel) rfl ?_
      refine pv_e_icmpne (off := 15) (b := 43) (pc' := 31) (by decide +kernel) (by decide +kernel) rfl (fun c10 => ?_) (fun c10 => ?_)
      · rw [if_pos c10] at h
        refine pv_e_bk (ps := [(31, .aload_n 0, 1)]) (t' := (0, 0, 32, [some (.ref 94), some (.int x1), some (.int x2)], [.ref 94], pv_mm s T)) (by decide +kernel) rfl ?_
        refine pv_e_gr (i := 44) (ci := 6) (j := 17) (b := 105) (pc' := 35) (by decide +kernel) rfl rfl rfl ?_
        refine pv_e_bk (ps := [(35, .bipush 56, 2), (37, .iload_n 1, 1), (38, .iadd, 1)]) (t' := (0, 0, 39, [some (.ref 94), some (.int x1), some (.int x2)], [.int ((56:Int32) + x1), .ref 105], pv_mm s T)) (by decide +kernel) rfl ?_
        obtain ⟨q11, e12, h⟩ := Option.bind_eq_some_iff.mp h
        refine pv_e_rm (pc' := 40) (by decide +kernel) (by decide) rfl e12 rfl ?_
        refine pv_e_bk (ps := [(40, .goto 29, 3)]) (t' := (0, 0, 69, [some (.ref 94), some (.int x1), some (.int x2)], [.int q11], pv_mm s T)) (by decide +kernel) rfl ?_
        obtain rfl := Option.some.inj h
        exact hJ3
      · rw [if_neg c10] at h
        refine pv_e_bk (ps := [(43, .iload_n 2, 1), (44, .iconst 3, 1)]) (t' := (0, 0, 45, [some (.ref 94), some (.int x1), some (.int x2)], [.int (3:Int32), .int x2], pv_mm s T)) (by decide +kernel) rfl ?_
        refine pv_e_icmpne (off := 15) (b := 60) (pc' := 48) (by decide +kernel) (by decide +kernel) rfl (fun c13 => ?_) (fun c13 => ?_)
        · rw [if_pos c13] at h
          refine pv_e_bk (ps := [(48, .aload_n 0, 1)]) (t' := (0, 0, 49, [some (.ref 94), some (.int x1), some (.int x2)], [.ref 94], pv_mm s T)) (by decide +kernel) rfl ?_
          refine pv_e_gr (i := 44) (ci := 6) (j := 17) (b := 105) (pc' := 52) (by decide +kernel) rfl rfl rfl ?_
          refine pv_e_bk (ps := [(52, .bipush 63, 2), (54, .iload_n 1, 1), (55, .iadd, 1)]) (t' := (0, 0, 56, [some (.ref 94), some (.int x1), some (.int x2)], [.int ((63:Int32) + x1), .ref 105], pv_mm s T)) (by decide +kernel) rfl ?_
          obtain ⟨q14, e15, h⟩ := Option.bind_eq_some_iff.mp h
          refine pv_e_rm (pc' := 57) (by decide +kernel) (by decide) rfl e15 rfl ?_
          refine pv_e_bk (ps := [(57, .goto 12, 3)]) (t' := (0, 0, 69, [some (.ref 94), some (.int x1), some (.int x2)], [.int q14], pv_mm s T)) (by decide +kernel) rfl ?_
          obtain rfl := Option.some.inj h
          exact hJ3
        · rw [if_neg c13] at h
          refine pv_e_bk (ps := [(60, .aload_n 0, 1)]) (t' := (0, 0, 61, [some (.ref 94), some (.int x1), some (.int x2)], [.ref 94], pv_mm s T)) (by decide +kernel) rfl ?_
          refine pv_e_gr (i := 44) (ci := 6) (j := 17) (b := 105) (pc' := 64) (by decide +kernel) rfl rfl rfl ?_
          refine pv_e_bk (ps := [(64, .bipush 70, 2), (66, .iload_n 1, 1), (67, .iadd, 1)]) (t' := (0, 0, 68, [some (.ref 94), some (.int x1), some (.int x2)], [.int ((70:Int32) + x1), .ref 105], pv_mm s T)) (by decide +kernel) rfl ?_
          obtain ⟨q16, e17, h⟩ := Option.bind_eq_some_iff.mp h
          refine pv_e_rm (pc' := 69) (by decide +kernel) (by decide) rfl e17 rfl ?_
          obtain rfl := Option.some.inj h
          exact hJ3
def f146_person (x1 : Int32) (x2 : Int32) (T : pv_T) : Option (Int32 × pv_T) :=
  (f139_isOne x1 T).bind fun q2 =>
  ((
    if q2 = 0 then
      some ((-1:Int32), T)
    else
      (f113_in x2 (0:Int32) (4:Int32)).bind fun q9 =>
      if q9 = 0 then
        some ((-1:Int32), T)
      else
        (f145_personOf x1 x2 T).bind fun q12 =>
        (f115_ask q12 (1:Int32) T).bind fun (q14, T15) =>
        some (q14, T15)) : Option (Int32 × pv_T)).bind fun (t3, T4) =>
  some (t3, T4)
theorem ee146 {xs : Nat → Int32} {L : Nat} (d : Nat) (x1 : Int32) (x2 : Int32) {s : pv_F} {T : pv_T} {q : Int32 × pv_T}  (h : f146_person x1 x2 T = some q) : pv_Ev xs L (d + 2) 146 (0, 0, 0, [some (.ref 94), some (.int x1), some (.int x2)], [], pv_mm s T) (some (.int q.1), pv_mm s q.2) := by
  generalize hr : ((some (.int q.1), pv_mm s q.2) : Option Value × pv_M) = r
  unfold f146_person at h
  refine pv_e_bk (ps := [(0, .aload_n 0, 1), (1, .iload_n 1, 1)]) (t' := (0, 0, 2, [some (.ref 94), some (.int x1), some (.int x2)], [.int x1, .ref 94], pv_mm s T)) (by decide +kernel) rfl ?_
  obtain ⟨q2, e1, h⟩ := Option.bind_eq_some_iff.mp h
  refine pv_e_cvi (d := d + 1) (i := 152) (z := 139) (np := 1) (ml := 2) (ci := 6) (As := [.int x1]) (rs := []) (pc' := 5) (by decide +kernel) rfl rfl rfl rfl (Nat.le_of_ble_eq_true rfl) (Nat.le_of_ble_eq_true rfl) rfl (ee139 (d + 0) x1 e1) ?_
  obtain ⟨⟨t3, T4⟩, hv5, h⟩ := Option.bind_eq_some_iff.mp h
  dsimp only at h
  have hJ6 : pv_Ev xs L (d + 2) 146 (0, 0, 32, [some (.ref 94), some (.int x1), some (.int x2)], [.int t3], pv_mm s T4) r := by
    obtain rfl := Option.some.inj h
    cases hr
    exact pv_e_ri (by decide +kernel)
  clear h
  have h := hv5
  clear hv5
  refine pv_e_ifeq (off := 26) (b := 31) (pc' := 8) (by decide +kernel) (by decide +kernel) rfl (fun c7 => ?_) (fun c7 => ?_)
  · rw [if_pos c7] at h
    refine pv_e_bk (ps := [(31, .iconst (-1), 1)]) (t' := (0, 0, 32, [some (.ref 94), some (.int x1), some (.int x2)], [.int (-1:Int32)], pv_mm s T)) (by decide +kernel) rfl ?_
    cases h
    exact hJ6
  · rw [if_neg c7] at h
    refine pv_e_bk (ps := [(8, .iload_n 2, 1), (9, .iconst 0, 1), (10, .iconst 4, 1)]) (t' := (0, 0, 11, [some (.ref 94), some (.int x1), some (.int x2)], [.int (4:Int32), .int (0:Int32), .int x2], pv_mm s T)) (by decide +kernel) rfl ?_
    obtain ⟨q9, e8, h⟩ := Option.bind_eq_some_iff.mp h
    refine pv_e_csi (d := d + 1) (i := 83) (z := 113) (np := 3) (ml := 3) (As := [.int x2, .int (0:Int32), .int (4:Int32)]) (rs := []) (pc' := 14) (by decide +kernel) rfl rfl rfl (Nat.le_of_ble_eq_true rfl) (Nat.le_of_ble_eq_true rfl) rfl (ee113 (d + 1) x2 (0:Int32) (4:Int32) e8) ?_
    refine pv_e_ifeq (off := 17) (b := 31) (pc' := 17) (by decide +kernel) (by decide +kernel) rfl (fun c10 => ?_) (fun c10 => ?_)
    · rw [if_pos c10] at h
      refine pv_e_bk (ps := [(31, .iconst (-1), 1)]) (t' := (0, 0, 32, [some (.ref 94), some (.int x1), some (.int x2)], [.int (-1:Int32)], pv_mm s T)) (by decide +kernel) rfl ?_
      cases h
      exact hJ6
    · rw [if_neg c10] at h
      refine pv_e_bk (ps := [(17, .aload_n 0, 1), (18, .aload_n 0, 1), (19, .iload_n 1, 1), (20, .iload_n 2, 1)]) (t' := (0, 0, 21, [some (.ref 94), some (.int x1), some (.int x2)], [.int x2, .int x1, .ref 94, .ref 94], pv_mm s T)) (by decide +kernel) rfl ?_
      obtain ⟨q12, e11, h⟩ := Option.bind_eq_some_iff.mp h
      refine pv_e_cvi (d := d + 1) (i := 155) (z := 145) (np := 2) (ml := 3) (ci := 6) (As := [.int x1, .int x2]) (rs := [.ref 94]) (pc' := 24) (by decide +kernel) rfl rfl rfl rfl (Nat.le_of_ble_eq_true rfl) (Nat.le_of_ble_eq_true rfl) rfl (ee145 (d + 0) x1 x2 e11) ?_
      refine pv_e_bk (ps := [(24, .iconst 1, 1)]) (t' := (0, 0, 25, [some (.ref 94), some (.int x1), some (.int x2)], [.int (1:Int32), .int q12, .ref 94], pv_mm s T)) (by decide +kernel) rfl ?_
      obtain ⟨⟨q14, T15⟩, e13, h⟩ := Option.bind_eq_some_iff.mp h
      dsimp only at h
      refine pv_e_cvi (d := d + 1) (i := 109) (z := 115) (np := 2) (ml := 3) (ci := 6) (As := [.int q12, .int (1:Int32)]) (rs := []) (pc' := 28) (by decide +kernel) rfl rfl rfl rfl (Nat.le_of_ble_eq_true rfl) (Nat.le_of_ble_eq_true rfl) rfl (ee115 (d + 1) q12 (1:Int32) e13) ?_
      refine pv_e_bk (ps := [(28, .goto 4, 3)]) (t' := (0, 0, 32, [some (.ref 94), some (.int x1), some (.int x2)], [.int q14], pv_mm s T15)) (by decide +kernel) rfl ?_
      cases h
      exact hJ6
def f147_letter (x1 : Int32) (x2 : Int32) (T : pv_T) : Option (Int32 × pv_T) :=
  (f139_isOne x1 T).bind fun q2 =>
  if q2 = 0 then
    some ((-1:Int32), T)
  else
    if 0 ≤ x2 then
      (f141_lenOf x1 T).bind fun q6 =>
      ((
        if q6 ≤ x2 then
          (f114_meet (2:Int32) T).bind fun (q13, T14) =>
          some (q13, T14)
        else
          (f142_letterOf x1 x2 T).bind fun q16 =>
          some (q16, T)) : Option (Int32 × pv_T)).bind fun (t7, T8) =>
      some (t7, T8)
    else
      some ((-1:Int32), T)
theorem ee147 {xs : Nat → Int32} {L : Nat} (d : Nat) (x1 : Int32) (x2 : Int32) {s : pv_F} {T : pv_T} {q : Int32 × pv_T}  (h : f147_letter x1 x2 T = some q) : pv_Ev xs L (d + 2) 147 (0, 0, 0, [some (.ref 94), some (.int x1), some (.int x2)], [], pv_mm s T) (some (.int q.1), pv_mm s q.2) := by
  generalize hr : ((some (.int q.1), pv_mm s q.2) : Option Value × pv_M) = r
  unfold f147_letter at h
  refine pv_e_bk (ps := [(0, .aload_n 0, 1), (1, .iload_n 1, 1)]) (t' := (0, 0, 2, [some (.ref 94), some (.int x1), some (.int x2)], [.int x1, .ref 94], pv_mm s T)) (by decide +kernel) rfl ?_
  obtain ⟨q2, e1, h⟩ := Option.bind_eq_some_iff.mp h
  refine pv_e_cvi (d := d + 1) (i := 152) (z := 139) (np := 1) (ml := 2) (ci := 6) (As := [.int x1]) (rs := []) (pc' := 5) (by decide +kernel) rfl rfl rfl rfl (Nat.le_of_ble_eq_true rfl) (Nat.le_of_ble_eq_true rfl) rfl (ee139 (d + 0) x1 e1) ?_
  refine pv_e_ifeq (off := 7) (b := 12) (pc' := 8) (by decide +kernel) (by decide +kernel) rfl (fun c3 => ?_) (fun c3 => ?_)
  · rw [if_pos c3] at h
    refine pv_e_bk (ps := [(12, .iconst (-1), 1)]) (t' := (0, 0, 13, [some (.ref 94), some (.int x1), some (.int x2)], [.int (-1:Int32)], pv_mm s T)) (by decide +kernel) rfl ?_
    obtain rfl := Option.some.inj h
    cases hr
    exact pv_e_ri (by decide +kernel)
  · rw [if_neg c3] at h
    refine pv_e_bk (ps := [(8, .iload_n 2, 1)]) (t' := (0, 0, 9, [some (.ref 94), some (.int x1), some (.int x2)], [.int x2], pv_mm s T)) (by decide +kernel) rfl ?_
    refine pv_e_ifge (off := 5) (b := 14) (pc' := 12) (by decide +kernel) (by decide +kernel) rfl (fun c4 => ?_) (fun c4 => ?_)
    · rw [if_pos c4] at h
      refine pv_e_bk (ps := [(14, .iload_n 2, 1), (15, .aload_n 0, 1), (16, .iload_n 1, 1)]) (t' := (0, 0, 17, [some (.ref 94), some (.int x1), some (.int x2)], [.int x1, .ref 94, .int x2], pv_mm s T)) (by decide +kernel) rfl ?_
      obtain ⟨q6, e5, h⟩ := Option.bind_eq_some_iff.mp h
      refine pv_e_cvi (d := d + 1) (i := 142) (z := 141) (np := 1) (ml := 2) (ci := 6) (As := [.int x1]) (rs := [.int x2]) (pc' := 20) (by decide +kernel) rfl rfl rfl rfl (Nat.le_of_ble_eq_true rfl) (Nat.le_of_ble_eq_true rfl) rfl (ee141 (d + 1) x1 e5) ?_
      obtain ⟨⟨t7, T8⟩, hv9, h⟩ := Option.bind_eq_some_iff.mp h
      dsimp only at h
      have hJ10 : pv_Ev xs L (d + 2) 147 (0, 0, 37, [some (.ref 94), some (.int x1), some (.int x2)], [.int t7], pv_mm s T8) r := by
        obtain rfl := Option.some.inj h
        cases hr
        exact pv_e_ri (by decide +kernel)
      clear h
      have h := hv9
      clear hv9
      refine pv_e_icmpge (off := 12) (b := 32) (pc' := 23) (by decide +kernel) (by decide +kernel) rfl (fun c11 => ?_) (fun c11 => ?_)
      · rw [if_pos c11] at h
        refine pv_e_bk (ps := [(32, .aload_n 0, 1), (33, .iconst 2, 1)]) (t' := (0, 0, 34, [some (.ref 94), some (.int x1), some (.int x2)], [.int (2:Int32), .ref 94], pv_mm s T)) (by decide +kernel) rfl ?_
        obtain ⟨⟨q13, T14⟩, e12, h⟩ := Option.bind_eq_some_iff.mp h
        dsimp only at h
        refine pv_e_cvi (d := d + 1) (i := 91) (z := 114) (np := 1) (ml := 2) (ci := 6) (As := [.int (2:Int32)]) (rs := []) (pc' := 37) (by decide +kernel) rfl rfl rfl rfl (Nat.le_of_ble_eq_true rfl) (Nat.le_of_ble_eq_true rfl) rfl (ee114 (d + 1) (2:Int32) e12) ?_
        cases h
        exact hJ10
      · rw [if_neg c11] at h
        refine pv_e_bk (ps := [(23, .aload_n 0, 1), (24, .iload_n 1, 1), (25, .iload_n 2, 1)]) (t' := (0, 0, 26, [some (.ref 94), some (.int x1), some (.int x2)], [.int x2, .int x1, .ref 94], pv_mm s T)) (by decide +kernel) rfl ?_
        obtain ⟨q16, e15, h⟩ := Option.bind_eq_some_iff.mp h
        refine pv_e_cvi (d := d + 1) (i := 145) (z := 142) (np := 2) (ml := 3) (ci := 6) (As := [.int x1, .int x2]) (rs := []) (pc' := 29) (by decide +kernel) rfl rfl rfl rfl (Nat.le_of_ble_eq_true rfl) (Nat.le_of_ble_eq_true rfl) rfl (ee142 (d + 1) x1 x2 e15) ?_
        refine pv_e_bk (ps := [(29, .goto 8, 3)]) (t' := (0, 0, 37, [some (.ref 94), some (.int x1), some (.int x2)], [.int q16], pv_mm s T)) (by decide +kernel) rfl ?_
        cases h
        exact hJ10
    · rw [if_neg c4] at h
      refine pv_e_bk (ps := [(12, .iconst (-1), 1)]) (t' := (0, 0, 13, [some (.ref 94), some (.int x1), some (.int x2)], [.int (-1:Int32)], pv_mm s T)) (by decide +kernel) rfl ?_
      obtain rfl := Option.some.inj h
      cases hr
      exact pv_e_ri (by decide +kernel)
def f151_mayCall (x1 : Int32) (x2 : Int32) (T : pv_T) : Option (Int32) :=
  ((
    if x1 = x2 then
      some (0:Int32)
    else
      (pv_rd T.1 101 7 x1).bind fun q7 =>
      if q7 = (3:Int32) then
        some (0:Int32)
      else
        (pv_rd T.1 101 7 x2).bind fun q10 =>
        if q10 = (3:Int32) then
          some (0:Int32)
        else
          (f141_lenOf x2 T).bind fun q14 =>
          if q14 ≤ 0 then
            some (0:Int32)
          else
            some (1:Int32)) : Option (Int32)).bind fun t1 =>
  (pv_bl t1).bind fun q2 => some q2
theorem ee151 {xs : Nat → Int32} {L : Nat} (d : Nat) (x1 : Int32) (x2 : Int32) {s : pv_F} {T : pv_T} {q : Int32}  (h : f151_mayCall x1 x2 T = some q) : pv_Ev xs L (d + 1) 151 (0, 0, 0, [some (.ref 94), some (.int x1), some (.int x2)], [], pv_mm s T) (some (.int q), pv_mm s T) := by
  generalize hr : ((some (.int q), pv_mm s T) : Option Value × pv_M) = r
  unfold f151_mayCall at h
  refine pv_e_bk (ps := [(0, .iload_n 1, 1), (1, .iload_n 2, 1)]) (t' := (0, 0, 2, [some (.ref 94), some (.int x1), some (.int x2)], [.int x2, .int x1], pv_mm s T)) (by decide +kernel) rfl ?_
  obtain ⟨t1, hv4, h⟩ := Option.bind_eq_some_iff.mp h
  have hJ5 : pv_Ev xs L (d + 1) 151 (0, 0, 38, [some (.ref 94), some (.int x1), some (.int x2)], [.int t1], pv_mm s T) r := by
    obtain ⟨q2, e3, h⟩ := Option.bind_eq_some_iff.mp h
    obtain rfl := Option.some.inj h
    cases hr
    exact pv_e_rz (by decide +kernel) e3
  clear h
  have h := hv4
  clear hv4
  refine pv_e_icmpeq (off := 35) (b := 37) (pc' := 5) (by decide +kernel) (by decide +kernel) rfl (fun c6 => ?_) (fun c6 => ?_)
  · rw [if_pos c6] at h
    refine pv_e_bk (ps := [(37, .iconst 0, 1)]) (t' := (0, 0, 38, [some (.ref 94), some (.int x1), some (.int x2)], [.int (0:Int32)], pv_mm s T)) (by decide +kernel) rfl ?_
    obtain rfl := Option.some.inj h
    exact hJ5
  · rw [if_neg c6] at h
    refine pv_e_bk (ps := [(5, .aload_n 0, 1)]) (t' := (0, 0, 6, [some (.ref 94), some (.int x1), some (.int x2)], [.ref 94], pv_mm s T)) (by decide +kernel) rfl ?_
    refine pv_e_gr (i := 32) (ci := 6) (j := 11) (b := 101) (pc' := 9) (by decide +kernel) rfl rfl rfl ?_
    refine pv_e_bk (ps := [(9, .iload_n 1, 1)]) (t' := (0, 0, 10, [some (.ref 94), some (.int x1), some (.int x2)], [.int x1, .ref 101], pv_mm s T)) (by decide +kernel) rfl ?_
    obtain ⟨q7, e8, h⟩ := Option.bind_eq_some_iff.mp h
    refine pv_e_rm (pc' := 11) (by decide +kernel) (by decide) rfl e8 rfl ?_
    refine pv_e_bk (ps := [(11, .iconst 3, 1)]) (t' := (0, 0, 12, [some (.ref 94), some (.int x1), some (.int x2)], [.int (3:Int32), .int q7], pv_mm s T)) (by decide +kernel) rfl ?_
    refine pv_e_icmpeq (off := 25) (b := 37) (pc' := 15) (by decide +kernel) (by decide +kernel) rfl (fun c9 => ?_) (fun c9 => ?_)
    · rw [if_pos c9] at h
      refine pv_e_bk (ps := [(37, .iconst 0, 1)]) (t' := (0, 0, 38, [some (.ref 94), some (.int x1), some (.int x2)], [.int (0:Int32)], pv_mm s T)) (by decide +kernel) rfl ?_
      obtain rfl := Option.some.inj h
      exact hJ5
    · rw [if_neg c9] at h
      refine pv_e_bk (ps := [(15, .aload_n 0, 1)]) (t' := (0, 0, 16, [some (.ref 94), some (.int x1), some (.int x2)], [.ref 94], pv_mm s T)) (by decide +kernel) rfl ?_
      refine pv_e_gr (i := 32) (ci := 6) (j := 11) (b := 101) (pc' := 19) (by decide +kernel) rfl rfl rfl ?_
      refine pv_e_bk (ps := [(19, .iload_n 2, 1)]) (t' := (0, 0, 20, [some (.ref 94), some (.int x1), some (.int x2)], [.int x2, .ref 101], pv_mm s T)) (by decide +kernel) rfl ?_
      obtain ⟨q10, e11, h⟩ := Option.bind_eq_some_iff.mp h
      refine pv_e_rm (pc' := 21) (by decide +kernel) (by decide) rfl e11 rfl ?_
      refine pv_e_bk (ps := [(21, .iconst 3, 1)]) (t' := (0, 0, 22, [some (.ref 94), some (.int x1), some (.int x2)], [.int (3:Int32), .int q10], pv_mm s T)) (by decide +kernel) rfl ?_
      refine pv_e_icmpeq (off := 15) (b := 37) (pc' := 25) (by decide +kernel) (by decide +kernel) rfl (fun c12 => ?_) (fun c12 => ?_)
      · rw [if_pos c12] at h
        refine pv_e_bk (ps := [(37, .iconst 0, 1)]) (t' := (0, 0, 38, [some (.ref 94), some (.int x1), some (.int x2)], [.int (0:Int32)], pv_mm s T)) (by decide +kernel) rfl ?_
        obtain rfl := Option.some.inj h
        exact hJ5
      · rw [if_neg c12] at h
        refine pv_e_bk (ps := [(25, .aload_n 0, 1), (26, .iload_n 2, 1)]) (t' := (0, 0, 27, [some (.ref 94), some (.int x1), some (.int x2)], [.int x2, .ref 94], pv_mm s T)) (by decide +kernel) rfl ?_
        obtain ⟨q14, e13, h⟩ := Option.bind_eq_some_iff.mp h
        refine pv_e_cvi (d := d + 0) (i := 142) (z := 141) (np := 1) (ml := 2) (ci := 6) (As := [.int x2]) (rs := []) (pc' := 30) (by decide +kernel) rfl rfl rfl rfl (Nat.le_of_ble_eq_true rfl) (Nat.le_of_ble_eq_true rfl) rfl (ee141 (d + 0) x2 e13) ?_
        refine pv_e_ifle (off := 7) (b := 37) (pc' := 33) (by decide +kernel) (by decide +kernel) rfl (fun c15 => ?_) (fun c15 => ?_)
        · rw [if_pos c15] at h
          refine pv_e_bk (ps := [(37, .iconst 0, 1)]) (t' := (0, 0, 38, [some (.ref 94), some (.int x1), some (.int x2)], [.int (0:Int32)], pv_mm s T)) (by decide +kernel) rfl ?_
          obtain rfl := Option.some.inj h
          exact hJ5
        · rw [if_neg c15] at h
          refine pv_e_bk (ps := [(33, .iconst 1, 1), (34, .goto 4, 3)]) (t' := (0, 0, 38, [some (.ref 94), some (.int x1), some (.int x2)], [.int (1:Int32)], pv_mm s T)) (by decide +kernel) rfl ?_
          obtain rfl := Option.some.inj h
          exact hJ5
def f152_comers_b1 (v1 : Int32) (v2 : Int32) (T : pv_T) (st : Int32 × Int32) : Option ((Int32 × Int32) ⊕ (Int32 × Int32)) := match st with
  | (v3, v4) =>
    if (T.1 94 8) ≤ v4 then
      some (.inr (v3, v4))
    else
      (pv_rd T.1 101 7 v1).bind fun q2 =>
      ((
        if q2 = (5:Int32) then
          (f141_lenOf v4 T).bind fun q17 =>
          if q17 ≤ 0 then
            some (0:Int32)
          else
            (f142_letterOf v4 (0:Int32) T).bind fun q20 =>
            (f142_letterOf v2 (0:Int32) T).bind fun q22 =>
            if q20 = q22 then
              some (1:Int32)
            else
              some (0:Int32)
        else
          (f143_isLike v2 v4 T).bind fun q25 =>
          some q25) : Option (Int32)).bind fun t4 =>
      ((
        if v4 = v1 then
          some (0:Int32)
        else
          (pv_rd T.1 101 7 v4).bind fun q9 =>
          if q9 = (3:Int32) then
            some (0:Int32)
          else
            if t4 = 0 then
              some (0:Int32)
            else
              some ((1:Int32) <<< (v4 &&& 31))) : Option (Int32)).bind fun t5 =>
      some (.inl (v3 ||| t5, v4 + (1:Int32)))
def f152_comers_b1_H (xs : Nat → Int32) (L d : Nat) (r : Option Value × pv_M) (s : pv_F) (v1 : Int32) (v2 : Int32) (T : pv_T) (st : Int32 × Int32) : Prop := match st with
  | (v3, v4) => ∀ z5 : Option Value, pv_Ev xs L (d + 2) 152 (0, 0, 5, [some (.ref 94), some (.int v1), some (.int v2), some (.int v3), some (.int v4), z5], [], pv_mm s T) r
def f152_comers_b1_X (xs : Nat → Int32) (L d : Nat) (r : Option Value × pv_M) (s : pv_F) (v1 : Int32) (v2 : Int32) (T : pv_T) (st : Int32 × Int32) : Prop := match st with
  | (v3, v4) => ∀ z4 : Option Value, ∀ z5 : Option Value, pv_Ev xs L (d + 2) 152 (0, 0, 105, [some (.ref 94), some (.int v1), some (.int v2), some (.int v3), z4, z5], [], pv_mm s T) r
def f152_comers (x1 : Int32) (x2 : Int32) (T : pv_T) : Option (Int32) :=
  (pv_lq (f152_comers_b1 x1 x2 T) 20000 ((0:Int32), (0:Int32))).bind fun (w26, w27) =>
  some w26
theorem f152_comers_b1_ok {xs : Nat → Int32} {L d : Nat} {r : Option Value × pv_M} {s : pv_F} {v1 : Int32} {v2 : Int32} {T : pv_T} (st : Int32 × Int32) (o : (Int32 × Int32) ⊕ (Int32 × Int32)) (h : f152_comers_b1 v1 v2 T st = some o) (hK : pv_Kq (f152_comers_b1_H xs L d r s v1 v2 T) (f152_comers_b1_X xs L d r s v1 v2 T) o) : f152_comers_b1_H xs L d r s v1 v2 T st := by
  obtain ⟨v3, v4⟩ := st
  show ∀ z5 : Option Value, pv_Ev xs L (d + 2) 152 (0, 0, 5, [some (.ref 94), some (.int v1), some (.int v2), some (.int v3), some (.int v4), z5], [], pv_mm s T) r
  intro z5
  unfold f152_comers_b1 at h
  dsimp only at h
  refine pv_e_bk (ps := [(5, .iload 4, 2), (7, .aload_n 0, 1)]) (t' := (0, 0, 8, [some (.ref 94), some (.int v1), some (.int v2), some (.int v3), some (.int v4), z5], [.ref 94, .int v4], pv_mm s T)) (by decide +kernel) rfl ?_
  refine pv_e_gm (i := 136) (ci := 6) (j := 8) (pc' := 11) (by decide +kernel) (by decide) rfl rfl rfl ?_
  refine pv_e_icmpge (off := 94) (b := 105) (pc' := 14) (by decide +kernel) (by decide +kernel) rfl (fun c1 => ?_) (fun c1 => ?_)
  · rw [if_pos c1] at h
    obtain rfl := Option.some.inj h
    exact hK _ _
  · rw [if_neg c1] at h
    refine pv_e_bk (ps := [(14, .aload_n 0, 1)]) (t' := (0, 0, 15, [some (.ref 94), some (.int v1), some (.int v2), some (.int v3), some (.int v4), z5], [.ref 94], pv_mm s T)) (by decide +kernel) rfl ?_
    refine pv_e_gr (i := 32) (ci := 6) (j := 11) (b := 101) (pc' := 18) (by decide +kernel) rfl rfl rfl ?_
    refine pv_e_bk (ps := [(18, .iload_n 1, 1)]) (t' := (0, 0, 19, [some (.ref 94), some (.int v1), some (.int v2), some (.int v3), some (.int v4), z5], [.int v1, .ref 101], pv_mm s T)) (by decide +kernel) rfl ?_
    obtain ⟨q2, e3, h⟩ := Option.bind_eq_some_iff.mp h
    refine pv_e_rm (pc' := 20) (by decide +kernel) (by decide) rfl e3 rfl ?_
    refine pv_e_bk (ps := [(20, .iconst 5, 1)]) (t' := (0, 0, 21, [some (.ref 94), some (.int v1), some (.int v2), some (.int v3), some (.int v4), z5], [.int (5:Int32), .int q2], pv_mm s T)) (by decide +kernel) rfl ?_
    obtain ⟨t4, hv13, h⟩ := Option.bind_eq_some_iff.mp h
    have hJ14 : pv_Ev xs L (d + 2) 152 (0, 0, 64, [some (.ref 94), some (.int v1), some (.int v2), some (.int v3), some (.int v4), z5], [.int t4], pv_mm s T) r := by
      refine pv_e_bk (ps := [(64, .istore 5, 2), (66, .iload_n 3, 1), (67, .iload 4, 2), (69, .iload_n 1, 1)]) (t' := (0, 0, 70, [some (.ref 94), some (.int v1), some (.int v2), some (.int v3), some (.int v4), some (.int t4)], [.int v1, .int v4, .int v3], pv_mm s T)) (by decide +kernel) rfl ?_
      obtain ⟨t5, hv6, h⟩ := Option.bind_eq_some_iff.mp h
      have hJ7 : pv_Ev xs L (d + 2) 152 (0, 0, 97, [some (.ref 94), some (.int v1), some (.int v2), some (.int v3), some (.int v4), some (.int t4)], [.int t5, .int v3], pv_mm s T) r := by
        refine pv_e_bk (ps := [(97, .ior, 1), (98, .istore_n 3, 1), (99, .iinc 4 1, 3), (102, .goto (-97), 3)]) (t' := (0, 0, 5, [some (.ref 94), some (.int v1), some (.int v2), some (.int (v3 ||| t5)), some (.int (v4 + (1:Int32))), some (.int t4)], [], pv_mm s T)) (by decide +kernel) rfl ?_
        obtain rfl := Option.some.inj h
        exact hK _
      clear h
      have h := hv6
      clear hv6
      refine pv_e_icmpeq (off := 26) (b := 96) (pc' := 73) (by decide +kernel) (by decide +kernel) rfl (fun c8 => ?_) (fun c8 => ?_)
      · rw [if_pos c8] at h
        refine pv_e_bk (ps := [(96, .iconst 0, 1)]) (t' := (0, 0, 97, [some (.ref 94), some (.int v1), some (.int v2), some (.int v3), some (.int v4), some (.int t4)], [.int (0:Int32), .int v3], pv_mm s T)) (by decide +kernel) rfl ?_
        obtain rfl := Option.some.inj h
        exact hJ7
      · rw [if_neg c8] at h
        refine pv_e_bk (ps := [(73, .aload_n 0, 1)]) (t' := (0, 0, 74, [some (.ref 94), some (.int v1), some (.int v2), some (.int v3), some (.int v4), some (.int t4)], [.ref 94, .int v3], pv_mm s T)) (by decide +kernel) rfl ?_
        refine pv_e_gr (i := 32) (ci := 6) (j := 11) (b := 101) (pc' := 77) (by decide +kernel) rfl rfl rfl ?_
        refine pv_e_bk (ps := [(77, .iload 4, 2)]) (t' := (0, 0, 79, [some (.ref 94), some (.int v1), some (.int v2), some (.int v3), some (.int v4), some (.int t4)], [.int v4, .ref 101, .int v3], pv_mm s T)) (by decide +kernel) rfl ?_
        obtain ⟨q9, e10, h⟩ := Option.bind_eq_some_iff.mp h
        refine pv_e_rm (pc' := 80) (by decide +kernel) (by decide) rfl e10 rfl ?_
        refine pv_e_bk (ps := [(80, .iconst 3, 1)]) (t' := (0, 0, 81, [some (.ref 94), some (.int v1), some (.int v2), some (.int v3), some (.int v4), some (.int t4)], [.int (3:Int32), .int q9, .int v3], pv_mm s T)) (by decide +kernel) rfl ?_
        refine pv_e_icmpeq (off := 15) (b := 96) (pc' := 84) (by decide +kernel) (by decide +kernel) rfl (fun c11 => ?_) (fun c11 => ?_)
        · rw [if_pos c11] at h
          refine pv_e_bk (ps := [(96, .iconst 0, 1)]) (t' := (0, 0, 97, [some (.ref 94), some (.int v1), some (.int v2), some (.int v3), some (.int v4), some (.int t4)], [.int (0:Int32), .int v3], pv_mm s T)) (by decide +kernel) rfl ?_
          obtain rfl := Option.some.inj h
          exact hJ7
        · rw [if_neg c11] at h
          refine pv_e_bk (ps := [(84, .iload 5, 2)]) (t' := (0, 0, 86, [some (.ref 94), some (.int v1), some (.int v2), some (.int v3), some (.int v4), some (.int t4)], [.int t4, .int v3], pv_mm s T)) (by decide +kernel) rfl ?_
          refine pv_e_ifeq (off := 10) (b := 96) (pc' := 89) (by decide +kernel) (by decide +kernel) rfl (fun c12 => ?_) (fun c12 => ?_)
          · rw [if_pos c12] at h
            refine pv_e_bk (ps := [(96, .iconst 0, 1)]) (t' := (0, 0, 97, [some (.ref 94), some (.int v1), some (.int v2), some (.int v3), some (.int v4), some (.int t4)], [.int (0:Int32), .int v3], pv_mm s T)) (by decide +kernel) rfl ?_
            obtain rfl := Option.some.inj h
            exact hJ7
          · rw [if_neg c12] at h
            refine pv_e_bk (ps := [(89, .iconst 1, 1), (90, .iload 4, 2), (92, .ishl, 1), (93, .goto 4, 3)]) (t' := (0, 0, 97, [some (.ref 94), some (.int v1), some (.int v2), some (.int v3), some (.int v4), some (.int t4)], [.int ((1:Int32) <<< (v4 &&& 31)), .int v3], pv_mm s T)) (by decide +kernel) rfl ?_
            obtain rfl := Option.some.inj h
            exact hJ7
    clear h
    have h := hv13
    clear hv13
    refine pv_e_icmpne (off := 36) (b := 57) (pc' := 24) (by decide +kernel) (by decide +kernel) rfl (fun c15 => ?_) (fun c15 => ?_)
    · rw [if_pos c15] at h
      refine pv_e_bk (ps := [(24, .aload_n 0, 1), (25, .iload 4, 2)]) (t' := (0, 0, 27, [some (.ref 94), some (.int v1), some (.int v2), some (.int v3), some (.int v4), z5], [.int v4, .ref 94], pv_mm s T)) (by decide +kernel) rfl ?_
      obtain ⟨q17, e16, h⟩ := Option.bind_eq_some_iff.mp h
      refine pv_e_cvi (d := d + 1) (i := 142) (z := 141) (np := 1) (ml := 2) (ci := 6) (As := [.int v4]) (rs := []) (pc' := 30) (by decide +kernel) rfl rfl rfl rfl (Nat.le_of_ble_eq_true rfl) (Nat.le_of_ble_eq_true rfl) rfl (ee141 (d + 1) v4 e16) ?_
      refine pv_e_ifle (off := 23) (b := 53) (pc' := 33) (by decide +kernel) (by decide +kernel) rfl (fun c18 => ?_) (fun c18 => ?_)
      · rw [if_pos c18] at h
        refine pv_e_bk (ps := [(53, .iconst 0, 1), (54, .goto 10, 3)]) (t' := (0, 0, 64, [some (.ref 94), some (.int v1), some (.int v2), some (.int v3), some (.int v4), z5], [.int (0:Int32)], pv_mm s T)) (by decide +kernel) rfl ?_
        obtain rfl := Option.some.inj h
        exact hJ14
      · rw [if_neg c18] at h
        refine pv_e_bk (ps := [(33, .aload_n 0, 1), (34, .iload 4, 2), (36, .iconst 0, 1)]) (t' := (0, 0, 37, [some (.ref 94), some (.int v1), some (.int v2), some (.int v3), some (.int v4), z5], [.int (0:Int32), .int v4, .ref 94], pv_mm s T)) (by decide +kernel) rfl ?_
        obtain ⟨q20, e19, h⟩ := Option.bind_eq_some_iff.mp h
        refine pv_e_cvi (d := d + 1) (i := 145) (z := 142) (np := 2) (ml := 3) (ci := 6) (As := [.int v4, .int (0:Int32)]) (rs := []) (pc' := 40) (by decide +kernel) rfl rfl rfl rfl (Nat.le_of_ble_eq_true rfl) (Nat.le_of_ble_eq_true rfl) rfl (ee142 (d + 1) v4 (0:Int32) e19) ?_
        refine pv_e_bk (ps := [(40, .aload_n 0, 1), (41, .iload_n 2, 1), (42, .iconst 0, 1)]) (t' := (0, 0, 43, [some (.ref 94), some (.int v1), some (.int v2), some (.int v3), some (.int v4), z5], [.int (0:Int32), .int v2, .ref 94, .int q20], pv_mm s T)) (by decide +kernel) rfl ?_
        obtain ⟨q22, e21, h⟩ := Option.bind_eq_some_iff.mp h
        refine pv_e_cvi (d := d + 1) (i := 145) (z := 142) (np := 2) (ml := 3) (ci := 6) (As := [.int v2, .int (0:Int32)]) (rs := [.int q20]) (pc' := 46) (by decide +kernel) rfl rfl rfl rfl (Nat.le_of_ble_eq_true rfl) (Nat.le_of_ble_eq_true rfl) rfl (ee142 (d + 1) v2 (0:Int32) e21) ?_
        refine pv_e_icmpne (off := 7) (b := 53) (pc' := 49) (by decide +kernel) (by decide +kernel) rfl (fun c23 => ?_) (fun c23 => ?_)
        · rw [if_pos c23] at h
          refine pv_e_bk (ps := [(49, .iconst 1, 1), (50, .goto 14, 3)]) (t' := (0, 0, 64, [some (.ref 94), some (.int v1), some (.int v2), some (.int v3), some (.int v4), z5], [.int (1:Int32)], pv_mm s T)) (by decide +kernel) rfl ?_
          obtain rfl := Option.some.inj h
          exact hJ14
        · rw [if_neg c23] at h
          refine pv_e_bk (ps := [(53, .iconst 0, 1), (54, .goto 10, 3)]) (t' := (0, 0, 64, [some (.ref 94), some (.int v1), some (.int v2), some (.int v3), some (.int v4), z5], [.int (0:Int32)], pv_mm s T)) (by decide +kernel) rfl ?_
          obtain rfl := Option.some.inj h
          exact hJ14
    · rw [if_neg c15] at h
      refine pv_e_bk (ps := [(57, .aload_n 0, 1), (58, .iload_n 2, 1), (59, .iload 4, 2)]) (t' := (0, 0, 61, [some (.ref 94), some (.int v1), some (.int v2), some (.int v3), some (.int v4), z5], [.int v4, .int v2, .ref 94], pv_mm s T)) (by decide +kernel) rfl ?_
      obtain ⟨q25, e24, h⟩ := Option.bind_eq_some_iff.mp h
      refine pv_e_cvi (d := d + 1) (i := 148) (z := 143) (np := 2) (ml := 5) (ci := 6) (As := [.int v2, .int v4]) (rs := []) (pc' := 64) (by decide +kernel) rfl rfl rfl rfl (Nat.le_of_ble_eq_true rfl) (Nat.le_of_ble_eq_true rfl) rfl (ee143 (d + 0) v2 v4 e24) ?_
      obtain rfl := Option.some.inj h
      exact hJ14
theorem ee152 {xs : Nat → Int32} {L : Nat} (d : Nat) (x1 : Int32) (x2 : Int32) {s : pv_F} {T : pv_T} {q : Int32}  (h : f152_comers x1 x2 T = some q) : pv_Ev xs L (d + 2) 152 (0, 0, 0, [some (.ref 94), some (.int x1), some (.int x2), none, none, none], [], pv_mm s T) (some (.int q), pv_mm s T) := by
  generalize hr : ((some (.int q), pv_mm s T) : Option Value × pv_M) = r
  unfold f152_comers at h
  refine pv_e_bk (ps := [(0, .iconst 0, 1), (1, .istore_n 3, 1), (2, .iconst 0, 1), (3, .istore 4, 2)]) (t' := (0, 0, 5, [some (.ref 94), some (.int x1), some (.int x2), some (.int (0:Int32)), some (.int (0:Int32)), none], [], pv_mm s T)) (by decide +kernel) rfl ?_
  obtain ⟨⟨w26, w27⟩, e29, h⟩ := Option.bind_eq_some_iff.mp h
  dsimp only at h
  have hx28 : f152_comers_b1_X xs L d r s x1 x2 T (w26, w27) := by
    show ∀ z4 : Option Value, ∀ z5 : Option Value, pv_Ev xs L (d + 2) 152 (0, 0, 105, [some (.ref 94), some (.int x1), some (.int x2), some (.int w26), z4, z5], [], pv_mm s T) r
    intro z4 z5
    refine pv_e_bk (ps := [(105, .iload_n 3, 1)]) (t' := (0, 0, 106, [some (.ref 94), some (.int x1), some (.int x2), some (.int w26), z4, z5], [.int w26], pv_mm s T)) (by decide +kernel) rfl ?_
    obtain rfl := Option.some.inj h
    cases hr
    exact pv_e_ri (by decide +kernel)
  exact pv_lq_ok (H := f152_comers_b1_H xs L d r s x1 x2 T) (X := f152_comers_b1_X xs L d r s x1 x2 T) (f152_comers_b1_ok (xs := xs) (L := L) (d := d) (r := r) (s := s) (v1 := x1) (v2 := x2) (T := T)) 20000 _ _ e29 hx28 _
def f148_mark (x1 : Int32) (x2 : Int32) (T : pv_T) : Option (Int32 × pv_T) :=
  (f139_isOne x1 T).bind fun q2 =>
  if q2 = 0 then
    some ((-1:Int32), T)
  else
    (f113_in x2 (1:Int32) (5:Int32)).bind fun q5 =>
    if q5 = 0 then
      some ((-1:Int32), T)
    else
      (f140_isA x1 x2 T).bind fun q8 =>
      if q8 = 0 then
        (f114_meet (3:Int32) T).bind fun (q11, T12) =>
        some (q11, T12)
      else
        if x2 = (2:Int32) then
          (pv_rd T.1 105 78 (77:Int32)).bind fun q14 =>
          some (q14, T)
        else
          if x2 = (3:Int32) then
            (f144_likes x1 T).bind fun q18 =>
            (f117_sizeOf q18).bind fun q20 =>
            some (q20, T)
          else
            if x2 = (4:Int32) then
              (pv_rd T.1 105 78 ((49:Int32) + x1)).bind fun q22 =>
              some ((2:Int32) - q22, T)
            else
              if x2 = (5:Int32) then
                (f151_mayCall x1 (0:Int32) T).bind fun q26 =>
                ((
                  if q26 = 0 then
                    some (0:Int32)
                  else
                    (f152_comers x1 (0:Int32) T).bind fun q32 =>
                    (f117_sizeOf q32).bind fun q34 =>
                    some q34) : Option (Int32)).bind fun t27 =>
                some (t27, T)
              else
                (f144_likes x1 T).bind fun q36 =>
                (f117_sizeOf q36).bind fun q38 =>
                some (q38, T)
theorem ee148 {xs : Nat → Int32} {L : Nat} (d : Nat) (x1 : Int32) (x2 : Int32) {s : pv_F} {T : pv_T} {q : Int32 × pv_T}  (h : f148_mark x1 x2 T = some q) : pv_Ev xs L (d + 3) 148 (0, 0, 0, [some (.ref 94), some (.int x1), some (.int x2)], [], pv_mm s T) (some (.int q.1), pv_mm s q.2) := by
  generalize hr : ((some (.int q.1), pv_mm s q.2) : Option Value × pv_M) = r
  unfold f148_mark at h
  refine pv_e_bk (ps := [(0, .aload_n 0, 1), (1, .iload_n 1, 1)]) (t' := (0, 0, 2, [some (.ref 94), some (.int x1), some (.int x2)], [.int x1, .ref 94], pv_mm s T)) (by decide +kernel) rfl ?_
  obtain ⟨q2, e1, h⟩ := Option.bind_eq_some_iff.mp h
  refine pv_e_cvi (d := d + 2) (i := 152) (z := 139) (np := 1) (ml := 2) (ci := 6) (As := [.int x1]) (rs := []) (pc' := 5) (by decide +kernel) rfl rfl rfl rfl (Nat.le_of_ble_eq_true rfl) (Nat.le_of_ble_eq_true rfl) rfl (ee139 (d + 1) x1 e1) ?_
  refine pv_e_ifeq (off := 12) (b := 17) (pc' := 8) (by decide +kernel) (by decide +kernel) rfl (fun c3 => ?_) (fun c3 => ?_)
  · rw [if_pos c3] at h
    refine pv_e_bk (ps := [(17, .iconst (-1), 1)]) (t' := (0, 0, 18, [some (.ref 94), some (.int x1), some (.int x2)], [.int (-1:Int32)], pv_mm s T)) (by decide +kernel) rfl ?_
    obtain rfl := Option.some.inj h
    cases hr
    exact pv_e_ri (by decide +kernel)
  · rw [if_neg c3] at h
    refine pv_e_bk (ps := [(8, .iload_n 2, 1), (9, .iconst 1, 1), (10, .iconst 5, 1)]) (t' := (0, 0, 11, [some (.ref 94), some (.int x1), some (.int x2)], [.int (5:Int32), .int (1:Int32), .int x2], pv_mm s T)) (by decide +kernel) rfl ?_
    obtain ⟨q5, e4, h⟩ := Option.bind_eq_some_iff.mp h
    refine pv_e_csi (d := d + 2) (i := 83) (z := 113) (np := 3) (ml := 3) (As := [.int x2, .int (1:Int32), .int (5:Int32)]) (rs := []) (pc' := 14) (by decide +kernel) rfl rfl rfl (Nat.le_of_ble_eq_true rfl) (Nat.le_of_ble_eq_true rfl) rfl (ee113 (d + 2) x2 (1:Int32) (5:Int32) e4) ?_
    refine pv_e_ifne (off := 5) (b := 19) (pc' := 17) (by decide +kernel) (by decide +kernel) rfl (fun c6 => ?_) (fun c6 => ?_)
    · rw [if_pos c6] at h
      refine pv_e_bk (ps := [(17, .iconst (-1), 1)]) (t' := (0, 0, 18, [some (.ref 94), some (.int x1), some (.int x2)], [.int (-1:Int32)], pv_mm s T)) (by decide +kernel) rfl ?_
      obtain rfl := Option.some.inj h
      cases hr
      exact pv_e_ri (by decide +kernel)
    · rw [if_neg c6] at h
      refine pv_e_bk (ps := [(19, .aload_n 0, 1), (20, .iload_n 1, 1), (21, .iload_n 2, 1)]) (t' := (0, 0, 22, [some (.ref 94), some (.int x1), some (.int x2)], [.int x2, .int x1, .ref 94], pv_mm s T)) (by decide +kernel) rfl ?_
      obtain ⟨q8, e7, h⟩ := Option.bind_eq_some_iff.mp h
      refine pv_e_cvi (d := d + 2) (i := 158) (z := 140) (np := 2) (ml := 3) (ci := 6) (As := [.int x1, .int x2]) (rs := []) (pc' := 25) (by decide +kernel) rfl rfl rfl rfl (Nat.le_of_ble_eq_true rfl) (Nat.le_of_ble_eq_true rfl) rfl (ee140 (d + 2) x1 x2 e7) ?_
      refine pv_e_ifne (off := 9) (b := 34) (pc' := 28) (by decide +kernel) (by decide +kernel) rfl (fun c9 => ?_) (fun c9 => ?_)
      · rw [if_pos c9] at h
        refine pv_e_bk (ps := [(28, .aload_n 0, 1), (29, .iconst 3, 1)]) (t' := (0, 0, 30, [some (.ref 94), some (.int x1), some (.int x2)], [.int (3:Int32), .ref 94], pv_mm s T)) (by decide +kernel) rfl ?_
        obtain ⟨⟨q11, T12⟩, e10, h⟩ := Option.bind_eq_some_iff.mp h
        dsimp only at h
        refine pv_e_cvi (d := d + 2) (i := 91) (z := 114) (np := 1) (ml := 2) (ci := 6) (As := [.int (3:Int32)]) (rs := []) (pc' := 33) (by decide +kernel) rfl rfl rfl rfl (Nat.le_of_ble_eq_true rfl) (Nat.le_of_ble_eq_true rfl) rfl (ee114 (d + 2) (3:Int32) e10) ?_
        obtain rfl := Option.some.inj h
        cases hr
        exact pv_e_ri (by decide +kernel)
      · rw [if_neg c9] at h
        refine pv_e_bk (ps := [(34, .iload_n 2, 1)]) (t' := (0, 0, 35, [some (.ref 94), some (.int x1), some (.int x2)], [.int x2], pv_mm s T)) (by decide +kernel) rfl ?_
        by_cases c13 : x2 = (2:Int32)
        · rw [if_pos c13] at h
          refine pv_e_swin (dflt := 72) (lo := 2) (hi := 5) (offs := #[29, 72, 37, 49]) (len := 29) (off := 29) (b := 64) (by decide +kernel) (by rw [c13]; decide +kernel) (by rw [c13]; decide +kernel) (by decide +kernel) ?_
          refine pv_e_bk (ps := [(64, .aload_n 0, 1)]) (t' := (0, 0, 65, [some (.ref 94), some (.int x1), some (.int x2)], [.ref 94], pv_mm s T)) (by decide +kernel) rfl ?_
          refine pv_e_gr (i := 44) (ci := 6) (j := 17) (b := 105) (pc' := 68) (by decide +kernel) rfl rfl rfl ?_
          refine pv_e_bk (ps := [(68, .bipush 77, 2)]) (t' := (0, 0, 70, [some (.ref 94), some (.int x1), some (.int x2)], [.int (77:Int32), .ref 105], pv_mm s T)) (by decide +kernel) rfl ?_
          obtain ⟨q14, e15, h⟩ := Option.bind_eq_some_iff.mp h
          refine pv_e_rm (pc' := 71) (by decide +kernel) (by decide) rfl e15 rfl ?_
          obtain rfl := Option.some.inj h
          cases hr
          exact pv_e_ri (by decide +kernel)
        · rw [if_neg c13] at h
          by_cases c16 : x2 = (3:Int32)
          · rw [if_pos c16] at h
            refine pv_e_swin (dflt := 72) (lo := 2) (hi := 5) (offs := #[29, 72, 37, 49]) (len := 29) (off := 72) (b := 107) (by decide +kernel) (by rw [c16]; decide +kernel) (by rw [c16]; decide +kernel) (by decide +kernel) ?_
            refine pv_e_bk (ps := [(107, .aload_n 0, 1), (108, .iload_n 1, 1)]) (t' := (0, 0, 109, [some (.ref 94), some (.int x1), some (.int x2)], [.int x1, .ref 94], pv_mm s T)) (by decide +kernel) rfl ?_
            obtain ⟨q18, e17, h⟩ := Option.bind_eq_some_iff.mp h
            refine pv_e_cvi (d := d + 2) (i := 170) (z := 144) (np := 1) (ml := 4) (ci := 6) (As := [.int x1]) (rs := []) (pc' := 112) (by decide +kernel) rfl rfl rfl rfl (Nat.le_of_ble_eq_true rfl) (Nat.le_of_ble_eq_true rfl) rfl (ee144 (d + 0) x1 e17) ?_
            obtain ⟨q20, e19, h⟩ := Option.bind_eq_some_iff.mp h
            refine pv_e_csi (d := d + 2) (i := 167) (z := 117) (np := 1) (ml := 3) (As := [.int q18]) (rs := []) (pc' := 115) (by decide +kernel) rfl rfl rfl (Nat.le_of_ble_eq_true rfl) (Nat.le_of_ble_eq_true rfl) rfl (ee117 (d + 2) q18 e19) ?_
            obtain rfl := Option.some.inj h
            cases hr
            exact pv_e_ri (by decide +kernel)
          · rw [if_neg c16] at h
            by_cases c21 : x2 = (4:Int32)
            · rw [if_pos c21] at h
              refine pv_e_swin (dflt := 72) (lo := 2) (hi := 5) (offs := #[29, 72, 37, 49]) (len := 29) (off := 37) (b := 72) (by decide +kernel) (by rw [c21]; decide +kernel) (by rw [c21]; decide +kernel) (by decide +kernel) ?_
              refine pv_e_bk (ps := [(72, .iconst 2, 1), (73, .aload_n 0, 1)]) (t' := (0, 0, 74, [some (.ref 94), some (.int x1), some (.int x2)], [.ref 94, .int (2:Int32)], pv_mm s T)) (by decide +kernel) rfl ?_
              refine pv_e_gr (i := 44) (ci := 6) (j := 17) (b := 105) (pc' := 77) (by decide +kernel) rfl rfl rfl ?_
              refine pv_e_bk (ps := [(77, .bipush 49, 2), (79, .iload_n 1, 1), (80, .iadd, 1)]) (t' := (0, 0, 81, [some (.ref 94), some (.int x1), some (.int x2)], [.int ((49:Int32) + x1), .ref 105, .int (2:Int32)], pv_mm s T)) (by decide +kernel) rfl ?_
              obtain ⟨q22, e23, h⟩ := Option.bind_eq_some_iff.mp h
              refine pv_e_rm (pc' := 82) (by decide +kernel) (by decide) rfl e23 rfl ?_
              refine pv_e_bk (ps := [(82, .isub, 1)]) (t' := (0, 0, 83, [some (.ref 94), some (.int x1), some (.int x2)], [.int ((2:Int32) - q22)], pv_mm s T)) (by decide +kernel) rfl ?_
              obtain rfl := Option.some.inj h
              cases hr
              exact pv_e_ri (by decide +kernel)
            · rw [if_neg c21] at h
              by_cases c24 : x2 = (5:Int32)
              · rw [if_pos c24] at h
                refine pv_e_swin (dflt := 72) (lo := 2) (hi := 5) (offs := #[29, 72, 37, 49]) (len := 29) (off := 49) (b := 84) (by decide +kernel) (by rw [c24]; decide +kernel) (by rw [c24]; decide +kernel) (by decide +kernel) ?_
                refine pv_e_bk (ps := [(84, .aload_n 0, 1), (85, .iload_n 1, 1), (86, .iconst 0, 1)]) (t' := (0, 0, 87, [some (.ref 94), some (.int x1), some (.int x2)], [.int (0:Int32), .int x1, .ref 94], pv_mm s T)) (by decide +kernel) rfl ?_
                obtain ⟨q26, e25, h⟩ := Option.bind_eq_some_iff.mp h
                refine pv_e_cvi (d := d + 2) (i := 161) (z := 151) (np := 2) (ml := 3) (ci := 6) (As := [.int x1, .int (0:Int32)]) (rs := []) (pc' := 90) (by decide +kernel) rfl rfl rfl rfl (Nat.le_of_ble_eq_true rfl) (Nat.le_of_ble_eq_true rfl) rfl (ee151 (d + 1) x1 (0:Int32) e25) ?_
                obtain ⟨t27, hv28, h⟩ := Option.bind_eq_some_iff.mp h
                have hJ29 : pv_Ev xs L (d + 3) 148 (0, 0, 106, [some (.ref 94), some (.int x1), some (.int x2)], [.int t27], pv_mm s T) r := by
                  obtain rfl := Option.some.inj h
                  cases hr
                  exact pv_e_ri (by decide +kernel)
                clear h
                have h := hv28
                clear hv28
                refine pv_e_ifeq (off := 15) (b := 105) (pc' := 93) (by decide +kernel) (by decide +kernel) rfl (fun c30 => ?_) (fun c30 => ?_)
                · rw [if_pos c30] at h
                  refine pv_e_bk (ps := [(105, .iconst 0, 1)]) (t' := (0, 0, 106, [some (.ref 94), some (.int x1), some (.int x2)], [.int (0:Int32)], pv_mm s T)) (by decide +kernel) rfl ?_
                  obtain rfl := Option.some.inj h
                  exact hJ29
                · rw [if_neg c30] at h
                  refine pv_e_bk (ps := [(93, .aload_n 0, 1), (94, .iload_n 1, 1), (95, .iconst 0, 1)]) (t' := (0, 0, 96, [some (.ref 94), some (.int x1), some (.int x2)], [.int (0:Int32), .int x1, .ref 94], pv_mm s T)) (by decide +kernel) rfl ?_
                  obtain ⟨q32, e31, h⟩ := Option.bind_eq_some_iff.mp h
                  refine pv_e_cvi (d := d + 2) (i := 164) (z := 152) (np := 2) (ml := 6) (ci := 6) (As := [.int x1, .int (0:Int32)]) (rs := []) (pc' := 99) (by decide +kernel) rfl rfl rfl rfl (Nat.le_of_ble_eq_true rfl) (Nat.le_of_ble_eq_true rfl) rfl (ee152 (d + 0) x1 (0:Int32) e31) ?_
                  obtain ⟨q34, e33, h⟩ := Option.bind_eq_some_iff.mp h
                  refine pv_e_csi (d := d + 2) (i := 167) (z := 117) (np := 1) (ml := 3) (As := [.int q32]) (rs := []) (pc' := 102) (by decide +kernel) rfl rfl rfl (Nat.le_of_ble_eq_true rfl) (Nat.le_of_ble_eq_true rfl) rfl (ee117 (d + 2) q32 e33) ?_
                  refine pv_e_bk (ps := [(102, .goto 4, 3)]) (t' := (0, 0, 106, [some (.ref 94), some (.int x1), some (.int x2)], [.int q34], pv_mm s T)) (by decide +kernel) rfl ?_
                  obtain rfl := Option.some.inj h
                  exact hJ29
              · rw [if_neg c24] at h
                refine pv_e_swout (dflt := 72) (lo := 2) (hi := 5) (offs := #[29, 72, 37, 49]) (len := 29) (b := 107) (by decide +kernel) ?_ (by decide +kernel) ?_
                · have nc13 : x2.toInt ≠ (2 : Int) := fun e9 => c13 (Int32.toInt_inj.mp (e9.trans (by decide +kernel)))
                  have nc16 : x2.toInt ≠ (3 : Int) := fun e9 => c16 (Int32.toInt_inj.mp (e9.trans (by decide +kernel)))
                  have nc21 : x2.toInt ≠ (4 : Int) := fun e9 => c21 (Int32.toInt_inj.mp (e9.trans (by decide +kernel)))
                  have nc24 : x2.toInt ≠ (5 : Int) := fun e9 => c24 (Int32.toInt_inj.mp (e9.trans (by decide +kernel)))
                  omega
                · refine pv_e_bk (ps := [(107, .aload_n 0, 1), (108, .iload_n 1, 1)]) (t' := (0, 0, 109, [some (.ref 94), some (.int x1), some (.int x2)], [.int x1, .ref 94], pv_mm s T)) (by decide +kernel) rfl ?_
                  obtain ⟨q36, e35, h⟩ := Option.bind_eq_some_iff.mp h
                  refine pv_e_cvi (d := d + 2) (i := 170) (z := 144) (np := 1) (ml := 4) (ci := 6) (As := [.int x1]) (rs := []) (pc' := 112) (by decide +kernel) rfl rfl rfl rfl (Nat.le_of_ble_eq_true rfl) (Nat.le_of_ble_eq_true rfl) rfl (ee144 (d + 0) x1 e35) ?_
                  obtain ⟨q38, e37, h⟩ := Option.bind_eq_some_iff.mp h
                  refine pv_e_csi (d := d + 2) (i := 167) (z := 117) (np := 1) (ml := 3) (As := [.int q36]) (rs := []) (pc' := 115) (by decide +kernel) rfl rfl rfl (Nat.le_of_ble_eq_true rfl) (Nat.le_of_ble_eq_true rfl) rfl (ee117 (d + 2) q36 e37) ?_
                  obtain rfl := Option.some.inj h
                  cases hr
                  exact pv_e_ri (by decide +kernel)
def f149_way (x1 : Int32) (T : pv_T) : Option (Int32 × pv_T) :=
  (f113_in x1 (0:Int32) (2:Int32)).bind fun q2 =>
  if q2 = 0 then
    some ((-1:Int32), T)
  else
    (pv_pm T 94 9 x1).bind fun T4 =>
    some (T.1 94 9, T4)
theorem ee149 {xs : Nat → Int32} {L : Nat} (d : Nat) (x1 : Int32) {s : pv_F} {T : pv_T} {q : Int32 × pv_T}  (h : f149_way x1 T = some q) : pv_Ev xs L (d + 1) 149 (0, 0, 0, [some (.ref 94), some (.int x1), none], [], pv_mm s T) (some (.int q.1), pv_mm s q.2) := by
  generalize hr : ((some (.int q.1), pv_mm s q.2) : Option Value × pv_M) = r
  unfold f149_way at h
  refine pv_e_bk (ps := [(0, .iload_n 1, 1), (1, .iconst 0, 1), (2, .iconst 2, 1)]) (t' := (0, 0, 3, [some (.ref 94), some (.int x1), none], [.int (2:Int32), .int (0:Int32), .int x1], pv_mm s T)) (by decide +kernel) rfl ?_
  obtain ⟨q2, e1, h⟩ := Option.bind_eq_some_iff.mp h
  refine pv_e_csi (d := d + 0) (i := 83) (z := 113) (np := 3) (ml := 3) (As := [.int x1, .int (0:Int32), .int (2:Int32)]) (rs := []) (pc' := 6) (by decide +kernel) rfl rfl rfl (Nat.le_of_ble_eq_true rfl) (Nat.le_of_ble_eq_true rfl) rfl (ee113 (d + 0) x1 (0:Int32) (2:Int32) e1) ?_
  refine pv_e_ifne (off := 5) (b := 11) (pc' := 9) (by decide +kernel) (by decide +kernel) rfl (fun c3 => ?_) (fun c3 => ?_)
  · rw [if_pos c3] at h
    refine pv_e_bk (ps := [(9, .iconst (-1), 1)]) (t' := (0, 0, 10, [some (.ref 94), some (.int x1), none], [.int (-1:Int32)], pv_mm s T)) (by decide +kernel) rfl ?_
    obtain rfl := Option.some.inj h
    cases hr
    exact pv_e_ri (by decide +kernel)
  · rw [if_neg c3] at h
    refine pv_e_bk (ps := [(11, .aload_n 0, 1)]) (t' := (0, 0, 12, [some (.ref 94), some (.int x1), none], [.ref 94], pv_mm s T)) (by decide +kernel) rfl ?_
    refine pv_e_gm (i := 173) (ci := 6) (j := 9) (pc' := 15) (by decide +kernel) (by decide) rfl rfl rfl ?_
    refine pv_e_bk (ps := [(15, .istore_n 2, 1), (16, .aload_n 0, 1), (17, .iload_n 1, 1)]) (t' := (0, 0, 18, [some (.ref 94), some (.int x1), some (.int (T.1 94 9))], [.int x1, .ref 94], pv_mm s T)) (by decide +kernel) rfl ?_
    obtain ⟨T4, e5, h⟩ := Option.bind_eq_some_iff.mp h
    refine pv_e_pms (i := 173) (ci := 6) (j := 9) (pc' := 21) (by decide +kernel) rfl rfl (by decide) rfl rfl e5 rfl ?_
    refine pv_e_bk (ps := [(21, .iload_n 2, 1)]) (t' := (0, 0, 22, [some (.ref 94), some (.int x1), some (.int (T.1 94 9))], [.int (T.1 94 9)], pv_mm s T4)) (by decide +kernel) rfl ?_
    obtain rfl := Option.some.inj h
    cases hr
    exact pv_e_ri (by decide +kernel)
def f150_price (x1 : Int32) (T : pv_T) : Option (Int32 × pv_T) :=
  (f113_in x1 (0:Int32) (99:Int32)).bind fun q2 =>
  if q2 = 0 then
    some ((-1:Int32), T)
  else
    (pv_pm T 94 10 x1).bind fun T4 =>
    some (T.1 94 10, T4)
theorem ee150 {xs : Nat → Int32} {L : Nat} (d : Nat) (x1 : Int32) {s : pv_F} {T : pv_T} {q : Int32 × pv_T}  (h : f150_price x1 T = some q) : pv_Ev xs L (d + 1) 150 (0, 0, 0, [some (.ref 94), some (.int x1), none], [], pv_mm s T) (some (.int q.1), pv_mm s q.2) := by
  generalize hr : ((some (.int q.1), pv_mm s q.2) : Option Value × pv_M) = r
  unfold f150_price at h
  refine pv_e_bk (ps := [(0, .iload_n 1, 1), (1, .iconst 0, 1), (2, .bipush 99, 2)]) (t' := (0, 0, 4, [some (.ref 94), some (.int x1), none], [.int (99:Int32), .int (0:Int32), .int x1], pv_mm s T)) (by decide +kernel) rfl ?_
  obtain ⟨q2, e1, h⟩ := Option.bind_eq_some_iff.mp h
  refine pv_e_csi (d := d + 0) (i := 83) (z := 113) (np := 3) (ml := 3) (As := [.int x1, .int (0:Int32), .int (99:Int32)]) (rs := []) (pc' := 7) (by decide +kernel) rfl rfl rfl (Nat.le_of_ble_eq_true rfl) (Nat.le_of_ble_eq_true rfl) rfl (ee113 (d + 0) x1 (0:Int32) (99:Int32) e1) ?_
  refine pv_e_ifne (off := 5) (b := 12) (pc' := 10) (by decide +kernel) (by decide +kernel) rfl (fun c3 => ?_) (fun c3 => ?_)
  · rw [if_pos c3] at h
    refine pv_e_bk (ps := [(10, .iconst (-1), 1)]) (t' := (0, 0, 11, [some (.ref 94), some (.int x1), none], [.int (-1:Int32)], pv_mm s T)) (by decide +kernel) rfl ?_
    obtain rfl := Option.some.inj h
    cases hr
    exact pv_e_ri (by decide +kernel)
  · rw [if_neg c3] at h
    refine pv_e_bk (ps := [(12, .aload_n 0, 1)]) (t' := (0, 0, 13, [some (.ref 94), some (.int x1), none], [.ref 94], pv_mm s T)) (by decide +kernel) rfl ?_
    refine pv_e_gm (i := 28) (ci := 6) (j := 10) (pc' := 16) (by decide +kernel) (by decide) rfl rfl rfl ?_
    refine pv_e_bk (ps := [(16, .istore_n 2, 1), (17, .aload_n 0, 1), (18, .iload_n 1, 1)]) (t' := (0, 0, 19, [some (.ref 94), some (.int x1), some (.int (T.1 94 10))], [.int x1, .ref 94], pv_mm s T)) (by decide +kernel) rfl ?_
    obtain ⟨T4, e5, h⟩ := Option.bind_eq_some_iff.mp h
    refine pv_e_pms (i := 28) (ci := 6) (j := 10) (pc' := 22) (by decide +kernel) rfl rfl (by decide) rfl rfl e5 rfl ?_
    refine pv_e_bk (ps := [(22, .iload_n 2, 1)]) (t' := (0, 0, 23, [some (.ref 94), some (.int x1), some (.int (T.1 94 10))], [.int (T.1 94 10)], pv_mm s T4)) (by decide +kernel) rfl ?_
    obtain rfl := Option.some.inj h
    cases hr
    exact pv_e_ri (by decide +kernel)
def f153_wornAt_b1 (v1 : Nat) (v2 : Int32) (v3 : Int32) (T : pv_T) (st : Int32) : Option (Int32 ⊕ (Int32 ⊕ Int32)) := match st with
  | v4 =>
    if v3 ≤ v4 then
      some (.inr (.inl v4))
    else
      if (T.1 94 9) = (2:Int32) then
        (pv_rd T.1 v1 (pv_an v1) (v2 + v4)).bind fun q4 =>
        (f134_isVowel q4).bind fun q7 =>
        if q7 = 0 then
          some (.inl (v4 + (1:Int32)))
        else
          some (.inr (.inr v4))
      else
        some (.inr (.inl v4))
def f153_wornAt_b1_H (xs : Nat → Int32) (L d : Nat) (r : Option Value × pv_M) (s : pv_F) (v1 : Nat) (v2 : Int32) (v3 : Int32) (T : pv_T) (st : Int32) : Prop := match st with
  | v4 => pv_Ev xs L (d + 1) 153 (0, 0, 13, [some (.ref 94), some (.ref v1), some (.int v2), some (.int v3), some (.int v4)], [], pv_mm s T) r
def f153_wornAt_b1_X (xs : Nat → Int32) (L d : Nat) (r : Option Value × pv_M) (s : pv_F) (v1 : Nat) (v2 : Int32) (v3 : Int32) (T : pv_T) (st : Int32) : Prop := match st with
  | v4 => ∀ z4 : Option Value, pv_Ev xs L (d + 1) 153 (0, 0, 48, [some (.ref 94), some (.ref v1), some (.int v2), some (.int v3), z4], [], pv_mm s T) r
def f153_wornAt (x1 : Nat) (x2 : Int32) (x3 : Int32) (T : pv_T) : Option (Int32) :=
  if (T.1 94 9) = (1:Int32) then
    some (0:Int32)
  else
    (pv_lp (f153_wornAt_b1 x1 x2 x3 T) 20000 (0:Int32)).bind fun o12 => match o12 with
      | .inl w9 =>
        some (x3 - (1:Int32))
      | .inr q => some q
theorem f153_wornAt_b1_ok {xs : Nat → Int32} {L d : Nat} {r : Option Value × pv_M} {s : pv_F} {v1 : Nat} {v2 : Int32} {v3 : Int32} {T : pv_T} (g1 : v1 ∈ pv_iam) (st : Int32) (o : Int32 ⊕ (Int32 ⊕ Int32)) (h : f153_wornAt_b1 v1 v2 v3 T st = some o) (hK : pv_Kp (f153_wornAt_b1_H xs L d r s v1 v2 v3 T) (f153_wornAt_b1_X xs L d r s v1 v2 v3 T) (fun q => (some (.int q), pv_mm s T) = r) o) : f153_wornAt_b1_H xs L d r s v1 v2 v3 T st := by
  obtain ⟨v4, rfl⟩ : ∃ z, z = st := ⟨st, rfl⟩
  show pv_Ev xs L (d + 1) 153 (0, 0, 13, [some (.ref 94), some (.ref v1), some (.int v2), some (.int v3), some (.int v4)], [], pv_mm s T) r
  unfold f153_wornAt_b1 at h
  dsimp only at h
  refine pv_e_bk (ps := [(13, .iload 4, 2), (15, .iload_n 3, 1)]) (t' := (0, 0, 16, [some (.ref 94), some (.ref v1), some (.int v2), some (.int v3), some (.int v4)], [.int v3, .int v4], pv_mm s T)) (by decide +kernel) rfl ?_
  refine pv_e_icmpge (off := 32) (b := 48) (pc' := 19) (by decide +kernel) (by decide +kernel) rfl (fun c2 => ?_) (fun c2 => ?_)
  · rw [if_pos c2] at h
    obtain rfl := Option.some.inj h
    exact hK _
  · rw [if_neg c2] at h
    refine pv_e_bk (ps := [(19, .aload_n 0, 1)]) (t' := (0, 0, 20, [some (.ref 94), some (.ref v1), some (.int v2), some (.int v3), some (.int v4)], [.ref 94], pv_mm s T)) (by decide +kernel) rfl ?_
    refine pv_e_gm (i := 173) (ci := 6) (j := 9) (pc' := 23) (by decide +kernel) (by decide) rfl rfl rfl ?_
    refine pv_e_bk (ps := [(23, .iconst 2, 1)]) (t' := (0, 0, 24, [some (.ref 94), some (.ref v1), some (.int v2), some (.int v3), some (.int v4)], [.int (2:Int32), .int (T.1 94 9)], pv_mm s T)) (by decide +kernel) rfl ?_
    refine pv_e_icmpne (off := 24) (b := 48) (pc' := 27) (by decide +kernel) (by decide +kernel) rfl (fun c3 => ?_) (fun c3 => ?_)
    · rw [if_pos c3] at h
      refine pv_e_bk (ps := [(27, .aload_n 1, 1), (28, .iload_n 2, 1), (29, .iload 4, 2), (31, .iadd, 1)]) (t' := (0, 0, 32, [some (.ref 94), some (.ref v1), some (.int v2), some (.int v3), some (.int v4)], [.int (v2 + v4), .ref v1], pv_mm s T)) (by decide +kernel) rfl ?_
      obtain ⟨q4, e5, h⟩ := Option.bind_eq_some_iff.mp h
      refine pv_e_rm (pc' := 33) (by decide +kernel) (im g1).2 (im g1).1 e5 rfl ?_
      obtain ⟨q7, e6, h⟩ := Option.bind_eq_some_iff.mp h
      refine pv_e_csi (d := d + 0) (i := 176) (z := 134) (np := 1) (ml := 1) (As := [.int q4]) (rs := []) (pc' := 36) (by decide +kernel) rfl rfl rfl (Nat.le_of_ble_eq_true rfl) (Nat.le_of_ble_eq_true rfl) rfl (ee134 (d + 0) q4 e6) ?_
      refine pv_e_ifeq (off := 6) (b := 42) (pc' := 39) (by decide +kernel) (by decide +kernel) rfl (fun c8 => ?_) (fun c8 => ?_)
      · rw [if_pos c8] at h
        refine pv_e_bk (ps := [(42, .iinc 4 1, 3), (45, .goto (-32), 3)]) (t' := (0, 0, 13, [some (.ref 94), some (.ref v1), some (.int v2), some (.int v3), some (.int (v4 + (1:Int32)))], [], pv_mm s T)) (by decide +kernel) rfl ?_
        obtain rfl := Option.some.inj h
        exact hK
      · rw [if_neg c8] at h
        refine pv_e_bk (ps := [(39, .iload 4, 2)]) (t' := (0, 0, 41, [some (.ref 94), some (.ref v1), some (.int v2), some (.int v3), some (.int v4)], [.int v4], pv_mm s T)) (by decide +kernel) rfl ?_
        obtain rfl := Option.some.inj h
        cases hK
        exact pv_e_ri (by decide +kernel)
    · rw [if_neg c3] at h
      obtain rfl := Option.some.inj h
      exact hK _
theorem ee153 {xs : Nat → Int32} {L : Nat} (d : Nat) (x1 : Nat) (x2 : Int32) (x3 : Int32) {s : pv_F} {T : pv_T} {q : Int32} (g1 : x1 ∈ pv_iam) (h : f153_wornAt x1 x2 x3 T = some q) : pv_Ev xs L (d + 1) 153 (0, 0, 0, [some (.ref 94), some (.ref x1), some (.int x2), some (.int x3), none], [], pv_mm s T) (some (.int q), pv_mm s T) := by
  generalize hr : ((some (.int q), pv_mm s T) : Option Value × pv_M) = r
  unfold f153_wornAt at h
  refine pv_e_bk (ps := [(0, .aload_n 0, 1)]) (t' := (0, 0, 1, [some (.ref 94), some (.ref x1), some (.int x2), some (.int x3), none], [.ref 94], pv_mm s T)) (by decide +kernel) rfl ?_
  refine pv_e_gm (i := 173) (ci := 6) (j := 9) (pc' := 4) (by decide +kernel) (by decide) rfl rfl rfl ?_
  refine pv_e_bk (ps := [(4, .iconst 1, 1)]) (t' := (0, 0, 5, [some (.ref 94), some (.ref x1), some (.int x2), some (.int x3), none], [.int (1:Int32), .int (T.1 94 9)], pv_mm s T)) (by decide +kernel) rfl ?_
  refine pv_e_icmpne (off := 5) (b := 10) (pc' := 8) (by decide +kernel) (by decide +kernel) rfl (fun c1 => ?_) (fun c1 => ?_)
  · rw [if_pos c1] at h
    refine pv_e_bk (ps := [(8, .iconst 0, 1)]) (t' := (0, 0, 9, [some (.ref 94), some (.ref x1), some (.int x2), some (.int x3), none], [.int (0:Int32)], pv_mm s T)) (by decide +kernel) rfl ?_
    obtain rfl := Option.some.inj h
    cases hr
    exact pv_e_ri (by decide +kernel)
  · rw [if_neg c1] at h
    refine pv_e_bk (ps := [(10, .iconst 0, 1), (11, .istore 4, 2)]) (t' := (0, 0, 13, [some (.ref 94), some (.ref x1), some (.int x2), some (.int x3), some (.int (0:Int32))], [], pv_mm s T)) (by decide +kernel) rfl ?_
    obtain ⟨o12, e11, h⟩ := Option.bind_eq_some_iff.mp h
    refine pv_lp_ok (H := f153_wornAt_b1_H xs L d r s x1 x2 x3 T) (X := f153_wornAt_b1_X xs L d r s x1 x2 x3 T) (Z := (fun q => (some (.int q), pv_mm s T) = r)) (f153_wornAt_b1_ok (xs := xs) (L := L) (d := d) (r := r) (s := s) (v1 := x1) (v2 := x2) (v3 := x3) (T := T) g1) 20000 _ _ e11 ?_
    rcases o12 with w9 | q
    · dsimp only at h ⊢
      show ∀ z4 : Option Value, pv_Ev xs L (d + 1) 153 (0, 0, 48, [some (.ref 94), some (.ref x1), some (.int x2), some (.int x3), z4], [], pv_mm s T) r
      intro z4
      refine pv_e_bk (ps := [(48, .iload_n 3, 1), (49, .iconst 1, 1), (50, .isub, 1)]) (t' := (0, 0, 51, [some (.ref 94), some (.ref x1), some (.int x2), some (.int x3), z4], [.int (x3 - (1:Int32))], pv_mm s T)) (by decide +kernel) rfl ?_
      obtain rfl := Option.some.inj h
      cases hr
      exact pv_e_ri (by decide +kernel)
    · dsimp only at h ⊢
      obtain rfl := Option.some.inj h
      exact hr
