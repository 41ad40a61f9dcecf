-- printed by wip/whole/gen/parts.py: methods as functions over the ints of the memory, and that the pure machine runs so
def f175_living_b1 (T : pv_T) (st : Int32 × Int32) : Option ((Int32 × Int32) ⊕ (Int32 × Int32)) := match st with
  | (v1, v2) =>
    if (T.1 94 8) ≤ v2 then
      some (.inr (v1, v2))
    else
      (pv_rd T.1 101 7 v2).bind fun q2 =>
      ((
        if q2 = (3:Int32) then
          some (0:Int32)
        else
          some (1:Int32)) : Option (Int32)).bind fun t4 =>
      some (.inl (v1 + t4, v2 + (1:Int32)))
def f175_living_b1_H (xs : Nat → Int32) (L d : Nat) (r : Option Value × pv_M) (s : pv_F) (T : pv_T) (st : Int32 × Int32) : Prop := match st with
  | (v1, v2) => pv_Ev xs L (d + 0) 175 (0, 0, 4, [some (.ref 94), some (.int v1), some (.int v2)], [], pv_mm s T) r
def f175_living_b1_X (xs : Nat → Int32) (L d : Nat) (r : Option Value × pv_M) (s : pv_F) (T : pv_T) (st : Int32 × Int32) : Prop := match st with
  | (v1, v2) => ∀ z2 : Option Value, pv_Ev xs L (d + 0) 175 (0, 0, 36, [some (.ref 94), some (.int v1), z2], [], pv_mm s T) r
def f175_living (T : pv_T) : Option (Int32) :=
  (pv_lq (f175_living_b1 T) 20000 ((0:Int32), (0:Int32))).bind fun (w8, w9) =>
  some w8
theorem f175_living_b1_ok {xs : Nat → Int32} {L d : Nat} {r : Option Value × pv_M} {s : pv_F} {T : pv_T} (st : Int32 × Int32) (o : (Int32 × Int32) ⊕ (Int32 × Int32)) (h : f175_living_b1 T st = some o) (hK : pv_Kq (f175_living_b1_H xs L d r s T) (f175_living_b1_X xs L d r s T) o) : f175_living_b1_H xs L d r s T st := by
  obtain ⟨v1, v2⟩ := st
  show pv_Ev xs L (d + 0) 175 (0, 0, 4, [some (.ref 94), some (.int v1), some (.int v2)], [], pv_mm s T) r
  unfold f175_living_b1 at h
  dsimp only at h
  refine pv_e_bk (ps := [(4, .iload_n 2, 1), (5, .aload_n 0, 1)]) (t' := (0, 0, 6, [some (.ref 94), some (.int v1), some (.int v2)], [.ref 94, .int v2], pv_mm s T)) (by decide +kernel) rfl ?_
  refine pv_e_gm (i := 136) (ci := 6) (j := 8) (pc' := 9) (by decide +kernel) (by decide) rfl rfl rfl ?_
  refine pv_e_icmpge (off := 27) (b := 36) (pc' := 12) (by decide +kernel) (by decide +kernel) rfl (fun c1 => ?_) (fun c1 => ?_)
  · rw [if_pos c1] at h
    obtain rfl := Option.some.inj h
    exact hK _
  · rw [if_neg c1] at h
    refine pv_e_bk (ps := [(12, .iload_n 1, 1), (13, .aload_n 0, 1)]) (t' := (0, 0, 14, [some (.ref 94), some (.int v1), some (.int v2)], [.ref 94, .int v1], pv_mm s T)) (by decide +kernel) rfl ?_
    refine pv_e_gr (i := 32) (ci := 6) (j := 11) (b := 101) (pc' := 17) (by decide +kernel) rfl rfl rfl ?_
    refine pv_e_bk (ps := [(17, .iload_n 2, 1)]) (t' := (0, 0, 18, [some (.ref 94), some (.int v1), some (.int v2)], [.int v2, .ref 101, .int v1], pv_mm s T)) (by decide +kernel) rfl ?_
    obtain ⟨q2, e3, h⟩ := Option.bind_eq_some_iff.mp h
    refine pv_e_rm (pc' := 19) (by decide +kernel) (by decide) rfl e3 rfl ?_
    refine pv_e_bk (ps := [(19, .iconst 3, 1)]) (t' := (0, 0, 20, [some (.ref 94), some (.int v1), some (.int v2)], [.int (3:Int32), .int q2, .int v1], pv_mm s T)) (by decide +kernel) rfl ?_
    obtain ⟨t4, hv5, h⟩ := Option.bind_eq_some_iff.mp h
    have hJ6 : pv_Ev xs L (d + 0) 175 (0, 0, 28, [some (.ref 94), some (.int v1), some (.int v2)], [.int t4, .int v1], pv_mm s T) r := by
      refine pv_e_bk (ps := [(28, .iadd, 1), (29, .istore_n 1, 1), (30, .iinc 2 1, 3), (33, .goto (-29), 3)]) (t' := (0, 0, 4, [some (.ref 94), some (.int (v1 + t4)), some (.int (v2 + (1:Int32)))], [], pv_mm s T)) (by decide +kernel) rfl ?_
      obtain rfl := Option.some.inj h
      exact hK
    clear h
    have h := hv5
    clear hv5
    refine pv_e_icmpne (off := 7) (b := 27) (pc' := 23) (by decide +kernel) (by decide +kernel) rfl (fun c7 => ?_) (fun c7 => ?_)
    · rw [if_pos c7] at h
      refine pv_e_bk (ps := [(23, .iconst 0, 1), (24, .goto 4, 3)]) (t' := (0, 0, 28, [some (.ref 94), some (.int v1), some (.int v2)], [.int (0:Int32), .int v1], pv_mm s T)) (by decide +kernel) rfl ?_
      obtain rfl := Option.some.inj h
      exact hJ6
    · rw [if_neg c7] at h
      refine pv_e_bk (ps := [(27, .iconst 1, 1)]) (t' := (0, 0, 28, [some (.ref 94), some (.int v1), some (.int v2)], [.int (1:Int32), .int v1], pv_mm s T)) (by decide +kernel) rfl ?_
      obtain rfl := Option.some.inj h
      exact hJ6
theorem ee175 {xs : Nat → Int32} {L : Nat} (d : Nat)  {s : pv_F} {T : pv_T} {q : Int32}  (h : f175_living T = some q) : pv_Ev xs L (d + 0) 175 (0, 0, 0, [some (.ref 94), none, none], [], pv_mm s T) (some (.int q), pv_mm s T) := by
  generalize hr : ((some (.int q), pv_mm s T) : Option Value × pv_M) = r
  unfold f175_living at h
  refine pv_e_bk (ps := [(0, .iconst 0, 1), (1, .istore_n 1, 1), (2, .iconst 0, 1), (3, .istore_n 2, 1)]) (t' := (0, 0, 4, [some (.ref 94), some (.int (0:Int32)), some (.int (0:Int32))], [], pv_mm s T)) (by decide +kernel) rfl ?_
  obtain ⟨⟨w8, w9⟩, e11, h⟩ := Option.bind_eq_some_iff.mp h
  dsimp only at h
  have hx10 : f175_living_b1_X xs L d r s T (w8, w9) := by
    show ∀ z2 : Option Value, pv_Ev xs L (d + 0) 175 (0, 0, 36, [some (.ref 94), some (.int w8), z2], [], pv_mm s T) r
    intro z2
    refine pv_e_bk (ps := [(36, .iload_n 1, 1)]) (t' := (0, 0, 37, [some (.ref 94), some (.int w8), z2], [.int w8], pv_mm s T)) (by decide +kernel) rfl ?_
    obtain rfl := Option.some.inj h
    cases hr
    exact pv_e_ri (by decide +kernel)
  exact pv_lq_ok (H := f175_living_b1_H xs L d r s T) (X := f175_living_b1_X xs L d r s T) (f175_living_b1_ok (xs := xs) (L := L) (d := d) (r := r) (s := s) (T := T)) 20000 _ _ e11 hx10
def f176_first_b1 (st : Int32 × Int32 × pv_T) : Option ((Int32 × Int32 × pv_T) ⊕ (Int32 × Int32 × pv_T)) := match st with
  | (v1, v2, T) =>
    if (12:Int32) < v2 then
      some (.inr (v1, v2, T))
    else
      if v1 = (-9:Int32) then
        (f173_unlikeNow T).bind fun (q6, T7) =>
        (f175_living T7).bind fun q9 =>
        ((
          if q9 ≤ (q6 + (T7.1 94 24)) then
            some (-9:Int32)
          else
            some v2) : Option (Int32)).bind fun t10 =>
        (f172_comeAll T7).bind fun T12 =>
        some (.inl (t10, v2 + (1:Int32), T12))
      else
        some (.inr (v1, v2, T))
def f176_first_b1_H (xs : Nat → Int32) (L d : Nat) (r : Option Value × pv_M) (s : pv_F) (st : Int32 × Int32 × pv_T) : Prop := match st with
  | (v1, v2, T) => ∀ z3 : Option Value, pv_Ev xs L (d + 5) 176 (0, 0, 9, [some (.ref 94), some (.int v1), some (.int v2), z3], [], pv_mm s T) r
def f176_first_b1_X (xs : Nat → Int32) (L d : Nat) (r : Option Value × pv_M) (s : pv_F) (st : Int32 × Int32 × pv_T) : Prop := match st with
  | (v1, v2, T) => ∀ z2 : Option Value, ∀ z3 : Option Value, pv_Ev xs L (d + 5) 176 (0, 0, 56, [some (.ref 94), some (.int v1), z2, z3], [], pv_mm s T) r
def f176_first (T : pv_T) : Option (Int32 × pv_T) :=
  (f168_putAside T).bind fun T2 =>
  (pv_lq (f176_first_b1) 20000 ((-9:Int32), (0:Int32), T2)).bind fun (w16, w17, T18) =>
  (f169_comeBack T18).bind fun T20 =>
  some (w16, T20)
theorem f176_first_b1_ok {xs : Nat → Int32} {L d : Nat} {r : Option Value × pv_M} {s : pv_F} (st : Int32 × Int32 × pv_T) (o : (Int32 × Int32 × pv_T) ⊕ (Int32 × Int32 × pv_T)) (h : f176_first_b1 st = some o) (hK : pv_Kq (f176_first_b1_H xs L d r s ) (f176_first_b1_X xs L d r s ) o) : f176_first_b1_H xs L d r s  st := by
  obtain ⟨v1, v2, T⟩ := st
  show ∀ z3 : Option Value, pv_Ev xs L (d + 5) 176 (0, 0, 9, [some (.ref 94), some (.int v1), some (.int v2), z3], [], pv_mm s T) r
  intro z3
  unfold f176_first_b1 at h
  dsimp only at h
  refine pv_e_bk (ps := [(9, .iload_n 2, 1), (10, .bipush 12, 2)]) (t' := (0, 0, 12, [some (.ref 94), some (.int v1), some (.int v2), z3], [.int (12:Int32), .int v2], pv_mm s T)) (by decide +kernel) rfl ?_
  refine pv_e_icmpgt (off := 44) (b := 56) (pc' := 15) (by decide +kernel) (by decide +kernel) rfl (fun c3 => ?_) (fun c3 => ?_)
  · rw [if_pos c3] at h
    obtain rfl := Option.some.inj h
    exact hK _ _
  · rw [if_neg c3] at h
    refine pv_e_bk (ps := [(15, .iload_n 1, 1), (16, .bipush (-9), 2)]) (t' := (0, 0, 18, [some (.ref 94), some (.int v1), some (.int v2), z3], [.int (-9:Int32), .int v1], pv_mm s T)) (by decide +kernel) rfl ?_
    refine pv_e_icmpne (off := 38) (b := 56) (pc' := 21) (by decide +kernel) (by decide +kernel) rfl (fun c4 => ?_) (fun c4 => ?_)
    · rw [if_pos c4] at h
      refine pv_e_bk (ps := [(21, .aload_n 0, 1)]) (t' := (0, 0, 22, [some (.ref 94), some (.int v1), some (.int v2), z3], [.ref 94], pv_mm s T)) (by decide +kernel) rfl ?_
      obtain ⟨⟨q6, T7⟩, e5, h⟩ := Option.bind_eq_some_iff.mp h
      dsimp only at h
      refine pv_e_cvi (d := d + 4) (i := 218) (z := 173) (np := 0) (ml := 6) (ci := 6) (As := []) (rs := []) (pc' := 25) (by decide +kernel) rfl rfl rfl rfl (Nat.le_of_ble_eq_true rfl) (Nat.le_of_ble_eq_true rfl) rfl (ee173 (d + 2) e5) ?_
      refine pv_e_bk (ps := [(25, .istore_n 3, 1), (26, .iload_n 3, 1), (27, .aload_n 0, 1)]) (t' := (0, 0, 28, [some (.ref 94), some (.int v1), some (.int v2), some (.int q6)], [.ref 94, .int q6], pv_mm s T7)) (by decide +kernel) rfl ?_
      refine pv_e_gm (i := 212) (ci := 6) (j := 24) (pc' := 31) (by decide +kernel) (by decide) rfl rfl rfl ?_
      refine pv_e_bk (ps := [(31, .iadd, 1), (32, .aload_n 0, 1)]) (t' := (0, 0, 33, [some (.ref 94), some (.int v1), some (.int v2), some (.int q6)], [.ref 94, .int (q6 + (T7.1 94 24))], pv_mm s T7)) (by decide +kernel) rfl ?_
      obtain ⟨q9, e8, h⟩ := Option.bind_eq_some_iff.mp h
      refine pv_e_cvi (d := d + 4) (i := 222) (z := 175) (np := 0) (ml := 3) (ci := 6) (As := []) (rs := [.int (q6 + (T7.1 94 24))]) (pc' := 36) (by decide +kernel) rfl rfl rfl rfl (Nat.le_of_ble_eq_true rfl) (Nat.le_of_ble_eq_true rfl) rfl (ee175 (d + 4) e8) ?_
      obtain ⟨t10, hv13, h⟩ := Option.bind_eq_some_iff.mp h
      have hJ14 : pv_Ev xs L (d + 5) 176 (0, 0, 45, [some (.ref 94), some (.int v1), some (.int v2), some (.int q6)], [.int t10], pv_mm s T7) r := by
        refine pv_e_bk (ps := [(45, .istore_n 1, 1), (46, .aload_n 0, 1)]) (t' := (0, 0, 47, [some (.ref 94), some (.int t10), some (.int v2), some (.int q6)], [.ref 94], pv_mm s T7)) (by decide +kernel) rfl ?_
        obtain ⟨T12, e11, h⟩ := Option.bind_eq_some_iff.mp h
        refine pv_e_cvv (d := d + 4) (i := 215) (z := 172) (np := 0) (ml := 2) (ci := 6) (As := []) (rs := []) (pc' := 50) (by decide +kernel) rfl rfl rfl rfl (Nat.le_of_ble_eq_true rfl) (Nat.le_of_ble_eq_true rfl) rfl (ee172 (d + 0) e11) ?_
        refine pv_e_bk (ps := [(50, .iinc 2 1, 3), (53, .goto (-44), 3)]) (t' := (0, 0, 9, [some (.ref 94), some (.int t10), some (.int (v2 + (1:Int32))), some (.int q6)], [], pv_mm s T12)) (by decide +kernel) rfl ?_
        obtain rfl := Option.some.inj h
        exact hK _
      clear h
      have h := hv13
      clear hv13
      refine pv_e_icmpge (off := 7) (b := 43) (pc' := 39) (by decide +kernel) (by decide +kernel) rfl (fun c15 => ?_) (fun c15 => ?_)
      · rw [if_pos c15] at h
        refine pv_e_bk (ps := [(43, .bipush (-9), 2)]) (t' := (0, 0, 45, [some (.ref 94), some (.int v1), some (.int v2), some (.int q6)], [.int (-9:Int32)], pv_mm s T7)) (by decide +kernel) rfl ?_
        obtain rfl := Option.some.inj h
        exact hJ14
      · rw [if_neg c15] at h
        refine pv_e_bk (ps := [(39, .iload_n 2, 1), (40, .goto 5, 3)]) (t' := (0, 0, 45, [some (.ref 94), some (.int v1), some (.int v2), some (.int q6)], [.int v2], pv_mm s T7)) (by decide +kernel) rfl ?_
        obtain rfl := Option.some.inj h
        exact hJ14
    · rw [if_neg c4] at h
      obtain rfl := Option.some.inj h
      exact hK _ _
theorem ee176 {xs : Nat → Int32} {L : Nat} (d : Nat)  {s : pv_F} {T : pv_T} {q : Int32 × pv_T}  (h : f176_first T = some q) : pv_Ev xs L (d + 5) 176 (0, 0, 0, [some (.ref 94), none, none, none], [], pv_mm s T) (some (.int q.1), pv_mm s q.2) := by
  generalize hr : ((some (.int q.1), pv_mm s q.2) : Option Value × pv_M) = r
  unfold f176_first at h
  refine pv_e_bk (ps := [(0, .aload_n 0, 1)]) (t' := (0, 0, 1, [some (.ref 94), none, none, none], [.ref 94], pv_mm s T)) (by decide +kernel) rfl ?_
  obtain ⟨T2, e1, h⟩ := Option.bind_eq_some_iff.mp h
  refine pv_e_cvv (d := d + 4) (i := 206) (z := 168) (np := 0) (ml := 1) (ci := 6) (As := []) (rs := []) (pc' := 4) (by decide +kernel) rfl rfl rfl rfl (Nat.le_of_ble_eq_true rfl) (Nat.le_of_ble_eq_true rfl) rfl (ee168 (d + 3) e1) ?_
  refine pv_e_bk (ps := [(4, .bipush (-9), 2), (6, .istore_n 1, 1), (7, .iconst 0, 1), (8, .istore_n 2, 1)]) (t' := (0, 0, 9, [some (.ref 94), some (.int (-9:Int32)), some (.int (0:Int32)), none], [], pv_mm s T2)) (by decide +kernel) rfl ?_
  obtain ⟨⟨w16, w17, T18⟩, e22, h⟩ := Option.bind_eq_some_iff.mp h
  dsimp only at h
  have hx21 : f176_first_b1_X xs L d r s (w16, w17, T18) := by
    show ∀ z2 : Option Value, ∀ z3 : Option Value, pv_Ev xs L (d + 5) 176 (0, 0, 56, [some (.ref 94), some (.int w16), z2, z3], [], pv_mm s T18) r
    intro z2 z3
    refine pv_e_bk (ps := [(56, .aload_n 0, 1)]) (t' := (0, 0, 57, [some (.ref 94), some (.int w16), z2, z3], [.ref 94], pv_mm s T18)) (by decide +kernel) rfl ?_
    obtain ⟨T20, e19, h⟩ := Option.bind_eq_some_iff.mp h
    refine pv_e_cvv (d := d + 4) (i := 209) (z := 169) (np := 0) (ml := 1) (ci := 6) (As := []) (rs := []) (pc' := 60) (by decide +kernel) rfl rfl rfl rfl (Nat.le_of_ble_eq_true rfl) (Nat.le_of_ble_eq_true rfl) rfl (ee169 (d + 3) e19) ?_
    refine pv_e_bk (ps := [(60, .iload_n 1, 1)]) (t' := (0, 0, 61, [some (.ref 94), some (.int w16), z2, z3], [.int w16], pv_mm s T20)) (by decide +kernel) rfl ?_
    obtain rfl := Option.some.inj h
    cases hr
    exact pv_e_ri (by decide +kernel)
  exact pv_lq_ok (H := f176_first_b1_H xs L d r s) (X := f176_first_b1_X xs L d r s) (f176_first_b1_ok (xs := xs) (L := L) (d := d) (r := r) (s := s)) 20000 _ _ e22 hx21 _
def f177_haveOne_b2 (v1 : Int32) (v2 : Int32) (v3 : Int32) (T : pv_T) (st : Int32 × Int32) : Option ((Int32 × Int32) ⊕ (Int32 × Int32)) := match st with
  | (v4, v5) =>
    if (T.1 94 26) ≤ v5 then
      some (.inr (v4, v5))
    else
      ((
        if v4 = 0 then
          some (0:Int32)
        else
          (f143_letterOf v3 v5 T).bind fun q9 =>
          (pv_rd T.1 111 6 v5).bind fun q10 =>
          if q9 = q10 then
            some (1:Int32)
          else
            some (0:Int32)) : Option (Int32)).bind fun t4 =>
      some (.inl (t4, v5 + (1:Int32)))
def f177_haveOne_b2_H (xs : Nat → Int32) (L d : Nat) (r : Option Value × pv_M) (s : pv_F) (v1 : Int32) (v2 : Int32) (v3 : Int32) (T : pv_T) (st : Int32 × Int32) : Prop := match st with
  | (v4, v5) => pv_Ev xs L (d + 1) 177 (0, 0, 49, [some (.ref 94), some (.int v1), some (.int v2), some (.int v3), some (.int v4), some (.int v5)], [], pv_mm s T) r
def f177_haveOne_b2_X (xs : Nat → Int32) (L d : Nat) (r : Option Value × pv_M) (s : pv_F) (v1 : Int32) (v2 : Int32) (v3 : Int32) (T : pv_T) (st : Int32 × Int32) : Prop := match st with
  | (v4, v5) => ∀ z5 : Option Value, pv_Ev xs L (d + 1) 177 (0, 0, 93, [some (.ref 94), some (.int v1), some (.int v2), some (.int v3), some (.int v4), z5], [], pv_mm s T) r
def f177_haveOne_b1 (v1 : Int32) (T : pv_T) (st : Int32 × Int32) : Option ((Int32 × Int32) ⊕ (Int32 × Int32)) := match st with
  | (v2, v3) =>
    if (T.1 94 8) ≤ v3 then
      some (.inr (v2, v3))
    else
      ((
        if v3 = v1 then
          some (0:Int32)
        else
          (pv_rd T.1 101 7 v3).bind fun q24 =>
          if q24 = (3:Int32) then
            some (0:Int32)
          else
            (f142_lenOf v3 T).bind fun q28 =>
            if q28 = (T.1 94 26) then
              some (1:Int32)
            else
              some (0:Int32)) : Option (Int32)).bind fun t2 =>
      (pv_lq (f177_haveOne_b2 v1 v2 v3 T) 20000 (t2, (0:Int32))).bind fun (w13, w14) =>
      ((
        if w13 = 0 then
          some (0:Int32)
        else
          some ((1:Int32) <<< (v3 &&& 31))) : Option (Int32)).bind fun t15 =>
      some (.inl (v2 ||| t15, v3 + (1:Int32)))
def f177_haveOne_b1_H (xs : Nat → Int32) (L d : Nat) (r : Option Value × pv_M) (s : pv_F) (v1 : Int32) (T : pv_T) (st : Int32 × Int32) : Prop := match st with
  | (v2, v3) => ∀ z4 : Option Value, ∀ z5 : Option Value, pv_Ev xs L (d + 1) 177 (0, 0, 4, [some (.ref 94), some (.int v1), some (.int v2), some (.int v3), z4, z5], [], pv_mm s T) r
def f177_haveOne_b1_X (xs : Nat → Int32) (L d : Nat) (r : Option Value × pv_M) (s : pv_F) (v1 : Int32) (T : pv_T) (st : Int32 × Int32) : Prop := match st with
  | (v2, v3) => ∀ z3 : Option Value, ∀ z4 : Option Value, ∀ z5 : Option Value, pv_Ev xs L (d + 1) 177 (0, 0, 114, [some (.ref 94), some (.int v1), some (.int v2), z3, z4, z5], [], pv_mm s T) r
def f177_haveOne (x1 : Int32) (T : pv_T) : Option (Int32) :=
  (pv_lq (f177_haveOne_b1 x1 T) 20000 ((0:Int32), (0:Int32))).bind fun (w30, w31) =>
  some w30
theorem f177_haveOne_b2_ok {xs : Nat → Int32} {L d : Nat} {r : Option Value × pv_M} {s : pv_F} {v1 : Int32} {v2 : Int32} {v3 : Int32} {T : pv_T} (st : Int32 × Int32) (o : (Int32 × Int32) ⊕ (Int32 × Int32)) (h : f177_haveOne_b2 v1 v2 v3 T st = some o) (hK : pv_Kq (f177_haveOne_b2_H xs L d r s v1 v2 v3 T) (f177_haveOne_b2_X xs L d r s v1 v2 v3 T) o) : f177_haveOne_b2_H xs L d r s v1 v2 v3 T st := by
  obtain ⟨v4, v5⟩ := st
  show pv_Ev xs L (d + 1) 177 (0, 0, 49, [some (.ref 94), some (.int v1), some (.int v2), some (.int v3), some (.int v4), some (.int v5)], [], pv_mm s T) r
  unfold f177_haveOne_b2 at h
  dsimp only at h
  refine pv_e_bk (ps := [(49, .iload 5, 2), (51, .aload_n 0, 1)]) (t' := (0, 0, 52, [some (.ref 94), some (.int v1), some (.int v2), some (.int v3), some (.int v4), some (.int v5)], [.ref 94, .int v5], pv_mm s T)) (by decide +kernel) rfl ?_
  refine pv_e_gm (i := 225) (ci := 6) (j := 26) (pc' := 55) (by decide +kernel) (by decide) rfl rfl rfl ?_
  refine pv_e_icmpge (off := 38) (b := 93) (pc' := 58) (by decide +kernel) (by decide +kernel) rfl (fun c3 => ?_) (fun c3 => ?_)
  · rw [if_pos c3] at h
    obtain rfl := Option.some.inj h
    exact hK _
  · rw [if_neg c3] at h
    refine pv_e_bk (ps := [(58, .iload 4, 2)]) (t' := (0, 0, 60, [some (.ref 94), some (.int v1), some (.int v2), some (.int v3), some (.int v4), some (.int v5)], [.int v4], pv_mm s T)) (by decide +kernel) rfl ?_
    obtain ⟨t4, hv5, h⟩ := Option.bind_eq_some_iff.mp h
    have hJ6 : pv_Ev xs L (d + 1) 177 (0, 0, 85, [some (.ref 94), some (.int v1), some (.int v2), some (.int v3), some (.int v4), some (.int v5)], [.int t4], pv_mm s T) r := by
      refine pv_e_bk (ps := [(85, .istore 4, 2), (87, .iinc 5 1, 3), (90, .goto (-41), 3)]) (t' := (0, 0, 49, [some (.ref 94), some (.int v1), some (.int v2), some (.int v3), some (.int t4), some (.int (v5 + (1:Int32)))], [], pv_mm s T)) (by decide +kernel) rfl ?_
      obtain rfl := Option.some.inj h
      exact hK
    clear h
    have h := hv5
    clear hv5
    refine pv_e_ifeq (off := 24) (b := 84) (pc' := 63) (by decide +kernel) (by decide +kernel) rfl (fun c7 => ?_) (fun c7 => ?_)
    · rw [if_pos c7] at h
      refine pv_e_bk (ps := [(84, .iconst 0, 1)]) (t' := (0, 0, 85, [some (.ref 94), some (.int v1), some (.int v2), some (.int v3), some (.int v4), some (.int v5)], [.int (0:Int32)], pv_mm s T)) (by decide +kernel) rfl ?_
      obtain rfl := Option.some.inj h
      exact hJ6
    · rw [if_neg c7] at h
      refine pv_e_bk (ps := [(63, .aload_n 0, 1), (64, .iload_n 3, 1), (65, .iload 5, 2)]) (t' := (0, 0, 67, [some (.ref 94), some (.int v1), some (.int v2), some (.int v3), some (.int v4), some (.int v5)], [.int v5, .int v3, .ref 94], pv_mm s T)) (by decide +kernel) rfl ?_
      obtain ⟨q9, e8, h⟩ := Option.bind_eq_some_iff.mp h
      refine pv_e_cvi (d := d + 0) (i := 145) (z := 143) (np := 2) (ml := 3) (ci := 6) (As := [.int v3, .int v5]) (rs := []) (pc' := 70) (by decide +kernel) rfl rfl rfl rfl (Nat.le_of_ble_eq_true rfl) (Nat.le_of_ble_eq_true rfl) rfl (ee143 (d + 0) v3 v5 e8) ?_
      refine pv_e_bk (ps := [(70, .aload_n 0, 1)]) (t' := (0, 0, 71, [some (.ref 94), some (.int v1), some (.int v2), some (.int v3), some (.int v4), some (.int v5)], [.ref 94, .int q9], pv_mm s T)) (by decide +kernel) rfl ?_
      refine pv_e_gr (i := 62) (ci := 6) (j := 25) (b := 111) (pc' := 74) (by decide +kernel) rfl rfl rfl ?_
      refine pv_e_bk (ps := [(74, .iload 5, 2)]) (t' := (0, 0, 76, [some (.ref 94), some (.int v1), some (.int v2), some (.int v3), some (.int v4), some (.int v5)], [.int v5, .ref 111, .int q9], pv_mm s T)) (by decide +kernel) rfl ?_
      obtain ⟨q10, e11, h⟩ := Option.bind_eq_some_iff.mp h
      refine pv_e_rm (pc' := 77) (by decide +kernel) (by decide) rfl e11 rfl ?_
      refine pv_e_icmpne (off := 7) (b := 84) (pc' := 80) (by decide +kernel) (by decide +kernel) rfl (fun c12 => ?_) (fun c12 => ?_)
      · rw [if_pos c12] at h
        refine pv_e_bk (ps := [(80, .iconst 1, 1), (81, .goto 4, 3)]) (t' := (0, 0, 85, [some (.ref 94), some (.int v1), some (.int v2), some (.int v3), some (.int v4), some (.int v5)], [.int (1:Int32)], pv_mm s T)) (by decide +kernel) rfl ?_
        obtain rfl := Option.some.inj h
        exact hJ6
      · rw [if_neg c12] at h
        refine pv_e_bk (ps := [(84, .iconst 0, 1)]) (t' := (0, 0, 85, [some (.ref 94), some (.int v1), some (.int v2), some (.int v3), some (.int v4), some (.int v5)], [.int (0:Int32)], pv_mm s T)) (by decide +kernel) rfl ?_
        obtain rfl := Option.some.inj h
        exact hJ6
theorem f177_haveOne_b1_ok {xs : Nat → Int32} {L d : Nat} {r : Option Value × pv_M} {s : pv_F} {v1 : Int32} {T : pv_T} (st : Int32 × Int32) (o : (Int32 × Int32) ⊕ (Int32 × Int32)) (h : f177_haveOne_b1 v1 T st = some o) (hK : pv_Kq (f177_haveOne_b1_H xs L d r s v1 T) (f177_haveOne_b1_X xs L d r s v1 T) o) : f177_haveOne_b1_H xs L d r s v1 T st := by
  obtain ⟨v2, v3⟩ := st
  show ∀ z4 : Option Value, ∀ z5 : Option Value, pv_Ev xs L (d + 1) 177 (0, 0, 4, [some (.ref 94), some (.int v1), some (.int v2), some (.int v3), z4, z5], [], pv_mm s T) r
  intro z4 z5
  unfold f177_haveOne_b1 at h
  dsimp only at h
  refine pv_e_bk (ps := [(4, .iload_n 3, 1), (5, .aload_n 0, 1)]) (t' := (0, 0, 6, [some (.ref 94), some (.int v1), some (.int v2), some (.int v3), z4, z5], [.ref 94, .int v3], pv_mm s T)) (by decide +kernel) rfl ?_
  refine pv_e_gm (i := 136) (ci := 6) (j := 8) (pc' := 9) (by decide +kernel) (by decide) rfl rfl rfl ?_
  refine pv_e_icmpge (off := 105) (b := 114) (pc' := 12) (by decide +kernel) (by decide +kernel) rfl (fun c1 => ?_) (fun c1 => ?_)
  · rw [if_pos c1] at h
    obtain rfl := Option.some.inj h
    exact hK _ _ _
  · rw [if_neg c1] at h
    refine pv_e_bk (ps := [(12, .iload_n 3, 1), (13, .iload_n 1, 1)]) (t' := (0, 0, 14, [some (.ref 94), some (.int v1), some (.int v2), some (.int v3), z4, z5], [.int v1, .int v3], pv_mm s T)) (by decide +kernel) rfl ?_
    obtain ⟨t2, hv21, h⟩ := Option.bind_eq_some_iff.mp h
    have hJ22 : pv_Ev xs L (d + 1) 177 (0, 0, 44, [some (.ref 94), some (.int v1), some (.int v2), some (.int v3), z4, z5], [.int t2], pv_mm s T) r := by
      refine pv_e_bk (ps := [(44, .istore 4, 2), (46, .iconst 0, 1), (47, .istore 5, 2)]) (t' := (0, 0, 49, [some (.ref 94), some (.int v1), some (.int v2), some (.int v3), some (.int t2), some (.int (0:Int32))], [], pv_mm s T)) (by decide +kernel) rfl ?_
      obtain ⟨⟨w13, w14⟩, e20, h⟩ := Option.bind_eq_some_iff.mp h
      dsimp only at h
      have hx19 : f177_haveOne_b2_X xs L d r s v1 v2 v3 T (w13, w14) := by
        show ∀ z5 : Option Value, pv_Ev xs L (d + 1) 177 (0, 0, 93, [some (.ref 94), some (.int v1), some (.int v2), some (.int v3), some (.int w13), z5], [], pv_mm s T) r
        intro z5
        refine pv_e_bk (ps := [(93, .iload_n 2, 1), (94, .iload 4, 2)]) (t' := (0, 0, 96, [some (.ref 94), some (.int v1), some (.int v2), some (.int v3), some (.int w13), z5], [.int w13, .int v2], pv_mm s T)) (by decide +kernel) rfl ?_
        obtain ⟨t15, hv16, h⟩ := Option.bind_eq_some_iff.mp h
        have hJ17 : pv_Ev xs L (d + 1) 177 (0, 0, 106, [some (.ref 94), some (.int v1), some (.int v2), some (.int v3), some (.int w13), z5], [.int t15, .int v2], pv_mm s T) r := by
          refine pv_e_bk (ps := [(106, .ior, 1), (107, .istore_n 2, 1), (108, .iinc 3 1, 3), (111, .goto (-107), 3)]) (t' := (0, 0, 4, [some (.ref 94), some (.int v1), some (.int (v2 ||| t15)), some (.int (v3 + (1:Int32))), some (.int w13), z5], [], pv_mm s T)) (by decide +kernel) rfl ?_
          obtain rfl := Option.some.inj h
          exact hK _ _
        clear h
        have h := hv16
        clear hv16
        refine pv_e_ifeq (off := 9) (b := 105) (pc' := 99) (by decide +kernel) (by decide +kernel) rfl (fun c18 => ?_) (fun c18 => ?_)
        · rw [if_pos c18] at h
          refine pv_e_bk (ps := [(105, .iconst 0, 1)]) (t' := (0, 0, 106, [some (.ref 94), some (.int v1), some (.int v2), some (.int v3), some (.int w13), z5], [.int (0:Int32), .int v2], pv_mm s T)) (by decide +kernel) rfl ?_
          obtain rfl := Option.some.inj h
          exact hJ17
        · rw [if_neg c18] at h
          refine pv_e_bk (ps := [(99, .iconst 1, 1), (100, .iload_n 3, 1), (101, .ishl, 1), (102, .goto 4, 3)]) (t' := (0, 0, 106, [some (.ref 94), some (.int v1), some (.int v2), some (.int v3), some (.int w13), z5], [.int ((1:Int32) <<< (v3 &&& 31)), .int v2], pv_mm s T)) (by decide +kernel) rfl ?_
          obtain rfl := Option.some.inj h
          exact hJ17
      exact pv_lq_ok (H := f177_haveOne_b2_H xs L d r s v1 v2 v3 T) (X := f177_haveOne_b2_X xs L d r s v1 v2 v3 T) (f177_haveOne_b2_ok (xs := xs) (L := L) (d := d) (r := r) (s := s) (v1 := v1) (v2 := v2) (v3 := v3) (T := T)) 20000 _ _ e20 hx19
    clear h
    have h := hv21
    clear hv21
    refine pv_e_icmpeq (off := 29) (b := 43) (pc' := 17) (by decide +kernel) (by decide +kernel) rfl (fun c23 => ?_) (fun c23 => ?_)
    · rw [if_pos c23] at h
      refine pv_e_bk (ps := [(43, .iconst 0, 1)]) (t' := (0, 0, 44, [some (.ref 94), some (.int v1), some (.int v2), some (.int v3), z4, z5], [.int (0:Int32)], pv_mm s T)) (by decide +kernel) rfl ?_
      obtain rfl := Option.some.inj h
      exact hJ22
    · rw [if_neg c23] at h
      refine pv_e_bk (ps := [(17, .aload_n 0, 1)]) (t' := (0, 0, 18, [some (.ref 94), some (.int v1), some (.int v2), some (.int v3), z4, z5], [.ref 94], pv_mm s T)) (by decide +kernel) rfl ?_
      refine pv_e_gr (i := 32) (ci := 6) (j := 11) (b := 101) (pc' := 21) (by decide +kernel) rfl rfl rfl ?_
      refine pv_e_bk (ps := [(21, .iload_n 3, 1)]) (t' := (0, 0, 22, [some (.ref 94), some (.int v1), some (.int v2), some (.int v3), z4, z5], [.int v3, .ref 101], pv_mm s T)) (by decide +kernel) rfl ?_
      obtain ⟨q24, e25, h⟩ := Option.bind_eq_some_iff.mp h
      refine pv_e_rm (pc' := 23) (by decide +kernel) (by decide) rfl e25 rfl ?_
      refine pv_e_bk (ps := [(23, .iconst 3, 1)]) (t' := (0, 0, 24, [some (.ref 94), some (.int v1), some (.int v2), some (.int v3), z4, z5], [.int (3:Int32), .int q24], pv_mm s T)) (by decide +kernel) rfl ?_
      refine pv_e_icmpeq (off := 19) (b := 43) (pc' := 27) (by decide +kernel) (by decide +kernel) rfl (fun c26 => ?_) (fun c26 => ?_)
      · rw [if_pos c26] at h
        refine pv_e_bk (ps := [(43, .iconst 0, 1)]) (t' := (0, 0, 44, [some (.ref 94), some (.int v1), some (.int v2), some (.int v3), z4, z5], [.int (0:Int32)], pv_mm s T)) (by decide +kernel) rfl ?_
        obtain rfl := Option.some.inj h
        exact hJ22
      · rw [if_neg c26] at h
        refine pv_e_bk (ps := [(27, .aload_n 0, 1), (28, .iload_n 3, 1)]) (t' := (0, 0, 29, [some (.ref 94), some (.int v1), some (.int v2), some (.int v3), z4, z5], [.int v3, .ref 94], pv_mm s T)) (by decide +kernel) rfl ?_
        obtain ⟨q28, e27, h⟩ := Option.bind_eq_some_iff.mp h
        refine pv_e_cvi (d := d + 0) (i := 142) (z := 142) (np := 1) (ml := 2) (ci := 6) (As := [.int v3]) (rs := []) (pc' := 32) (by decide +kernel) rfl rfl rfl rfl (Nat.le_of_ble_eq_true rfl) (Nat.le_of_ble_eq_true rfl) rfl (ee142 (d + 0) v3 e27) ?_
        refine pv_e_bk (ps := [(32, .aload_n 0, 1)]) (t' := (0, 0, 33, [some (.ref 94), some (.int v1), some (.int v2), some (.int v3), z4, z5], [.ref 94, .int q28], pv_mm s T)) (by decide +kernel) rfl ?_
        refine pv_e_gm (i := 225) (ci := 6) (j := 26) (pc' := 36) (by decide +kernel) (by decide) rfl rfl rfl ?_
        refine pv_e_icmpne (off := 7) (b := 43) (pc' := 39) (by decide +kernel) (by decide +kernel) rfl (fun c29 => ?_) (fun c29 => ?_)
        · rw [if_pos c29] at h
          refine pv_e_bk (ps := [(39, .iconst 1, 1), (40, .goto 4, 3)]) (t' := (0, 0, 44, [some (.ref 94), some (.int v1), some (.int v2), some (.int v3), z4, z5], [.int (1:Int32)], pv_mm s T)) (by decide +kernel) rfl ?_
          obtain rfl := Option.some.inj h
          exact hJ22
        · rw [if_neg c29] at h
          refine pv_e_bk (ps := [(43, .iconst 0, 1)]) (t' := (0, 0, 44, [some (.ref 94), some (.int v1), some (.int v2), some (.int v3), z4, z5], [.int (0:Int32)], pv_mm s T)) (by decide +kernel) rfl ?_
          obtain rfl := Option.some.inj h
          exact hJ22
theorem ee177 {xs : Nat → Int32} {L : Nat} (d : Nat) (x1 : Int32) {s : pv_F} {T : pv_T} {q : Int32}  (h : f177_haveOne x1 T = some q) : pv_Ev xs L (d + 1) 177 (0, 0, 0, [some (.ref 94), some (.int x1), none, none, none, none], [], pv_mm s T) (some (.int q), pv_mm s T) := by
  generalize hr : ((some (.int q), pv_mm s T) : Option Value × pv_M) = r
  unfold f177_haveOne at h
  refine pv_e_bk (ps := [(0, .iconst 0, 1), (1, .istore_n 2, 1), (2, .iconst 0, 1), (3, .istore_n 3, 1)]) (t' := (0, 0, 4, [some (.ref 94), some (.int x1), some (.int (0:Int32)), some (.int (0:Int32)), none, none], [], pv_mm s T)) (by decide +kernel) rfl ?_
  obtain ⟨⟨w30, w31⟩, e33, h⟩ := Option.bind_eq_some_iff.mp h
  dsimp only at h
  have hx32 : f177_haveOne_b1_X xs L d r s x1 T (w30, w31) := by
    show ∀ z3 : Option Value, ∀ z4 : Option Value, ∀ z5 : Option Value, pv_Ev xs L (d + 1) 177 (0, 0, 114, [some (.ref 94), some (.int x1), some (.int w30), z3, z4, z5], [], pv_mm s T) r
    intro z3 z4 z5
    refine pv_e_bk (ps := [(114, .iload_n 2, 1)]) (t' := (0, 0, 115, [some (.ref 94), some (.int x1), some (.int w30), z3, z4, z5], [.int w30], pv_mm s T)) (by decide +kernel) rfl ?_
    obtain rfl := Option.some.inj h
    cases hr
    exact pv_e_ri (by decide +kernel)
  exact pv_lq_ok (H := f177_haveOne_b1_H xs L d r s x1 T) (X := f177_haveOne_b1_X xs L d r s x1 T) (f177_haveOne_b1_ok (xs := xs) (L := L) (d := d) (r := r) (s := s) (v1 := x1) (T := T)) 20000 _ _ e33 hx32 _ _
def f178_oneLasts_b1 (v1 : Int32) (st : Int32 × pv_T) : Option ((Int32 × pv_T) ⊕ (Int32 × pv_T)) := match st with
  | (v2, T) =>
    if (T.1 94 26) ≤ 0 then
      some (.inr (v2, T))
    else
      (f177_haveOne v1 T).bind fun q3 =>
      if q3 = 0 then
        (f155_wear 111 (0:Int32) (T.1 94 26) T).bind fun (q6, T7) =>
        (pv_pm T7 94 26 q6).bind fun T8 =>
        some (.inl (v2 + (1:Int32), T8))
      else
        some (.inr (v2, T))
def f178_oneLasts_b1_H (xs : Nat → Int32) (L d : Nat) (r : Option Value × pv_M) (s : pv_F) (v1 : Int32) (st : Int32 × pv_T) : Prop := match st with
  | (v2, T) => pv_Ev xs L (d + 3) 178 (0, 0, 2, [some (.ref 94), some (.int v1), some (.int v2)], [], pv_mm s T) r
def f178_oneLasts_b1_X (xs : Nat → Int32) (L d : Nat) (r : Option Value × pv_M) (s : pv_F) (v1 : Int32) (st : Int32 × pv_T) : Prop := match st with
  | (v2, T) => pv_Ev xs L (d + 3) 178 (0, 0, 40, [some (.ref 94), some (.int v1), some (.int v2)], [], pv_mm s T) r
def f178_oneLasts (x1 : Int32) (T : pv_T) : Option (Int32 × pv_T) :=
  (pv_lq (f178_oneLasts_b1 x1) 20000 ((0:Int32), T)).bind fun (w10, T11) =>
  some (w10, T11)
theorem f178_oneLasts_b1_ok {xs : Nat → Int32} {L d : Nat} {r : Option Value × pv_M} {s : pv_F} {v1 : Int32} (st : Int32 × pv_T) (o : (Int32 × pv_T) ⊕ (Int32 × pv_T)) (h : f178_oneLasts_b1 v1 st = some o) (hK : pv_Kq (f178_oneLasts_b1_H xs L d r s v1) (f178_oneLasts_b1_X xs L d r s v1) o) : f178_oneLasts_b1_H xs L d r s v1 st := by
  obtain ⟨v2, T⟩ := st
  show pv_Ev xs L (d + 3) 178 (0, 0, 2, [some (.ref 94), some (.int v1), some (.int v2)], [], pv_mm s T) r
  unfold f178_oneLasts_b1 at h
  dsimp only at h
  refine pv_e_bk (ps := [(2, .aload_n 0, 1)]) (t' := (0, 0, 3, [some (.ref 94), some (.int v1), some (.int v2)], [.ref 94], pv_mm s T)) (by decide +kernel) rfl ?_
  refine pv_e_gm (i := 225) (ci := 6) (j := 26) (pc' := 6) (by decide +kernel) (by decide) rfl rfl rfl ?_
  refine pv_e_ifle (off := 34) (b := 40) (pc' := 9) (by decide +kernel) (by decide +kernel) rfl (fun c1 => ?_) (fun c1 => ?_)
  · rw [if_pos c1] at h
    obtain rfl := Option.some.inj h
    exact hK
  · rw [if_neg c1] at h
    refine pv_e_bk (ps := [(9, .aload_n 0, 1), (10, .iload_n 1, 1)]) (t' := (0, 0, 11, [some (.ref 94), some (.int v1), some (.int v2)], [.int v1, .ref 94], pv_mm s T)) (by decide +kernel) rfl ?_
    obtain ⟨q3, e2, h⟩ := Option.bind_eq_some_iff.mp h
    refine pv_e_cvi (d := d + 2) (i := 228) (z := 177) (np := 1) (ml := 6) (ci := 6) (As := [.int v1]) (rs := []) (pc' := 14) (by decide +kernel) rfl rfl rfl rfl (Nat.le_of_ble_eq_true rfl) (Nat.le_of_ble_eq_true rfl) rfl (ee177 (d + 1) v1 e2) ?_
    refine pv_e_ifne (off := 26) (b := 40) (pc' := 17) (by decide +kernel) (by decide +kernel) rfl (fun c4 => ?_) (fun c4 => ?_)
    · rw [if_pos c4] at h
      refine pv_e_bk (ps := [(17, .aload_n 0, 1), (18, .aload_n 0, 1), (19, .aload_n 0, 1)]) (t' := (0, 0, 20, [some (.ref 94), some (.int v1), some (.int v2)], [.ref 94, .ref 94, .ref 94], pv_mm s T)) (by decide +kernel) rfl ?_
      refine pv_e_gr (i := 62) (ci := 6) (j := 25) (b := 111) (pc' := 23) (by decide +kernel) rfl rfl rfl ?_
      refine pv_e_bk (ps := [(23, .iconst 0, 1), (24, .aload_n 0, 1)]) (t' := (0, 0, 25, [some (.ref 94), some (.int v1), some (.int v2)], [.ref 94, .int (0:Int32), .ref 111, .ref 94, .ref 94], pv_mm s T)) (by decide +kernel) rfl ?_
      refine pv_e_gm (i := 225) (ci := 6) (j := 26) (pc' := 28) (by decide +kernel) (by decide) rfl rfl rfl ?_
      obtain ⟨⟨q6, T7⟩, e5, h⟩ := Option.bind_eq_some_iff.mp h
      dsimp only at h
      refine pv_e_cvi (d := d + 2) (i := 183) (z := 155) (np := 3) (ml := 6) (ci := 6) (As := [.ref 111, .int (0:Int32), .int (T.1 94 26)]) (rs := [.ref 94]) (pc' := 31) (by decide +kernel) rfl rfl rfl rfl (Nat.le_of_ble_eq_true rfl) (Nat.le_of_ble_eq_true rfl) rfl (ee155 (d + 0) 111 (0:Int32) (T.1 94 26) (by decide) e5) ?_
      obtain ⟨T8, e9, h⟩ := Option.bind_eq_some_iff.mp h
      refine pv_e_pms (i := 225) (ci := 6) (j := 26) (pc' := 34) (by decide +kernel) rfl rfl (by decide) rfl rfl e9 rfl ?_
      refine pv_e_bk (ps := [(34, .iinc 2 1, 3), (37, .goto (-35), 3)]) (t' := (0, 0, 2, [some (.ref 94), some (.int v1), some (.int (v2 + (1:Int32)))], [], pv_mm s T8)) (by decide +kernel) rfl ?_
      obtain rfl := Option.some.inj h
      exact hK
    · rw [if_neg c4] at h
      obtain rfl := Option.some.inj h
      exact hK
theorem ee178 {xs : Nat → Int32} {L : Nat} (d : Nat) (x1 : Int32) {s : pv_F} {T : pv_T} {q : Int32 × pv_T}  (h : f178_oneLasts x1 T = some q) : pv_Ev xs L (d + 3) 178 (0, 0, 0, [some (.ref 94), some (.int x1), none], [], pv_mm s T) (some (.int q.1), pv_mm s q.2) := by
  generalize hr : ((some (.int q.1), pv_mm s q.2) : Option Value × pv_M) = r
  unfold f178_oneLasts at h
  refine pv_e_bk (ps := [(0, .iconst 0, 1), (1, .istore_n 2, 1)]) (t' := (0, 0, 2, [some (.ref 94), some (.int x1), some (.int (0:Int32))], [], pv_mm s T)) (by decide +kernel) rfl ?_
  obtain ⟨⟨w10, T11⟩, e13, h⟩ := Option.bind_eq_some_iff.mp h
  dsimp only at h
  have hx12 : f178_oneLasts_b1_X xs L d r s x1 (w10, T11) := by
    show pv_Ev xs L (d + 3) 178 (0, 0, 40, [some (.ref 94), some (.int x1), some (.int w10)], [], pv_mm s T11) r
    refine pv_e_bk (ps := [(40, .iload_n 2, 1)]) (t' := (0, 0, 41, [some (.ref 94), some (.int x1), some (.int w10)], [.int w10], pv_mm s T11)) (by decide +kernel) rfl ?_
    obtain rfl := Option.some.inj h
    cases hr
    exact pv_e_ri (by decide +kernel)
  exact pv_lq_ok (H := f178_oneLasts_b1_H xs L d r s x1) (X := f178_oneLasts_b1_X xs L d r s x1) (f178_oneLasts_b1_ok (xs := xs) (L := L) (d := d) (r := r) (s := s) (v1 := x1)) 20000 _ _ e13 hx12
def f179_askedName_b1 (v1 : Int32) (T : pv_T) (st : Int32) : Option (Int32 ⊕ (Int32 ⊕ (Int32 × pv_T))) := match st with
  | v3 =>
    (pv_rd T.1 99 4 v1).bind fun q13 =>
    if q13 ≤ v3 then
      some (.inr (.inl v3))
    else
      (pv_rd T.1 100 320 (((80:Int32) * v1) + v3)).bind fun q16 =>
      (f134_isLetter q16).bind fun q19 =>
      if q19 = 0 then
        (f115_meet (3:Int32) T).bind fun (q22, T23) =>
        some (.inr (.inr (q22, T23)))
      else
        some (.inl (v3 + (1:Int32)))
def f179_askedName_b1_H (xs : Nat → Int32) (L d : Nat) (r : Option Value × pv_M) (s : pv_F) (v1 : Int32) (T : pv_T) (v2 : Int32) (st : Int32) : Prop := match st with
  | v3 => pv_Ev xs L (d + 3) 179 (0, 0, 35, [some (.ref 94), some (.int v1), some (.int v2), some (.int v3)], [], pv_mm s T) r
def f179_askedName_b1_X (xs : Nat → Int32) (L d : Nat) (r : Option Value × pv_M) (s : pv_F) (v1 : Int32) (T : pv_T) (v2 : Int32) (st : Int32) : Prop := match st with
  | v3 => ∀ z3 : Option Value, pv_Ev xs L (d + 3) 179 (0, 0, 74, [some (.ref 94), some (.int v1), some (.int v2), z3], [], pv_mm s T) r
def f179_askedName_b2 (v1 : Int32) (st : Int32 × pv_T) : Option ((Int32 × pv_T) ⊕ (Int32 × pv_T)) := match st with
  | (v3, T) =>
    if (T.1 94 26) ≤ v3 then
      some (.inr (v3, T))
    else
      (pv_rd T.1 100 320 (((80:Int32) * v1) + v3)).bind fun q30 =>
      (pv_wm T 111 6 v3 q30).bind fun T32 =>
      some (.inl (v3 + (1:Int32), T32))
def f179_askedName_b2_H (xs : Nat → Int32) (L d : Nat) (r : Option Value × pv_M) (s : pv_F) (v1 : Int32) (v2 : Int32) (st : Int32 × pv_T) : Prop := match st with
  | (v3, T) => pv_Ev xs L (d + 3) 179 (0, 0, 86, [some (.ref 94), some (.int v1), some (.int v2), some (.int v3)], [], pv_mm s T) r
def f179_askedName_b2_X (xs : Nat → Int32) (L d : Nat) (r : Option Value × pv_M) (s : pv_F) (v1 : Int32) (v2 : Int32) (st : Int32 × pv_T) : Prop := match st with
  | (v3, T) => ∀ z3 : Option Value, pv_Ev xs L (d + 3) 179 (0, 0, 117, [some (.ref 94), some (.int v1), some (.int v2), z3], [], pv_mm s T) r
def f179_askedName (x1 : Int32) (T : pv_T) : Option (Int32 × pv_T) :=
  (f122_askedText x1 T).bind fun (q2, T3) =>
  if 0 ≤ q2 then
    (pv_rd T3.1 99 4 x1).bind fun q5 =>
    (f114_in q5 (1:Int32) (6:Int32)).bind fun q8 =>
    if q8 = 0 then
      (f115_meet (5:Int32) T3).bind fun (q11, T12) =>
      some (q11, T12)
    else
      (pv_lp (f179_askedName_b1 x1 T3) 20000 (0:Int32)).bind fun o40 => match o40 with
        | .inl w24 =>
          (pv_rd T3.1 99 4 x1).bind fun q25 =>
          (pv_pm T3 94 26 q25).bind fun T27 =>
          (pv_lq (f179_askedName_b2 x1) 20000 ((0:Int32), T27)).bind fun (w34, T35) =>
          some ((0:Int32), T35)
        | .inr q => some q
  else
    some (q2, T3)
theorem f179_askedName_b1_ok {xs : Nat → Int32} {L d : Nat} {r : Option Value × pv_M} {s : pv_F} {v1 : Int32} {T : pv_T} {v2 : Int32} (st : Int32) (o : Int32 ⊕ (Int32 ⊕ (Int32 × pv_T))) (h : f179_askedName_b1 v1 T st = some o) (hK : pv_Kp (f179_askedName_b1_H xs L d r s v1 T v2) (f179_askedName_b1_X xs L d r s v1 T v2) (fun q => (some (.int q.1), pv_mm s q.2) = r) o) : f179_askedName_b1_H xs L d r s v1 T v2 st := by
  obtain ⟨v3, rfl⟩ : ∃ z, z = st := ⟨st, rfl⟩
  show pv_Ev xs L (d + 3) 179 (0, 0, 35, [some (.ref 94), some (.int v1), some (.int v2), some (.int v3)], [], pv_mm s T) r
  unfold f179_askedName_b1 at h
  dsimp only at h
  refine pv_e_bk (ps := [(35, .iload_n 3, 1), (36, .aload_n 0, 1)]) (t' := (0, 0, 37, [some (.ref 94), some (.int v1), some (.int v2), some (.int v3)], [.ref 94, .int v3], pv_mm s T)) (by decide +kernel) rfl ?_
  refine pv_e_gr (i := 22) (ci := 6) (j := 6) (b := 99) (pc' := 40) (by decide +kernel) rfl rfl rfl ?_
  refine pv_e_bk (ps := [(40, .iload_n 1, 1)]) (t' := (0, 0, 41, [some (.ref 94), some (.int v1), some (.int v2), some (.int v3)], [.int v1, .ref 99, .int v3], pv_mm s T)) (by decide +kernel) rfl ?_
  obtain ⟨q13, e14, h⟩ := Option.bind_eq_some_iff.mp h
  refine pv_e_rm (pc' := 42) (by decide +kernel) (by decide) rfl e14 rfl ?_
  refine pv_e_icmpge (off := 32) (b := 74) (pc' := 45) (by decide +kernel) (by decide +kernel) rfl (fun c15 => ?_) (fun c15 => ?_)
  · rw [if_pos c15] at h
    obtain rfl := Option.some.inj h
    exact hK _
  · rw [if_neg c15] at h
    refine pv_e_bk (ps := [(45, .aload_n 0, 1)]) (t' := (0, 0, 46, [some (.ref 94), some (.int v1), some (.int v2), some (.int v3)], [.ref 94], pv_mm s T)) (by decide +kernel) rfl ?_
    refine pv_e_gr (i := 25) (ci := 6) (j := 7) (b := 100) (pc' := 49) (by decide +kernel) rfl rfl rfl ?_
    refine pv_e_bk (ps := [(49, .bipush 80, 2), (51, .iload_n 1, 1), (52, .imul, 1), (53, .iload_n 3, 1), (54, .iadd, 1)]) (t' := (0, 0, 55, [some (.ref 94), some (.int v1), some (.int v2), some (.int v3)], [.int (((80:Int32) * v1) + v3), .ref 100], pv_mm s T)) (by decide +kernel) rfl ?_
    obtain ⟨q16, e17, h⟩ := Option.bind_eq_some_iff.mp h
    refine pv_e_rm (pc' := 56) (by decide +kernel) (by decide) rfl e17 rfl ?_
    obtain ⟨q19, e18, h⟩ := Option.bind_eq_some_iff.mp h
    refine pv_e_csi (d := d + 2) (i := 127) (z := 134) (np := 1) (ml := 1) (As := [.int q16]) (rs := []) (pc' := 59) (by decide +kernel) rfl rfl rfl (Nat.le_of_ble_eq_true rfl) (Nat.le_of_ble_eq_true rfl) rfl (ee134 (d + 1) q16 e18) ?_
    refine pv_e_ifne (off := 9) (b := 68) (pc' := 62) (by decide +kernel) (by decide +kernel) rfl (fun c20 => ?_) (fun c20 => ?_)
    · rw [if_pos c20] at h
      refine pv_e_bk (ps := [(62, .aload_n 0, 1), (63, .iconst 3, 1)]) (t' := (0, 0, 64, [some (.ref 94), some (.int v1), some (.int v2), some (.int v3)], [.int (3:Int32), .ref 94], pv_mm s T)) (by decide +kernel) rfl ?_
      obtain ⟨⟨q22, T23⟩, e21, h⟩ := Option.bind_eq_some_iff.mp h
      dsimp only at h
      refine pv_e_cvi (d := d + 2) (i := 91) (z := 115) (np := 1) (ml := 2) (ci := 6) (As := [.int (3:Int32)]) (rs := []) (pc' := 67) (by decide +kernel) rfl rfl rfl rfl (Nat.le_of_ble_eq_true rfl) (Nat.le_of_ble_eq_true rfl) rfl (ee115 (d + 2) (3:Int32) e21) ?_
      obtain rfl := Option.some.inj h
      cases hK
      exact pv_e_ri (by decide +kernel)
    · rw [if_neg c20] at h
      refine pv_e_bk (ps := [(68, .iinc 3 1, 3), (71, .goto (-36), 3)]) (t' := (0, 0, 35, [some (.ref 94), some (.int v1), some (.int v2), some (.int (v3 + (1:Int32)))], [], pv_mm s T)) (by decide +kernel) rfl ?_
      obtain rfl := Option.some.inj h
      exact hK
theorem f179_askedName_b2_ok {xs : Nat → Int32} {L d : Nat} {r : Option Value × pv_M} {s : pv_F} {v1 : Int32} {v2 : Int32} (st : Int32 × pv_T) (o : (Int32 × pv_T) ⊕ (Int32 × pv_T)) (h : f179_askedName_b2 v1 st = some o) (hK : pv_Kq (f179_askedName_b2_H xs L d r s v1 v2) (f179_askedName_b2_X xs L d r s v1 v2) o) : f179_askedName_b2_H xs L d r s v1 v2 st := by
  obtain ⟨v3, T⟩ := st
  show pv_Ev xs L (d + 3) 179 (0, 0, 86, [some (.ref 94), some (.int v1), some (.int v2), some (.int v3)], [], pv_mm s T) r
  unfold f179_askedName_b2 at h
  dsimp only at h
  refine pv_e_bk (ps := [(86, .iload_n 3, 1), (87, .aload_n 0, 1)]) (t' := (0, 0, 88, [some (.ref 94), some (.int v1), some (.int v2), some (.int v3)], [.ref 94, .int v3], pv_mm s T)) (by decide +kernel) rfl ?_
  refine pv_e_gm (i := 225) (ci := 6) (j := 26) (pc' := 91) (by decide +kernel) (by decide) rfl rfl rfl ?_
  refine pv_e_icmpge (off := 26) (b := 117) (pc' := 94) (by decide +kernel) (by decide +kernel) rfl (fun c29 => ?_) (fun c29 => ?_)
  · rw [if_pos c29] at h
    obtain rfl := Option.some.inj h
    exact hK _
  · rw [if_neg c29] at h
    refine pv_e_bk (ps := [(94, .aload_n 0, 1)]) (t' := (0, 0, 95, [some (.ref 94), some (.int v1), some (.int v2), some (.int v3)], [.ref 94], pv_mm s T)) (by decide +kernel) rfl ?_
    refine pv_e_gr (i := 62) (ci := 6) (j := 25) (b := 111) (pc' := 98) (by decide +kernel) rfl rfl rfl ?_
    refine pv_e_bk (ps := [(98, .iload_n 3, 1), (99, .aload_n 0, 1)]) (t' := (0, 0, 100, [some (.ref 94), some (.int v1), some (.int v2), some (.int v3)], [.ref 94, .int v3, .ref 111], pv_mm s T)) (by decide +kernel) rfl ?_
    refine pv_e_gr (i := 25) (ci := 6) (j := 7) (b := 100) (pc' := 103) (by decide +kernel) rfl rfl rfl ?_
    refine pv_e_bk (ps := [(103, .bipush 80, 2), (105, .iload_n 1, 1), (106, .imul, 1), (107, .iload_n 3, 1), (108, .iadd, 1)]) (t' := (0, 0, 109, [some (.ref 94), some (.int v1), some (.int v2), some (.int v3)], [.int (((80:Int32) * v1) + v3), .ref 100, .int v3, .ref 111], pv_mm s T)) (by decide +kernel) rfl ?_
    obtain ⟨q30, e31, h⟩ := Option.bind_eq_some_iff.mp h
    refine pv_e_rm (pc' := 110) (by decide +kernel) (by decide) rfl e31 rfl ?_
    obtain ⟨T32, e33, h⟩ := Option.bind_eq_some_iff.mp h
    refine pv_e_wm (pc' := 111) (by decide +kernel) (by decide) rfl e33 rfl ?_
    refine pv_e_bk (ps := [(111, .iinc 3 1, 3), (114, .goto (-28), 3)]) (t' := (0, 0, 86, [some (.ref 94), some (.int v1), some (.int v2), some (.int (v3 + (1:Int32)))], [], pv_mm s T32)) (by decide +kernel) rfl ?_
    obtain rfl := Option.some.inj h
    exact hK
theorem ee179 {xs : Nat → Int32} {L : Nat} (d : Nat) (x1 : Int32) {s : pv_F} {T : pv_T} {q : Int32 × pv_T}  (h : f179_askedName x1 T = some q) : pv_Ev xs L (d + 3) 179 (0, 0, 0, [some (.ref 94), some (.int x1), none, none], [], pv_mm s T) (some (.int q.1), pv_mm s q.2) := by
  generalize hr : ((some (.int q.1), pv_mm s q.2) : Option Value × pv_M) = r
  unfold f179_askedName at h
  refine pv_e_bk (ps := [(0, .aload_n 0, 1), (1, .iload_n 1, 1)]) (t' := (0, 0, 2, [some (.ref 94), some (.int x1), none, none], [.int x1, .ref 94], pv_mm s T)) (by decide +kernel) rfl ?_
  obtain ⟨⟨q2, T3⟩, e1, h⟩ := Option.bind_eq_some_iff.mp h
  dsimp only at h
  refine pv_e_cvi (d := d + 2) (i := 115) (z := 122) (np := 1) (ml := 2) (ci := 6) (As := [.int x1]) (rs := []) (pc' := 5) (by decide +kernel) rfl rfl rfl rfl (Nat.le_of_ble_eq_true rfl) (Nat.le_of_ble_eq_true rfl) rfl (ee122 (d + 0) x1 e1) ?_
  refine pv_e_bk (ps := [(5, .istore_n 2, 1), (6, .iload_n 2, 1)]) (t' := (0, 0, 7, [some (.ref 94), some (.int x1), some (.int q2), none], [.int q2], pv_mm s T3)) (by decide +kernel) rfl ?_
  refine pv_e_ifge (off := 5) (b := 12) (pc' := 10) (by decide +kernel) (by decide +kernel) rfl (fun c4 => ?_) (fun c4 => ?_)
  · rw [if_pos c4] at h
    refine pv_e_bk (ps := [(12, .aload_n 0, 1)]) (t' := (0, 0, 13, [some (.ref 94), some (.int x1), some (.int q2), none], [.ref 94], pv_mm s T3)) (by decide +kernel) rfl ?_
    refine pv_e_gr (i := 22) (ci := 6) (j := 6) (b := 99) (pc' := 16) (by decide +kernel) rfl rfl rfl ?_
    refine pv_e_bk (ps := [(16, .iload_n 1, 1)]) (t' := (0, 0, 17, [some (.ref 94), some (.int x1), some (.int q2), none], [.int x1, .ref 99], pv_mm s T3)) (by decide +kernel) rfl ?_
    obtain ⟨q5, e6, h⟩ := Option.bind_eq_some_iff.mp h
    refine pv_e_rm (pc' := 18) (by decide +kernel) (by decide) rfl e6 rfl ?_
    refine pv_e_bk (ps := [(18, .iconst 1, 1), (19, .bipush 6, 2)]) (t' := (0, 0, 21, [some (.ref 94), some (.int x1), some (.int q2), none], [.int (6:Int32), .int (1:Int32), .int q5], pv_mm s T3)) (by decide +kernel) rfl ?_
    obtain ⟨q8, e7, h⟩ := Option.bind_eq_some_iff.mp h
    refine pv_e_csi (d := d + 2) (i := 83) (z := 114) (np := 3) (ml := 3) (As := [.int q5, .int (1:Int32), .int (6:Int32)]) (rs := []) (pc' := 24) (by decide +kernel) rfl rfl rfl (Nat.le_of_ble_eq_true rfl) (Nat.le_of_ble_eq_true rfl) rfl (ee114 (d + 2) q5 (1:Int32) (6:Int32) e7) ?_
    refine pv_e_ifne (off := 9) (b := 33) (pc' := 27) (by decide +kernel) (by decide +kernel) rfl (fun c9 => ?_) (fun c9 => ?_)
    · rw [if_pos c9] at h
      refine pv_e_bk (ps := [(27, .aload_n 0, 1), (28, .iconst 5, 1)]) (t' := (0, 0, 29, [some (.ref 94), some (.int x1), some (.int q2), none], [.int (5:Int32), .ref 94], pv_mm s T3)) (by decide +kernel) rfl ?_
      obtain ⟨⟨q11, T12⟩, e10, h⟩ := Option.bind_eq_some_iff.mp h
      dsimp only at h
      refine pv_e_cvi (d := d + 2) (i := 91) (z := 115) (np := 1) (ml := 2) (ci := 6) (As := [.int (5:Int32)]) (rs := []) (pc' := 32) (by decide +kernel) rfl rfl rfl rfl (Nat.le_of_ble_eq_true rfl) (Nat.le_of_ble_eq_true rfl) rfl (ee115 (d + 2) (5:Int32) e10) ?_
      obtain rfl := Option.some.inj h
      cases hr
      exact pv_e_ri (by decide +kernel)
    · rw [if_neg c9] at h
      refine pv_e_bk (ps := [(33, .iconst 0, 1), (34, .istore_n 3, 1)]) (t' := (0, 0, 35, [some (.ref 94), some (.int x1), some (.int q2), some (.int (0:Int32))], [], pv_mm s T3)) (by decide +kernel) rfl ?_
      obtain ⟨o40, e39, h⟩ := Option.bind_eq_some_iff.mp h
      refine pv_lp_ok (H := f179_askedName_b1_H xs L d r s x1 T3 q2) (X := f179_askedName_b1_X xs L d r s x1 T3 q2) (Z := (fun q => (some (.int q.1), pv_mm s q.2) = r)) (f179_askedName_b1_ok (xs := xs) (L := L) (d := d) (r := r) (s := s) (v1 := x1) (T := T3) (v2 := q2)) 20000 _ _ e39 ?_
      rcases o40 with w24 | q
      · dsimp only at h ⊢
        show ∀ z3 : Option Value, pv_Ev xs L (d + 3) 179 (0, 0, 74, [some (.ref 94), some (.int x1), some (.int q2), z3], [], pv_mm s T3) r
        intro z3
        refine pv_e_bk (ps := [(74, .aload_n 0, 1), (75, .aload_n 0, 1)]) (t' := (0, 0, 76, [some (.ref 94), some (.int x1), some (.int q2), z3], [.ref 94, .ref 94], pv_mm s T3)) (by decide +kernel) rfl ?_
        refine pv_e_gr (i := 22) (ci := 6) (j := 6) (b := 99) (pc' := 79) (by decide +kernel) rfl rfl rfl ?_
        refine pv_e_bk (ps := [(79, .iload_n 1, 1)]) (t' := (0, 0, 80, [some (.ref 94), some (.int x1), some (.int q2), z3], [.int x1, .ref 99, .ref 94], pv_mm s T3)) (by decide +kernel) rfl ?_
        obtain ⟨q25, e26, h⟩ := Option.bind_eq_some_iff.mp h
        refine pv_e_rm (pc' := 81) (by decide +kernel) (by decide) rfl e26 rfl ?_
        obtain ⟨T27, e28, h⟩ := Option.bind_eq_some_iff.mp h
        refine pv_e_pms (i := 225) (ci := 6) (j := 26) (pc' := 84) (by decide +kernel) rfl rfl (by decide) rfl rfl e28 rfl ?_
        refine pv_e_bk (ps := [(84, .iconst 0, 1), (85, .istore_n 3, 1)]) (t' := (0, 0, 86, [some (.ref 94), some (.int x1), some (.int q2), some (.int (0:Int32))], [], pv_mm s T27)) (by decide +kernel) rfl ?_
        obtain ⟨⟨w34, T35⟩, e37, h⟩ := Option.bind_eq_some_iff.mp h
        dsimp only at h
        have hx36 : f179_askedName_b2_X xs L d r s x1 q2 (w34, T35) := by
          show ∀ z3 : Option Value, pv_Ev xs L (d + 3) 179 (0, 0, 117, [some (.ref 94), some (.int x1), some (.int q2), z3], [], pv_mm s T35) r
          intro z3
          refine pv_e_bk (ps := [(117, .iconst 0, 1)]) (t' := (0, 0, 118, [some (.ref 94), some (.int x1), some (.int q2), z3], [.int (0:Int32)], pv_mm s T35)) (by decide +kernel) rfl ?_
          obtain rfl := Option.some.inj h
          cases hr
          exact pv_e_ri (by decide +kernel)
        exact pv_lq_ok (H := f179_askedName_b2_H xs L d r s x1 q2) (X := f179_askedName_b2_X xs L d r s x1 q2) (f179_askedName_b2_ok (xs := xs) (L := L) (d := d) (r := r) (s := s) (v1 := x1) (v2 := q2)) 20000 _ _ e37 hx36
      · dsimp only at h ⊢
        obtain rfl := Option.some.inj h
        exact hr
  · rw [if_neg c4] at h
    refine pv_e_bk (ps := [(10, .iload_n 2, 1)]) (t' := (0, 0, 11, [some (.ref 94), some (.int x1), some (.int q2), none], [.int q2], pv_mm s T3)) (by decide +kernel) rfl ?_
    obtain rfl := Option.some.inj h
    cases hr
    exact pv_e_ri (by decide +kernel)
def f180_name (x1 : Int32) (T : pv_T) : Option (Int32 × pv_T) :=
  (f179_askedName x1 T).bind fun (q2, T3) =>
  ((
    if 0 ≤ q2 then
      (f178_oneLasts (-9:Int32) T3).bind fun (q10, T11) =>
      some (q10, T11)
    else
      some (q2, T3)) : Option (Int32 × pv_T)).bind fun (t4, T5) =>
  some (t4, T5)
theorem ee180 {xs : Nat → Int32} {L : Nat} (d : Nat) (x1 : Int32) {s : pv_F} {T : pv_T} {q : Int32 × pv_T}  (h : f180_name x1 T = some q) : pv_Ev xs L (d + 4) 180 (0, 0, 0, [some (.ref 94), some (.int x1), none], [], pv_mm s T) (some (.int q.1), pv_mm s q.2) := by
  generalize hr : ((some (.int q.1), pv_mm s q.2) : Option Value × pv_M) = r
  unfold f180_name at h
  refine pv_e_bk (ps := [(0, .aload_n 0, 1), (1, .iload_n 1, 1)]) (t' := (0, 0, 2, [some (.ref 94), some (.int x1), none], [.int x1, .ref 94], pv_mm s T)) (by decide +kernel) rfl ?_
  obtain ⟨⟨q2, T3⟩, e1, h⟩ := Option.bind_eq_some_iff.mp h
  dsimp only at h
  refine pv_e_cvi (d := d + 3) (i := 231) (z := 179) (np := 1) (ml := 4) (ci := 6) (As := [.int x1]) (rs := []) (pc' := 5) (by decide +kernel) rfl rfl rfl rfl (Nat.le_of_ble_eq_true rfl) (Nat.le_of_ble_eq_true rfl) rfl (ee179 (d + 0) x1 e1) ?_
  refine pv_e_bk (ps := [(5, .istore_n 2, 1), (6, .iload_n 2, 1)]) (t' := (0, 0, 7, [some (.ref 94), some (.int x1), some (.int q2)], [.int q2], pv_mm s T3)) (by decide +kernel) rfl ?_
  obtain ⟨⟨t4, T5⟩, hv6, h⟩ := Option.bind_eq_some_iff.mp h
  dsimp only at h
  have hJ7 : pv_Ev xs L (d + 4) 180 (0, 0, 20, [some (.ref 94), some (.int x1), some (.int q2)], [.int t4], pv_mm s T5) r := by
    obtain rfl := Option.some.inj h
    cases hr
    exact pv_e_ri (by decide +kernel)
  clear h
  have h := hv6
  clear hv6
  refine pv_e_ifge (off := 7) (b := 14) (pc' := 10) (by decide +kernel) (by decide +kernel) rfl (fun c8 => ?_) (fun c8 => ?_)
  · rw [if_pos c8] at h
    refine pv_e_bk (ps := [(14, .aload_n 0, 1), (15, .bipush (-9), 2)]) (t' := (0, 0, 17, [some (.ref 94), some (.int x1), some (.int q2)], [.int (-9:Int32), .ref 94], pv_mm s T3)) (by decide +kernel) rfl ?_
    obtain ⟨⟨q10, T11⟩, e9, h⟩ := Option.bind_eq_some_iff.mp h
    dsimp only at h
    refine pv_e_cvi (d := d + 3) (i := 234) (z := 178) (np := 1) (ml := 3) (ci := 6) (As := [.int (-9:Int32)]) (rs := []) (pc' := 20) (by decide +kernel) rfl rfl rfl rfl (Nat.le_of_ble_eq_true rfl) (Nat.le_of_ble_eq_true rfl) rfl (ee178 (d + 0) (-9:Int32) e9) ?_
    cases h
    exact hJ7
  · rw [if_neg c8] at h
    refine pv_e_bk (ps := [(10, .iload_n 2, 1), (11, .goto 9, 3)]) (t' := (0, 0, 20, [some (.ref 94), some (.int x1), some (.int q2)], [.int q2], pv_mm s T3)) (by decide +kernel) rfl ?_
    cases h
    exact hJ7
