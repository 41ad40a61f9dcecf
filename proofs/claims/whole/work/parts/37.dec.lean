-- printed by wip/whole/gen/parts.py: methods as functions over the ints of the memory, and that the pure machine runs so
def f167_on_b1 (v1 : Int32) (st : Int32 × pv_T) : Option ((Int32 × pv_T) ⊕ (Int32 × pv_T)) := match st with
  | (v2, T) =>
    if (4680:Int32) ≤ v2 then
      some (.inr (v2, T))
    else
      (pv_rd T.1 109 14040 (((4680:Int32) * v1) + v2)).bind fun q17 =>
      (pv_wm T 106 4680 v2 q17).bind fun T19 =>
      some (.inl (v2 + (1:Int32), T19))
def f167_on_b1_H (xs : Nat → Int32) (L d : Nat) (r : Option Value × pv_M) (s : pv_F) (v1 : Int32) (st : Int32 × pv_T) : Prop := match st with
  | (v2, T) => pv_Ev xs L (d + 1) 167 (0, 0, 56, [some (.ref 94), some (.int v1), some (.int v2)], [], pv_mm s T) r
def f167_on_b1_X (xs : Nat → Int32) (L d : Nat) (r : Option Value × pv_M) (s : pv_F) (v1 : Int32) (st : Int32 × pv_T) : Prop := match st with
  | (v2, T) => ∀ z2 : Option Value, pv_Ev xs L (d + 1) 167 (0, 0, 87, [some (.ref 94), some (.int v1), z2], [], pv_mm s T) r
def f167_on (x1 : Int32) (T : pv_T) : Option (Int32 × pv_T) :=
  (f114_in x1 (0:Int32) (2:Int32)).bind fun q2 =>
  if q2 = 0 then
    some ((-1:Int32), T)
  else
    (pv_rd T.1 107 3 x1).bind fun q4 =>
    if q4 = (-9:Int32) then
      (f115_meet (1:Int32) T).bind fun (q8, T9) =>
      some (q8, T9)
    else
      (pv_rd T.1 107 3 x1).bind fun q10 =>
      (pv_pm T 94 18 q10).bind fun T12 =>
      (f162_copies 108 ((78:Int32) * x1) 105 (0:Int32) T12).bind fun T15 =>
      (pv_lq (f167_on_b1 x1) 20000 ((0:Int32), T15)).bind fun (w21, T22) =>
      some (T22.1 94 18, T22)
theorem f167_on_b1_ok {xs : Nat → Int32} {L d : Nat} {r : Option Value × pv_M} {s : pv_F} {v1 : Int32} (st : Int32 × pv_T) (o : (Int32 × pv_T) ⊕ (Int32 × pv_T)) (h : f167_on_b1 v1 st = some o) (hK : pv_Kq (f167_on_b1_H xs L d r s v1) (f167_on_b1_X xs L d r s v1) o) : f167_on_b1_H xs L d r s v1 st := by
  obtain ⟨v2, T⟩ := st
  show pv_Ev xs L (d + 1) 167 (0, 0, 56, [some (.ref 94), some (.int v1), some (.int v2)], [], pv_mm s T) r
  unfold f167_on_b1 at h
  dsimp only at h
  refine pv_e_bk (ps := [(56, .iload_n 2, 1), (57, .sipush 4680, 3)]) (t' := (0, 0, 60, [some (.ref 94), some (.int v1), some (.int v2)], [.int (4680:Int32), .int v2], pv_mm s T)) (by decide +kernel) rfl ?_
  refine pv_e_icmpge (off := 27) (b := 87) (pc' := 63) (by decide +kernel) (by decide +kernel) rfl (fun c16 => ?_) (fun c16 => ?_)
  · rw [if_pos c16] at h
    obtain rfl := Option.some.inj h
    exact hK _
  · rw [if_neg c16] at h
    refine pv_e_bk (ps := [(63, .aload_n 0, 1)]) (t' := (0, 0, 64, [some (.ref 94), some (.int v1), some (.int v2)], [.ref 94], pv_mm s T)) (by decide +kernel) rfl ?_
    refine pv_e_gr (i := 47) (ci := 6) (j := 19) (b := 106) (pc' := 67) (by decide +kernel) rfl rfl rfl ?_
    refine pv_e_bk (ps := [(67, .iload_n 2, 1), (68, .aload_n 0, 1)]) (t' := (0, 0, 69, [some (.ref 94), some (.int v1), some (.int v2)], [.ref 94, .int v2, .ref 106], pv_mm s T)) (by decide +kernel) rfl ?_
    refine pv_e_gr (i := 56) (ci := 6) (j := 22) (b := 109) (pc' := 72) (by decide +kernel) rfl rfl rfl ?_
    refine pv_e_bk (ps := [(72, .sipush 4680, 3), (75, .iload_n 1, 1), (76, .imul, 1), (77, .iload_n 2, 1), (78, .iadd, 1)]) (t' := (0, 0, 79, [some (.ref 94), some (.int v1), some (.int v2)], [.int (((4680:Int32) * v1) + v2), .ref 109, .int v2, .ref 106], pv_mm s T)) (by decide +kernel) rfl ?_
    obtain ⟨q17, e18, h⟩ := Option.bind_eq_some_iff.mp h
    refine pv_e_rm (pc' := 80) (by decide +kernel) (by decide) rfl e18 rfl ?_
    obtain ⟨T19, e20, h⟩ := Option.bind_eq_some_iff.mp h
    refine pv_e_wm (pc' := 81) (by decide +kernel) (by decide) rfl e20 rfl ?_
    refine pv_e_bk (ps := [(81, .iinc 2 1, 3), (84, .goto (-28), 3)]) (t' := (0, 0, 56, [some (.ref 94), some (.int v1), some (.int (v2 + (1:Int32)))], [], pv_mm s T19)) (by decide +kernel) rfl ?_
    obtain rfl := Option.some.inj h
    exact hK
theorem ee167 {xs : Nat → Int32} {L : Nat} (d : Nat) (x1 : Int32) {s : pv_F} {T : pv_T} {q : Int32 × pv_T}  (h : f167_on x1 T = some q) : pv_Ev xs L (d + 1) 167 (0, 0, 0, [some (.ref 94), some (.int x1), none], [], pv_mm s T) (some (.int q.1), pv_mm s q.2) := by
  generalize hr : ((some (.int q.1), pv_mm s q.2) : Option Value × pv_M) = r
  unfold f167_on at h
  refine pv_e_bk (ps := [(0, .iload_n 1, 1), (1, .iconst 0, 1), (2, .iconst 2, 1)]) (t' := (0, 0, 3, [some (.ref 94), some (.int x1), none], [.int (2:Int32), .int (0:Int32), .int x1], pv_mm s T)) (by decide +kernel) rfl ?_
  obtain ⟨q2, e1, h⟩ := Option.bind_eq_some_iff.mp h
  refine pv_e_csi (d := d + 0) (i := 83) (z := 114) (np := 3) (ml := 3) (As := [.int x1, .int (0:Int32), .int (2:Int32)]) (rs := []) (pc' := 6) (by decide +kernel) rfl rfl rfl (Nat.le_of_ble_eq_true rfl) (Nat.le_of_ble_eq_true rfl) rfl (ee114 (d + 0) x1 (0:Int32) (2:Int32) e1) ?_
  refine pv_e_ifne (off := 5) (b := 11) (pc' := 9) (by decide +kernel) (by decide +kernel) rfl (fun c3 => ?_) (fun c3 => ?_)
  · rw [if_pos c3] at h
    refine pv_e_bk (ps := [(9, .iconst (-1), 1)]) (t' := (0, 0, 10, [some (.ref 94), some (.int x1), none], [.int (-1:Int32)], pv_mm s T)) (by decide +kernel) rfl ?_
    obtain rfl := Option.some.inj h
    cases hr
    exact pv_e_ri (by decide +kernel)
  · rw [if_neg c3] at h
    refine pv_e_bk (ps := [(11, .aload_n 0, 1)]) (t' := (0, 0, 12, [some (.ref 94), some (.int x1), none], [.ref 94], pv_mm s T)) (by decide +kernel) rfl ?_
    refine pv_e_gr (i := 50) (ci := 6) (j := 20) (b := 107) (pc' := 15) (by decide +kernel) rfl rfl rfl ?_
    refine pv_e_bk (ps := [(15, .iload_n 1, 1)]) (t' := (0, 0, 16, [some (.ref 94), some (.int x1), none], [.int x1, .ref 107], pv_mm s T)) (by decide +kernel) rfl ?_
    obtain ⟨q4, e5, h⟩ := Option.bind_eq_some_iff.mp h
    refine pv_e_rm (pc' := 17) (by decide +kernel) (by decide) rfl e5 rfl ?_
    refine pv_e_bk (ps := [(17, .bipush (-9), 2)]) (t' := (0, 0, 19, [some (.ref 94), some (.int x1), none], [.int (-9:Int32), .int q4], pv_mm s T)) (by decide +kernel) rfl ?_
    refine pv_e_icmpne (off := 9) (b := 28) (pc' := 22) (by decide +kernel) (by decide +kernel) rfl (fun c6 => ?_) (fun c6 => ?_)
    · rw [if_pos c6] at h
      refine pv_e_bk (ps := [(22, .aload_n 0, 1), (23, .iconst 1, 1)]) (t' := (0, 0, 24, [some (.ref 94), some (.int x1), none], [.int (1:Int32), .ref 94], pv_mm s T)) (by decide +kernel) rfl ?_
      obtain ⟨⟨q8, T9⟩, e7, h⟩ := Option.bind_eq_some_iff.mp h
      dsimp only at h
      refine pv_e_cvi (d := d + 0) (i := 91) (z := 115) (np := 1) (ml := 2) (ci := 6) (As := [.int (1:Int32)]) (rs := []) (pc' := 27) (by decide +kernel) rfl rfl rfl rfl (Nat.le_of_ble_eq_true rfl) (Nat.le_of_ble_eq_true rfl) rfl (ee115 (d + 0) (1:Int32) e7) ?_
      obtain rfl := Option.some.inj h
      cases hr
      exact pv_e_ri (by decide +kernel)
    · rw [if_neg c6] at h
      refine pv_e_bk (ps := [(28, .aload_n 0, 1), (29, .aload_n 0, 1)]) (t' := (0, 0, 30, [some (.ref 94), some (.int x1), none], [.ref 94, .ref 94], pv_mm s T)) (by decide +kernel) rfl ?_
      refine pv_e_gr (i := 50) (ci := 6) (j := 20) (b := 107) (pc' := 33) (by decide +kernel) rfl rfl rfl ?_
      refine pv_e_bk (ps := [(33, .iload_n 1, 1)]) (t' := (0, 0, 34, [some (.ref 94), some (.int x1), none], [.int x1, .ref 107, .ref 94], pv_mm s T)) (by decide +kernel) rfl ?_
      obtain ⟨q10, e11, h⟩ := Option.bind_eq_some_iff.mp h
      refine pv_e_rm (pc' := 35) (by decide +kernel) (by decide) rfl e11 rfl ?_
      obtain ⟨T12, e13, h⟩ := Option.bind_eq_some_iff.mp h
      refine pv_e_pms (i := 139) (ci := 6) (j := 18) (pc' := 38) (by decide +kernel) rfl rfl (by decide) rfl rfl e13 rfl ?_
      refine pv_e_bk (ps := [(38, .aload_n 0, 1)]) (t' := (0, 0, 39, [some (.ref 94), some (.int x1), none], [.ref 94], pv_mm s T12)) (by decide +kernel) rfl ?_
      refine pv_e_gr (i := 53) (ci := 6) (j := 21) (b := 108) (pc' := 42) (by decide +kernel) rfl rfl rfl ?_
      refine pv_e_bk (ps := [(42, .bipush 78, 2), (44, .iload_n 1, 1), (45, .imul, 1), (46, .aload_n 0, 1)]) (t' := (0, 0, 47, [some (.ref 94), some (.int x1), none], [.ref 94, .int ((78:Int32) * x1), .ref 108], pv_mm s T12)) (by decide +kernel) rfl ?_
      refine pv_e_gr (i := 44) (ci := 6) (j := 17) (b := 105) (pc' := 50) (by decide +kernel) rfl rfl rfl ?_
      refine pv_e_bk (ps := [(50, .iconst 0, 1)]) (t' := (0, 0, 51, [some (.ref 94), some (.int x1), none], [.int (0:Int32), .ref 105, .int ((78:Int32) * x1), .ref 108], pv_mm s T12)) (by decide +kernel) rfl ?_
      obtain ⟨T15, e14, h⟩ := Option.bind_eq_some_iff.mp h
      refine pv_e_csv (d := d + 0) (i := 202) (z := 162) (np := 4) (ml := 5) (As := [.ref 108, .int ((78:Int32) * x1), .ref 105, .int (0:Int32)]) (rs := []) (pc' := 54) (by decide +kernel) rfl rfl rfl (Nat.le_of_ble_eq_true rfl) (Nat.le_of_ble_eq_true rfl) rfl (ee162 (d + 0) 108 ((78:Int32) * x1) 105 (0:Int32) (by decide) (by decide) e14) ?_
      refine pv_e_bk (ps := [(54, .iconst 0, 1), (55, .istore_n 2, 1)]) (t' := (0, 0, 56, [some (.ref 94), some (.int x1), some (.int (0:Int32))], [], pv_mm s T15)) (by decide +kernel) rfl ?_
      obtain ⟨⟨w21, T22⟩, e24, h⟩ := Option.bind_eq_some_iff.mp h
      dsimp only at h
      have hx23 : f167_on_b1_X xs L d r s x1 (w21, T22) := by
        show ∀ z2 : Option Value, pv_Ev xs L (d + 1) 167 (0, 0, 87, [some (.ref 94), some (.int x1), z2], [], pv_mm s T22) r
        intro z2
        refine pv_e_bk (ps := [(87, .aload_n 0, 1)]) (t' := (0, 0, 88, [some (.ref 94), some (.int x1), z2], [.ref 94], pv_mm s T22)) (by decide +kernel) rfl ?_
        refine pv_e_gm (i := 139) (ci := 6) (j := 18) (pc' := 91) (by decide +kernel) (by decide) rfl rfl rfl ?_
        obtain rfl := Option.some.inj h
        cases hr
        exact pv_e_ri (by decide +kernel)
      exact pv_lq_ok (H := f167_on_b1_H xs L d r s x1) (X := f167_on_b1_X xs L d r s x1) (f167_on_b1_ok (xs := xs) (L := L) (d := d) (r := r) (s := s) (v1 := x1)) 20000 _ _ e24 hx23
def f168_putAside (T : pv_T) : Option (pv_T) :=
  (f162_copies 105 (0:Int32) 110 (0:Int32) T).bind fun T2 =>
  some T2
theorem ee168 {xs : Nat → Int32} {L : Nat} (d : Nat)  {s : pv_F} {T : pv_T} {q : pv_T}  (h : f168_putAside T = some q) : pv_Ev xs L (d + 1) 168 (0, 0, 0, [some (.ref 94)], [], pv_mm s T) (none, pv_mm s q) := by
  generalize hr : ((none, pv_mm s q) : Option Value × pv_M) = r
  unfold f168_putAside at h
  refine pv_e_bk (ps := [(0, .aload_n 0, 1)]) (t' := (0, 0, 1, [some (.ref 94)], [.ref 94], pv_mm s T)) (by decide +kernel) rfl ?_
  refine pv_e_gr (i := 44) (ci := 6) (j := 17) (b := 105) (pc' := 4) (by decide +kernel) rfl rfl rfl ?_
  refine pv_e_bk (ps := [(4, .iconst 0, 1), (5, .aload_n 0, 1)]) (t' := (0, 0, 6, [some (.ref 94)], [.ref 94, .int (0:Int32), .ref 105], pv_mm s T)) (by decide +kernel) rfl ?_
  refine pv_e_gr (i := 59) (ci := 6) (j := 23) (b := 110) (pc' := 9) (by decide +kernel) rfl rfl rfl ?_
  refine pv_e_bk (ps := [(9, .iconst 0, 1)]) (t' := (0, 0, 10, [some (.ref 94)], [.int (0:Int32), .ref 110, .int (0:Int32), .ref 105], pv_mm s T)) (by decide +kernel) rfl ?_
  obtain ⟨T2, e1, h⟩ := Option.bind_eq_some_iff.mp h
  refine pv_e_csv (d := d + 0) (i := 202) (z := 162) (np := 4) (ml := 5) (As := [.ref 105, .int (0:Int32), .ref 110, .int (0:Int32)]) (rs := []) (pc' := 13) (by decide +kernel) rfl rfl rfl (Nat.le_of_ble_eq_true rfl) (Nat.le_of_ble_eq_true rfl) rfl (ee162 (d + 0) 105 (0:Int32) 110 (0:Int32) (by decide) (by decide) e1) ?_
  obtain rfl := Option.some.inj h
  cases hr
  exact pv_e_rv (by decide +kernel)
def f169_comeBack (T : pv_T) : Option (pv_T) :=
  (f162_copies 110 (0:Int32) 105 (0:Int32) T).bind fun T2 =>
  some T2
theorem ee169 {xs : Nat → Int32} {L : Nat} (d : Nat)  {s : pv_F} {T : pv_T} {q : pv_T}  (h : f169_comeBack T = some q) : pv_Ev xs L (d + 1) 169 (0, 0, 0, [some (.ref 94)], [], pv_mm s T) (none, pv_mm s q) := by
  generalize hr : ((none, pv_mm s q) : Option Value × pv_M) = r
  unfold f169_comeBack at h
  refine pv_e_bk (ps := [(0, .aload_n 0, 1)]) (t' := (0, 0, 1, [some (.ref 94)], [.ref 94], pv_mm s T)) (by decide +kernel) rfl ?_
  refine pv_e_gr (i := 59) (ci := 6) (j := 23) (b := 110) (pc' := 4) (by decide +kernel) rfl rfl rfl ?_
  refine pv_e_bk (ps := [(4, .iconst 0, 1), (5, .aload_n 0, 1)]) (t' := (0, 0, 6, [some (.ref 94)], [.ref 94, .int (0:Int32), .ref 110], pv_mm s T)) (by decide +kernel) rfl ?_
  refine pv_e_gr (i := 44) (ci := 6) (j := 17) (b := 105) (pc' := 9) (by decide +kernel) rfl rfl rfl ?_
  refine pv_e_bk (ps := [(9, .iconst 0, 1)]) (t' := (0, 0, 10, [some (.ref 94)], [.int (0:Int32), .ref 105, .int (0:Int32), .ref 110], pv_mm s T)) (by decide +kernel) rfl ?_
  obtain ⟨T2, e1, h⟩ := Option.bind_eq_some_iff.mp h
  refine pv_e_csv (d := d + 0) (i := 202) (z := 162) (np := 4) (ml := 5) (As := [.ref 110, .int (0:Int32), .ref 105, .int (0:Int32)]) (rs := []) (pc' := 13) (by decide +kernel) rfl rfl rfl (Nat.le_of_ble_eq_true rfl) (Nat.le_of_ble_eq_true rfl) rfl (ee162 (d + 0) 110 (0:Int32) 105 (0:Int32) (by decide) (by decide) e1) ?_
  obtain rfl := Option.some.inj h
  cases hr
  exact pv_e_rv (by decide +kernel)
def f170_lasts_b1 (v1 : Int32) (st : Int32 × pv_T) : Option ((Int32 × pv_T) ⊕ (Int32 × pv_T)) := match st with
  | (v2, T) =>
    (f142_lenOf v1 T).bind fun q13 =>
    if q13 ≤ 0 then
      some (.inr (v2, T))
    else
      (f156_comeOne v1 T).bind fun T16 =>
      some (.inl (v2 + (1:Int32), T16))
def f170_lasts_b1_H (xs : Nat → Int32) (L d : Nat) (r : Option Value × pv_M) (s : pv_F) (v1 : Int32) (st : Int32 × pv_T) : Prop := match st with
  | (v2, T) => pv_Ev xs L (d + 4) 170 (0, 0, 32, [some (.ref 94), some (.int v1), some (.int v2)], [], pv_mm s T) r
def f170_lasts_b1_X (xs : Nat → Int32) (L d : Nat) (r : Option Value × pv_M) (s : pv_F) (v1 : Int32) (st : Int32 × pv_T) : Prop := match st with
  | (v2, T) => pv_Ev xs L (d + 4) 170 (0, 0, 51, [some (.ref 94), some (.int v1), some (.int v2)], [], pv_mm s T) r
def f170_lasts (x1 : Int32) (T : pv_T) : Option (Int32 × pv_T) :=
  (f140_isOne x1 T).bind fun q2 =>
  if q2 = 0 then
    some ((-1:Int32), T)
  else
    (pv_rd T.1 101 7 x1).bind fun q4 =>
    if q4 = (3:Int32) then
      (f115_meet (4:Int32) T).bind fun (q8, T9) =>
      some (q8, T9)
    else
      (f168_putAside T).bind fun T11 =>
      (pv_lq (f170_lasts_b1 x1) 20000 ((0:Int32), T11)).bind fun (w17, T18) =>
      (f169_comeBack T18).bind fun T20 =>
      some (w17, T20)
theorem f170_lasts_b1_ok {xs : Nat → Int32} {L d : Nat} {r : Option Value × pv_M} {s : pv_F} {v1 : Int32} (st : Int32 × pv_T) (o : (Int32 × pv_T) ⊕ (Int32 × pv_T)) (h : f170_lasts_b1 v1 st = some o) (hK : pv_Kq (f170_lasts_b1_H xs L d r s v1) (f170_lasts_b1_X xs L d r s v1) o) : f170_lasts_b1_H xs L d r s v1 st := by
  obtain ⟨v2, T⟩ := st
  show pv_Ev xs L (d + 4) 170 (0, 0, 32, [some (.ref 94), some (.int v1), some (.int v2)], [], pv_mm s T) r
  unfold f170_lasts_b1 at h
  dsimp only at h
  refine pv_e_bk (ps := [(32, .aload_n 0, 1), (33, .iload_n 1, 1)]) (t' := (0, 0, 34, [some (.ref 94), some (.int v1), some (.int v2)], [.int v1, .ref 94], pv_mm s T)) (by decide +kernel) rfl ?_
  obtain ⟨q13, e12, h⟩ := Option.bind_eq_some_iff.mp h
  refine pv_e_cvi (d := d + 3) (i := 142) (z := 142) (np := 1) (ml := 2) (ci := 6) (As := [.int v1]) (rs := []) (pc' := 37) (by decide +kernel) rfl rfl rfl rfl (Nat.le_of_ble_eq_true rfl) (Nat.le_of_ble_eq_true rfl) rfl (ee142 (d + 3) v1 e12) ?_
  refine pv_e_ifle (off := 14) (b := 51) (pc' := 40) (by decide +kernel) (by decide +kernel) rfl (fun c14 => ?_) (fun c14 => ?_)
  · rw [if_pos c14] at h
    obtain rfl := Option.some.inj h
    exact hK
  · rw [if_neg c14] at h
    refine pv_e_bk (ps := [(40, .aload_n 0, 1), (41, .iload_n 1, 1)]) (t' := (0, 0, 42, [some (.ref 94), some (.int v1), some (.int v2)], [.int v1, .ref 94], pv_mm s T)) (by decide +kernel) rfl ?_
    obtain ⟨T16, e15, h⟩ := Option.bind_eq_some_iff.mp h
    refine pv_e_cvv (d := d + 3) (i := 189) (z := 156) (np := 1) (ml := 3) (ci := 6) (As := [.int v1]) (rs := []) (pc' := 45) (by decide +kernel) rfl rfl rfl rfl (Nat.le_of_ble_eq_true rfl) (Nat.le_of_ble_eq_true rfl) rfl (ee156 (d + 0) v1 e15) ?_
    refine pv_e_bk (ps := [(45, .iinc 2 1, 3), (48, .goto (-16), 3)]) (t' := (0, 0, 32, [some (.ref 94), some (.int v1), some (.int (v2 + (1:Int32)))], [], pv_mm s T16)) (by decide +kernel) rfl ?_
    obtain rfl := Option.some.inj h
    exact hK
theorem ee170 {xs : Nat → Int32} {L : Nat} (d : Nat) (x1 : Int32) {s : pv_F} {T : pv_T} {q : Int32 × pv_T}  (h : f170_lasts x1 T = some q) : pv_Ev xs L (d + 4) 170 (0, 0, 0, [some (.ref 94), some (.int x1), none], [], pv_mm s T) (some (.int q.1), pv_mm s q.2) := by
  generalize hr : ((some (.int q.1), pv_mm s q.2) : Option Value × pv_M) = r
  unfold f170_lasts at h
  refine pv_e_bk (ps := [(0, .aload_n 0, 1), (1, .iload_n 1, 1)]) (t' := (0, 0, 2, [some (.ref 94), some (.int x1), none], [.int x1, .ref 94], pv_mm s T)) (by decide +kernel) rfl ?_
  obtain ⟨q2, e1, h⟩ := Option.bind_eq_some_iff.mp h
  refine pv_e_cvi (d := d + 3) (i := 152) (z := 140) (np := 1) (ml := 2) (ci := 6) (As := [.int x1]) (rs := []) (pc' := 5) (by decide +kernel) rfl rfl rfl rfl (Nat.le_of_ble_eq_true rfl) (Nat.le_of_ble_eq_true rfl) rfl (ee140 (d + 2) x1 e1) ?_
  refine pv_e_ifne (off := 5) (b := 10) (pc' := 8) (by decide +kernel) (by decide +kernel) rfl (fun c3 => ?_) (fun c3 => ?_)
  · rw [if_pos c3] at h
    refine pv_e_bk (ps := [(8, .iconst (-1), 1)]) (t' := (0, 0, 9, [some (.ref 94), some (.int x1), none], [.int (-1:Int32)], pv_mm s T)) (by decide +kernel) rfl ?_
    obtain rfl := Option.some.inj h
    cases hr
    exact pv_e_ri (by decide +kernel)
  · rw [if_neg c3] at h
    refine pv_e_bk (ps := [(10, .aload_n 0, 1)]) (t' := (0, 0, 11, [some (.ref 94), some (.int x1), none], [.ref 94], pv_mm s T)) (by decide +kernel) rfl ?_
    refine pv_e_gr (i := 32) (ci := 6) (j := 11) (b := 101) (pc' := 14) (by decide +kernel) rfl rfl rfl ?_
    refine pv_e_bk (ps := [(14, .iload_n 1, 1)]) (t' := (0, 0, 15, [some (.ref 94), some (.int x1), none], [.int x1, .ref 101], pv_mm s T)) (by decide +kernel) rfl ?_
    obtain ⟨q4, e5, h⟩ := Option.bind_eq_some_iff.mp h
    refine pv_e_rm (pc' := 16) (by decide +kernel) (by decide) rfl e5 rfl ?_
    refine pv_e_bk (ps := [(16, .iconst 3, 1)]) (t' := (0, 0, 17, [some (.ref 94), some (.int x1), none], [.int (3:Int32), .int q4], pv_mm s T)) (by decide +kernel) rfl ?_
    refine pv_e_icmpne (off := 9) (b := 26) (pc' := 20) (by decide +kernel) (by decide +kernel) rfl (fun c6 => ?_) (fun c6 => ?_)
    · rw [if_pos c6] at h
      refine pv_e_bk (ps := [(20, .aload_n 0, 1), (21, .iconst 4, 1)]) (t' := (0, 0, 22, [some (.ref 94), some (.int x1), none], [.int (4:Int32), .ref 94], pv_mm s T)) (by decide +kernel) rfl ?_
      obtain ⟨⟨q8, T9⟩, e7, h⟩ := Option.bind_eq_some_iff.mp h
      dsimp only at h
      refine pv_e_cvi (d := d + 3) (i := 91) (z := 115) (np := 1) (ml := 2) (ci := 6) (As := [.int (4:Int32)]) (rs := []) (pc' := 25) (by decide +kernel) rfl rfl rfl rfl (Nat.le_of_ble_eq_true rfl) (Nat.le_of_ble_eq_true rfl) rfl (ee115 (d + 3) (4:Int32) e7) ?_
      obtain rfl := Option.some.inj h
      cases hr
      exact pv_e_ri (by decide +kernel)
    · rw [if_neg c6] at h
      refine pv_e_bk (ps := [(26, .aload_n 0, 1)]) (t' := (0, 0, 27, [some (.ref 94), some (.int x1), none], [.ref 94], pv_mm s T)) (by decide +kernel) rfl ?_
      obtain ⟨T11, e10, h⟩ := Option.bind_eq_some_iff.mp h
      refine pv_e_cvv (d := d + 3) (i := 206) (z := 168) (np := 0) (ml := 1) (ci := 6) (As := []) (rs := []) (pc' := 30) (by decide +kernel) rfl rfl rfl rfl (Nat.le_of_ble_eq_true rfl) (Nat.le_of_ble_eq_true rfl) rfl (ee168 (d + 2) e10) ?_
      refine pv_e_bk (ps := [(30, .iconst 0, 1), (31, .istore_n 2, 1)]) (t' := (0, 0, 32, [some (.ref 94), some (.int x1), some (.int (0:Int32))], [], pv_mm s T11)) (by decide +kernel) rfl ?_
      obtain ⟨⟨w17, T18⟩, e22, h⟩ := Option.bind_eq_some_iff.mp h
      dsimp only at h
      have hx21 : f170_lasts_b1_X xs L d r s x1 (w17, T18) := by
        show pv_Ev xs L (d + 4) 170 (0, 0, 51, [some (.ref 94), some (.int x1), some (.int w17)], [], pv_mm s T18) r
        refine pv_e_bk (ps := [(51, .aload_n 0, 1)]) (t' := (0, 0, 52, [some (.ref 94), some (.int x1), some (.int w17)], [.ref 94], pv_mm s T18)) (by decide +kernel) rfl ?_
        obtain ⟨T20, e19, h⟩ := Option.bind_eq_some_iff.mp h
        refine pv_e_cvv (d := d + 3) (i := 209) (z := 169) (np := 0) (ml := 1) (ci := 6) (As := []) (rs := []) (pc' := 55) (by decide +kernel) rfl rfl rfl rfl (Nat.le_of_ble_eq_true rfl) (Nat.le_of_ble_eq_true rfl) rfl (ee169 (d + 2) e19) ?_
        refine pv_e_bk (ps := [(55, .iload_n 2, 1)]) (t' := (0, 0, 56, [some (.ref 94), some (.int x1), some (.int w17)], [.int w17], pv_mm s T20)) (by decide +kernel) rfl ?_
        obtain rfl := Option.some.inj h
        cases hr
        exact pv_e_ri (by decide +kernel)
      exact pv_lq_ok (H := f170_lasts_b1_H xs L d r s x1) (X := f170_lasts_b1_X xs L d r s x1) (f170_lasts_b1_ok (xs := xs) (L := L) (d := d) (r := r) (s := s) (v1 := x1)) 20000 _ _ e22 hx21
def f171_becomes_b1 (v1 : Int32) (v2 : Int32) (st : Int32 × Int32 × pv_T) : Option ((Int32 × Int32 × pv_T) ⊕ (Int32 × Int32 × pv_T)) := match st with
  | (v3, v4, T) =>
    if v4 = 0 then
      (f142_lenOf v1 T).bind fun q16 =>
      if q16 ≤ 0 then
        some (.inr (v3, v4, T))
      else
        (f156_comeOne v1 T).bind fun T19 =>
        (f144_isLike v1 v2 T19).bind fun q21 =>
        some (.inl (v3 + (1:Int32), q21, T19))
    else
      some (.inr (v3, v4, T))
def f171_becomes_b1_H (xs : Nat → Int32) (L d : Nat) (r : Option Value × pv_M) (s : pv_F) (v1 : Int32) (v2 : Int32) (st : Int32 × Int32 × pv_T) : Prop := match st with
  | (v3, v4, T) => pv_Ev xs L (d + 4) 171 (0, 0, 41, [some (.ref 94), some (.int v1), some (.int v2), some (.int v3), some (.int v4)], [], pv_mm s T) r
def f171_becomes_b1_X (xs : Nat → Int32) (L d : Nat) (r : Option Value × pv_M) (s : pv_F) (v1 : Int32) (v2 : Int32) (st : Int32 × Int32 × pv_T) : Prop := match st with
  | (v3, v4, T) => pv_Ev xs L (d + 4) 171 (0, 0, 73, [some (.ref 94), some (.int v1), some (.int v2), some (.int v3), some (.int v4)], [], pv_mm s T) r
def f171_becomes (x1 : Int32) (x2 : Int32) (T : pv_T) : Option (Int32 × pv_T) :=
  (f159_areTwo x1 x2 T).bind fun q2 =>
  if q2 = 0 then
    some ((-1:Int32), T)
  else
    (pv_rd T.1 101 7 x1).bind fun q4 =>
    if q4 = (3:Int32) then
      (f115_meet (4:Int32) T).bind fun (q8, T9) =>
      some (q8, T9)
    else
      (f168_putAside T).bind fun T11 =>
      (f144_isLike x1 x2 T11).bind fun q13 =>
      (pv_lq (f171_becomes_b1 x1 x2) 20000 ((0:Int32), q13, T11)).bind fun (w22, w23, T24) =>
      (f169_comeBack T24).bind fun T26 =>
      ((
        if w23 = 0 then
          some (-9:Int32)
        else
          some w22) : Option (Int32)).bind fun t27 =>
      some (t27, T26)
theorem f171_becomes_b1_ok {xs : Nat → Int32} {L d : Nat} {r : Option Value × pv_M} {s : pv_F} {v1 : Int32} {v2 : Int32} (st : Int32 × Int32 × pv_T) (o : (Int32 × Int32 × pv_T) ⊕ (Int32 × Int32 × pv_T)) (h : f171_becomes_b1 v1 v2 st = some o) (hK : pv_Kq (f171_becomes_b1_H xs L d r s v1 v2) (f171_becomes_b1_X xs L d r s v1 v2) o) : f171_becomes_b1_H xs L d r s v1 v2 st := by
  obtain ⟨v3, v4, T⟩ := st
  show pv_Ev xs L (d + 4) 171 (0, 0, 41, [some (.ref 94), some (.int v1), some (.int v2), some (.int v3), some (.int v4)], [], pv_mm s T) r
  unfold f171_becomes_b1 at h
  dsimp only at h
  refine pv_e_bk (ps := [(41, .iload 4, 2)]) (t' := (0, 0, 43, [some (.ref 94), some (.int v1), some (.int v2), some (.int v3), some (.int v4)], [.int v4], pv_mm s T)) (by decide +kernel) rfl ?_
  refine pv_e_ifne (off := 30) (b := 73) (pc' := 46) (by decide +kernel) (by decide +kernel) rfl (fun c14 => ?_) (fun c14 => ?_)
  · rw [if_pos c14] at h
    refine pv_e_bk (ps := [(46, .aload_n 0, 1), (47, .iload_n 1, 1)]) (t' := (0, 0, 48, [some (.ref 94), some (.int v1), some (.int v2), some (.int v3), some (.int v4)], [.int v1, .ref 94], pv_mm s T)) (by decide +kernel) rfl ?_
    obtain ⟨q16, e15, h⟩ := Option.bind_eq_some_iff.mp h
    refine pv_e_cvi (d := d + 3) (i := 142) (z := 142) (np := 1) (ml := 2) (ci := 6) (As := [.int v1]) (rs := []) (pc' := 51) (by decide +kernel) rfl rfl rfl rfl (Nat.le_of_ble_eq_true rfl) (Nat.le_of_ble_eq_true rfl) rfl (ee142 (d + 3) v1 e15) ?_
    refine pv_e_ifle (off := 22) (b := 73) (pc' := 54) (by decide +kernel) (by decide +kernel) rfl (fun c17 => ?_) (fun c17 => ?_)
    · rw [if_pos c17] at h
      obtain rfl := Option.some.inj h
      exact hK
    · rw [if_neg c17] at h
      refine pv_e_bk (ps := [(54, .aload_n 0, 1), (55, .iload_n 1, 1)]) (t' := (0, 0, 56, [some (.ref 94), some (.int v1), some (.int v2), some (.int v3), some (.int v4)], [.int v1, .ref 94], pv_mm s T)) (by decide +kernel) rfl ?_
      obtain ⟨T19, e18, h⟩ := Option.bind_eq_some_iff.mp h
      refine pv_e_cvv (d := d + 3) (i := 189) (z := 156) (np := 1) (ml := 3) (ci := 6) (As := [.int v1]) (rs := []) (pc' := 59) (by decide +kernel) rfl rfl rfl rfl (Nat.le_of_ble_eq_true rfl) (Nat.le_of_ble_eq_true rfl) rfl (ee156 (d + 0) v1 e18) ?_
      refine pv_e_bk (ps := [(59, .iinc 3 1, 3), (62, .aload_n 0, 1), (63, .iload_n 1, 1), (64, .iload_n 2, 1)]) (t' := (0, 0, 65, [some (.ref 94), some (.int v1), some (.int v2), some (.int (v3 + (1:Int32))), some (.int v4)], [.int v2, .int v1, .ref 94], pv_mm s T19)) (by decide +kernel) rfl ?_
      obtain ⟨q21, e20, h⟩ := Option.bind_eq_some_iff.mp h
      refine pv_e_cvi (d := d + 3) (i := 148) (z := 144) (np := 2) (ml := 5) (ci := 6) (As := [.int v1, .int v2]) (rs := []) (pc' := 68) (by decide +kernel) rfl rfl rfl rfl (Nat.le_of_ble_eq_true rfl) (Nat.le_of_ble_eq_true rfl) rfl (ee144 (d + 2) v1 v2 e20) ?_
      refine pv_e_bk (ps := [(68, .istore 4, 2), (70, .goto (-29), 3)]) (t' := (0, 0, 41, [some (.ref 94), some (.int v1), some (.int v2), some (.int (v3 + (1:Int32))), some (.int q21)], [], pv_mm s T19)) (by decide +kernel) rfl ?_
      obtain rfl := Option.some.inj h
      exact hK
  · rw [if_neg c14] at h
    obtain rfl := Option.some.inj h
    exact hK
theorem ee171 {xs : Nat → Int32} {L : Nat} (d : Nat) (x1 : Int32) (x2 : Int32) {s : pv_F} {T : pv_T} {q : Int32 × pv_T}  (h : f171_becomes x1 x2 T = some q) : pv_Ev xs L (d + 4) 171 (0, 0, 0, [some (.ref 94), some (.int x1), some (.int x2), none, none], [], pv_mm s T) (some (.int q.1), pv_mm s q.2) := by
  generalize hr : ((some (.int q.1), pv_mm s q.2) : Option Value × pv_M) = r
  unfold f171_becomes at h
  refine pv_e_bk (ps := [(0, .aload_n 0, 1), (1, .iload_n 1, 1), (2, .iload_n 2, 1)]) (t' := (0, 0, 3, [some (.ref 94), some (.int x1), some (.int x2), none, none], [.int x2, .int x1, .ref 94], pv_mm s T)) (by decide +kernel) rfl ?_
  obtain ⟨q2, e1, h⟩ := Option.bind_eq_some_iff.mp h
  refine pv_e_cvi (d := d + 3) (i := 193) (z := 159) (np := 2) (ml := 3) (ci := 6) (As := [.int x1, .int x2]) (rs := []) (pc' := 6) (by decide +kernel) rfl rfl rfl rfl (Nat.le_of_ble_eq_true rfl) (Nat.le_of_ble_eq_true rfl) rfl (ee159 (d + 1) x1 x2 e1) ?_
  refine pv_e_ifne (off := 5) (b := 11) (pc' := 9) (by decide +kernel) (by decide +kernel) rfl (fun c3 => ?_) (fun c3 => ?_)
  · rw [if_pos c3] at h
    refine pv_e_bk (ps := [(9, .iconst (-1), 1)]) (t' := (0, 0, 10, [some (.ref 94), some (.int x1), some (.int x2), none, none], [.int (-1:Int32)], pv_mm s T)) (by decide +kernel) rfl ?_
    obtain rfl := Option.some.inj h
    cases hr
    exact pv_e_ri (by decide +kernel)
  · rw [if_neg c3] at h
    refine pv_e_bk (ps := [(11, .aload_n 0, 1)]) (t' := (0, 0, 12, [some (.ref 94), some (.int x1), some (.int x2), none, none], [.ref 94], pv_mm s T)) (by decide +kernel) rfl ?_
    refine pv_e_gr (i := 32) (ci := 6) (j := 11) (b := 101) (pc' := 15) (by decide +kernel) rfl rfl rfl ?_
    refine pv_e_bk (ps := [(15, .iload_n 1, 1)]) (t' := (0, 0, 16, [some (.ref 94), some (.int x1), some (.int x2), none, none], [.int x1, .ref 101], pv_mm s T)) (by decide +kernel) rfl ?_
    obtain ⟨q4, e5, h⟩ := Option.bind_eq_some_iff.mp h
    refine pv_e_rm (pc' := 17) (by decide +kernel) (by decide) rfl e5 rfl ?_
    refine pv_e_bk (ps := [(17, .iconst 3, 1)]) (t' := (0, 0, 18, [some (.ref 94), some (.int x1), some (.int x2), none, none], [.int (3:Int32), .int q4], pv_mm s T)) (by decide +kernel) rfl ?_
    refine pv_e_icmpne (off := 9) (b := 27) (pc' := 21) (by decide +kernel) (by decide +kernel) rfl (fun c6 => ?_) (fun c6 => ?_)
    · rw [if_pos c6] at h
      refine pv_e_bk (ps := [(21, .aload_n 0, 1), (22, .iconst 4, 1)]) (t' := (0, 0, 23, [some (.ref 94), some (.int x1), some (.int x2), none, none], [.int (4:Int32), .ref 94], pv_mm s T)) (by decide +kernel) rfl ?_
      obtain ⟨⟨q8, T9⟩, e7, h⟩ := Option.bind_eq_some_iff.mp h
      dsimp only at h
      refine pv_e_cvi (d := d + 3) (i := 91) (z := 115) (np := 1) (ml := 2) (ci := 6) (As := [.int (4:Int32)]) (rs := []) (pc' := 26) (by decide +kernel) rfl rfl rfl rfl (Nat.le_of_ble_eq_true rfl) (Nat.le_of_ble_eq_true rfl) rfl (ee115 (d + 3) (4:Int32) e7) ?_
      obtain rfl := Option.some.inj h
      cases hr
      exact pv_e_ri (by decide +kernel)
    · rw [if_neg c6] at h
      refine pv_e_bk (ps := [(27, .aload_n 0, 1)]) (t' := (0, 0, 28, [some (.ref 94), some (.int x1), some (.int x2), none, none], [.ref 94], pv_mm s T)) (by decide +kernel) rfl ?_
      obtain ⟨T11, e10, h⟩ := Option.bind_eq_some_iff.mp h
      refine pv_e_cvv (d := d + 3) (i := 206) (z := 168) (np := 0) (ml := 1) (ci := 6) (As := []) (rs := []) (pc' := 31) (by decide +kernel) rfl rfl rfl rfl (Nat.le_of_ble_eq_true rfl) (Nat.le_of_ble_eq_true rfl) rfl (ee168 (d + 2) e10) ?_
      refine pv_e_bk (ps := [(31, .iconst 0, 1), (32, .istore_n 3, 1), (33, .aload_n 0, 1), (34, .iload_n 1, 1), (35, .iload_n 2, 1)]) (t' := (0, 0, 36, [some (.ref 94), some (.int x1), some (.int x2), some (.int (0:Int32)), none], [.int x2, .int x1, .ref 94], pv_mm s T11)) (by decide +kernel) rfl ?_
      obtain ⟨q13, e12, h⟩ := Option.bind_eq_some_iff.mp h
      refine pv_e_cvi (d := d + 3) (i := 148) (z := 144) (np := 2) (ml := 5) (ci := 6) (As := [.int x1, .int x2]) (rs := []) (pc' := 39) (by decide +kernel) rfl rfl rfl rfl (Nat.le_of_ble_eq_true rfl) (Nat.le_of_ble_eq_true rfl) rfl (ee144 (d + 2) x1 x2 e12) ?_
      refine pv_e_bk (ps := [(39, .istore 4, 2)]) (t' := (0, 0, 41, [some (.ref 94), some (.int x1), some (.int x2), some (.int (0:Int32)), some (.int q13)], [], pv_mm s T11)) (by decide +kernel) rfl ?_
      obtain ⟨⟨w22, w23, T24⟩, e32, h⟩ := Option.bind_eq_some_iff.mp h
      dsimp only at h
      have hx31 : f171_becomes_b1_X xs L d r s x1 x2 (w22, w23, T24) := by
        show pv_Ev xs L (d + 4) 171 (0, 0, 73, [some (.ref 94), some (.int x1), some (.int x2), some (.int w22), some (.int w23)], [], pv_mm s T24) r
        refine pv_e_bk (ps := [(73, .aload_n 0, 1)]) (t' := (0, 0, 74, [some (.ref 94), some (.int x1), some (.int x2), some (.int w22), some (.int w23)], [.ref 94], pv_mm s T24)) (by decide +kernel) rfl ?_
        obtain ⟨T26, e25, h⟩ := Option.bind_eq_some_iff.mp h
        refine pv_e_cvv (d := d + 3) (i := 209) (z := 169) (np := 0) (ml := 1) (ci := 6) (As := []) (rs := []) (pc' := 77) (by decide +kernel) rfl rfl rfl rfl (Nat.le_of_ble_eq_true rfl) (Nat.le_of_ble_eq_true rfl) rfl (ee169 (d + 2) e25) ?_
        refine pv_e_bk (ps := [(77, .iload 4, 2)]) (t' := (0, 0, 79, [some (.ref 94), some (.int x1), some (.int x2), some (.int w22), some (.int w23)], [.int w23], pv_mm s T26)) (by decide +kernel) rfl ?_
        obtain ⟨t27, hv28, h⟩ := Option.bind_eq_some_iff.mp h
        have hJ29 : pv_Ev xs L (d + 4) 171 (0, 0, 88, [some (.ref 94), some (.int x1), some (.int x2), some (.int w22), some (.int w23)], [.int t27], pv_mm s T26) r := by
          obtain rfl := Option.some.inj h
          cases hr
          exact pv_e_ri (by decide +kernel)
        clear h
        have h := hv28
        clear hv28
        refine pv_e_ifeq (off := 7) (b := 86) (pc' := 82) (by decide +kernel) (by decide +kernel) rfl (fun c30 => ?_) (fun c30 => ?_)
        · rw [if_pos c30] at h
          refine pv_e_bk (ps := [(86, .bipush (-9), 2)]) (t' := (0, 0, 88, [some (.ref 94), some (.int x1), some (.int x2), some (.int w22), some (.int w23)], [.int (-9:Int32)], pv_mm s T26)) (by decide +kernel) rfl ?_
          obtain rfl := Option.some.inj h
          exact hJ29
        · rw [if_neg c30] at h
          refine pv_e_bk (ps := [(82, .iload_n 3, 1), (83, .goto 5, 3)]) (t' := (0, 0, 88, [some (.ref 94), some (.int x1), some (.int x2), some (.int w22), some (.int w23)], [.int w22], pv_mm s T26)) (by decide +kernel) rfl ?_
          obtain rfl := Option.some.inj h
          exact hJ29
      exact pv_lq_ok (H := f171_becomes_b1_H xs L d r s x1 x2) (X := f171_becomes_b1_X xs L d r s x1 x2) (f171_becomes_b1_ok (xs := xs) (L := L) (d := d) (r := r) (s := s) (v1 := x1) (v2 := x2)) 20000 _ _ e32 hx31
def f172_comeAll_b1 (st : Int32 × pv_T) : Option ((Int32 × pv_T) ⊕ (Int32 × pv_T)) := match st with
  | (v1, T) =>
    if (T.1 94 8) ≤ v1 then
      some (.inr (v1, T))
    else
      (pv_rd T.1 101 7 v1).bind fun q2 =>
      ((
        if q2 = (3:Int32) then
          some T
        else
          (f156_comeOne v1 T).bind fun T9 =>
          some T9) : Option (pv_T)).bind fun T4 =>
      some (.inl (v1 + (1:Int32), T4))
def f172_comeAll_b1_H (xs : Nat → Int32) (L d : Nat) (r : Option Value × pv_M) (s : pv_F) (st : Int32 × pv_T) : Prop := match st with
  | (v1, T) => pv_Ev xs L (d + 4) 172 (0, 0, 2, [some (.ref 94), some (.int v1)], [], pv_mm s T) r
def f172_comeAll_b1_X (xs : Nat → Int32) (L d : Nat) (r : Option Value × pv_M) (s : pv_F) (st : Int32 × pv_T) : Prop := match st with
  | (v1, T) => ∀ z1 : Option Value, pv_Ev xs L (d + 4) 172 (0, 0, 31, [some (.ref 94), z1], [], pv_mm s T) r
def f172_comeAll (T : pv_T) : Option (pv_T) :=
  (pv_lq (f172_comeAll_b1) 20000 ((0:Int32), T)).bind fun (w10, T11) =>
  some T11
theorem f172_comeAll_b1_ok {xs : Nat → Int32} {L d : Nat} {r : Option Value × pv_M} {s : pv_F} (st : Int32 × pv_T) (o : (Int32 × pv_T) ⊕ (Int32 × pv_T)) (h : f172_comeAll_b1 st = some o) (hK : pv_Kq (f172_comeAll_b1_H xs L d r s ) (f172_comeAll_b1_X xs L d r s ) o) : f172_comeAll_b1_H xs L d r s  st := by
  obtain ⟨v1, T⟩ := st
  show pv_Ev xs L (d + 4) 172 (0, 0, 2, [some (.ref 94), some (.int v1)], [], pv_mm s T) r
  unfold f172_comeAll_b1 at h
  dsimp only at h
  refine pv_e_bk (ps := [(2, .iload_n 1, 1), (3, .aload_n 0, 1)]) (t' := (0, 0, 4, [some (.ref 94), some (.int v1)], [.ref 94, .int v1], pv_mm s T)) (by decide +kernel) rfl ?_
  refine pv_e_gm (i := 136) (ci := 6) (j := 8) (pc' := 7) (by decide +kernel) (by decide) rfl rfl rfl ?_
  refine pv_e_icmpge (off := 24) (b := 31) (pc' := 10) (by decide +kernel) (by decide +kernel) rfl (fun c1 => ?_) (fun c1 => ?_)
  · rw [if_pos c1] at h
    obtain rfl := Option.some.inj h
    exact hK _
  · rw [if_neg c1] at h
    refine pv_e_bk (ps := [(10, .aload_n 0, 1)]) (t' := (0, 0, 11, [some (.ref 94), some (.int v1)], [.ref 94], pv_mm s T)) (by decide +kernel) rfl ?_
    refine pv_e_gr (i := 32) (ci := 6) (j := 11) (b := 101) (pc' := 14) (by decide +kernel) rfl rfl rfl ?_
    refine pv_e_bk (ps := [(14, .iload_n 1, 1)]) (t' := (0, 0, 15, [some (.ref 94), some (.int v1)], [.int v1, .ref 101], pv_mm s T)) (by decide +kernel) rfl ?_
    obtain ⟨q2, e3, h⟩ := Option.bind_eq_some_iff.mp h
    refine pv_e_rm (pc' := 16) (by decide +kernel) (by decide) rfl e3 rfl ?_
    refine pv_e_bk (ps := [(16, .iconst 3, 1)]) (t' := (0, 0, 17, [some (.ref 94), some (.int v1)], [.int (3:Int32), .int q2], pv_mm s T)) (by decide +kernel) rfl ?_
    obtain ⟨T4, hv5, h⟩ := Option.bind_eq_some_iff.mp h
    have hJ6 : pv_Ev xs L (d + 4) 172 (0, 0, 25, [some (.ref 94), some (.int v1)], [], pv_mm s T4) r := by
      refine pv_e_bk (ps := [(25, .iinc 1 1, 3), (28, .goto (-26), 3)]) (t' := (0, 0, 2, [some (.ref 94), some (.int (v1 + (1:Int32)))], [], pv_mm s T4)) (by decide +kernel) rfl ?_
      obtain rfl := Option.some.inj h
      exact hK
    clear h
    have h := hv5
    clear hv5
    refine pv_e_icmpeq (off := 8) (b := 25) (pc' := 20) (by decide +kernel) (by decide +kernel) rfl (fun c7 => ?_) (fun c7 => ?_)
    · rw [if_pos c7] at h
      obtain rfl := Option.some.inj h
      exact hJ6
    · rw [if_neg c7] at h
      refine pv_e_bk (ps := [(20, .aload_n 0, 1), (21, .iload_n 1, 1)]) (t' := (0, 0, 22, [some (.ref 94), some (.int v1)], [.int v1, .ref 94], pv_mm s T)) (by decide +kernel) rfl ?_
      obtain ⟨T9, e8, h⟩ := Option.bind_eq_some_iff.mp h
      refine pv_e_cvv (d := d + 3) (i := 189) (z := 156) (np := 1) (ml := 3) (ci := 6) (As := [.int v1]) (rs := []) (pc' := 25) (by decide +kernel) rfl rfl rfl rfl (Nat.le_of_ble_eq_true rfl) (Nat.le_of_ble_eq_true rfl) rfl (ee156 (d + 0) v1 e8) ?_
      obtain rfl := Option.some.inj h
      exact hJ6
theorem ee172 {xs : Nat → Int32} {L : Nat} (d : Nat)  {s : pv_F} {T : pv_T} {q : pv_T}  (h : f172_comeAll T = some q) : pv_Ev xs L (d + 4) 172 (0, 0, 0, [some (.ref 94), none], [], pv_mm s T) (none, pv_mm s q) := by
  generalize hr : ((none, pv_mm s q) : Option Value × pv_M) = r
  unfold f172_comeAll at h
  refine pv_e_bk (ps := [(0, .iconst 0, 1), (1, .istore_n 1, 1)]) (t' := (0, 0, 2, [some (.ref 94), some (.int (0:Int32))], [], pv_mm s T)) (by decide +kernel) rfl ?_
  obtain ⟨⟨w10, T11⟩, e13, h⟩ := Option.bind_eq_some_iff.mp h
  dsimp only at h
  have hx12 : f172_comeAll_b1_X xs L d r s (w10, T11) := by
    show ∀ z1 : Option Value, pv_Ev xs L (d + 4) 172 (0, 0, 31, [some (.ref 94), z1], [], pv_mm s T11) r
    intro z1
    obtain rfl := Option.some.inj h
    cases hr
    exact pv_e_rv (by decide +kernel)
  exact pv_lq_ok (H := f172_comeAll_b1_H xs L d r s) (X := f172_comeAll_b1_X xs L d r s) (f172_comeAll_b1_ok (xs := xs) (L := L) (d := d) (r := r) (s := s)) 20000 _ _ e13 hx12
def f173_unlikeNow_b2 (v1 : Int32) (v2 : Int32) (T : pv_T) (st : Int32 × Int32) : Option ((Int32 × Int32) ⊕ (Int32 × Int32)) := match st with
  | (v4, v5) =>
    if v2 ≤ v5 then
      some (.inr (v4, v5))
    else
      ((
        if v4 = 0 then
          some (0:Int32)
        else
          (pv_rd T.1 101 7 v5).bind fun q16 =>
          if q16 = (3:Int32) then
            some (1:Int32)
          else
            (f144_isLike v2 v5 T).bind fun q20 =>
            if q20 = 0 then
              some (1:Int32)
            else
              some (0:Int32)) : Option (Int32)).bind fun t12 =>
      some (.inl (t12, v5 + (1:Int32)))
def f173_unlikeNow_b2_H (xs : Nat → Int32) (L d : Nat) (r : Option Value × pv_M) (s : pv_F) (v1 : Int32) (v2 : Int32) (T : pv_T) (v3 : Int32) (st : Int32 × Int32) : Prop := match st with
  | (v4, v5) => pv_Ev xs L (d + 2) 173 (0, 0, 81, [some (.ref 94), some (.int v1), some (.int v2), some (.int v3), some (.int v4), some (.int v5)], [], pv_mm s T) r
def f173_unlikeNow_b2_X (xs : Nat → Int32) (L d : Nat) (r : Option Value × pv_M) (s : pv_F) (v1 : Int32) (v2 : Int32) (T : pv_T) (v3 : Int32) (st : Int32 × Int32) : Prop := match st with
  | (v4, v5) => ∀ z5 : Option Value, pv_Ev xs L (d + 2) 173 (0, 0, 126, [some (.ref 94), some (.int v1), some (.int v2), some (.int v3), some (.int v4), z5], [], pv_mm s T) r
def f173_unlikeNow_b1 (st : Int32 × Int32 × pv_T) : Option ((Int32 × Int32 × pv_T) ⊕ (Int32 × Int32 × pv_T)) := match st with
  | (v1, v2, T) =>
    if (T.1 94 8) ≤ v2 then
      some (.inr (v1, v2, T))
    else
      (pv_rd T.1 101 7 v2).bind fun q4 =>
      ((
        if q4 = (3:Int32) then
          some (0:Int32)
        else
          some (1:Int32)) : Option (Int32)).bind fun t6 =>
      ((
        if t6 = 0 then
          some (0:Int32)
        else
          (f142_lenOf v2 T).bind fun q40 =>
          if q40 ≤ 0 then
            some (0:Int32)
          else
            some (1:Int32)) : Option (Int32)).bind fun t7 =>
      ((
        if t6 = 0 then
          some (0:Int32)
        else
          (f142_lenOf v2 T).bind fun q34 =>
          if q34 = 0 then
            some (1:Int32)
          else
            some (0:Int32)) : Option (Int32)).bind fun t8 =>
      (pv_pm T 94 24 ((T.1 94 24) + t8)).bind fun T9 =>
      (pv_lq (f173_unlikeNow_b2 v1 v2 T9) 20000 (t7, (0:Int32))).bind fun (w22, w23) =>
      ((
        if w22 = 0 then
          some (0:Int32)
        else
          some (1:Int32)) : Option (Int32)).bind fun t24 =>
      some (.inl (v1 + t24, v2 + (1:Int32), T9))
def f173_unlikeNow_b1_H (xs : Nat → Int32) (L d : Nat) (r : Option Value × pv_M) (s : pv_F) (st : Int32 × Int32 × pv_T) : Prop := match st with
  | (v1, v2, T) => ∀ z3 : Option Value, ∀ z4 : Option Value, ∀ z5 : Option Value, pv_Ev xs L (d + 2) 173 (0, 0, 9, [some (.ref 94), some (.int v1), some (.int v2), z3, z4, z5], [], pv_mm s T) r
def f173_unlikeNow_b1_X (xs : Nat → Int32) (L d : Nat) (r : Option Value × pv_M) (s : pv_F) (st : Int32 × Int32 × pv_T) : Prop := match st with
  | (v1, v2, T) => ∀ z2 : Option Value, ∀ z3 : Option Value, ∀ z4 : Option Value, ∀ z5 : Option Value, pv_Ev xs L (d + 2) 173 (0, 0, 145, [some (.ref 94), some (.int v1), z2, z3, z4, z5], [], pv_mm s T) r
def f173_unlikeNow (T : pv_T) : Option (Int32 × pv_T) :=
  (pv_pm T 94 24 (0:Int32)).bind fun T1 =>
  (pv_lq (f173_unlikeNow_b1) 20000 ((0:Int32), (0:Int32), T1)).bind fun (w45, w46, T47) =>
  some (w45, T47)
theorem f173_unlikeNow_b2_ok {xs : Nat → Int32} {L d : Nat} {r : Option Value × pv_M} {s : pv_F} {v1 : Int32} {v2 : Int32} {T : pv_T} {v3 : Int32} (st : Int32 × Int32) (o : (Int32 × Int32) ⊕ (Int32 × Int32)) (h : f173_unlikeNow_b2 v1 v2 T st = some o) (hK : pv_Kq (f173_unlikeNow_b2_H xs L d r s v1 v2 T v3) (f173_unlikeNow_b2_X xs L d r s v1 v2 T v3) o) : f173_unlikeNow_b2_H xs L d r s v1 v2 T v3 st := by
  obtain ⟨v4, v5⟩ := st
  show pv_Ev xs L (d + 2) 173 (0, 0, 81, [some (.ref 94), some (.int v1), some (.int v2), some (.int v3), some (.int v4), some (.int v5)], [], pv_mm s T) r
  unfold f173_unlikeNow_b2 at h
  dsimp only at h
  refine pv_e_bk (ps := [(81, .iload 5, 2), (83, .iload_n 2, 1)]) (t' := (0, 0, 84, [some (.ref 94), some (.int v1), some (.int v2), some (.int v3), some (.int v4), some (.int v5)], [.int v2, .int v5], pv_mm s T)) (by decide +kernel) rfl ?_
  refine pv_e_icmpge (off := 42) (b := 126) (pc' := 87) (by decide +kernel) (by decide +kernel) rfl (fun c11 => ?_) (fun c11 => ?_)
  · rw [if_pos c11] at h
    obtain rfl := Option.some.inj h
    exact hK _
  · rw [if_neg c11] at h
    refine pv_e_bk (ps := [(87, .iload 4, 2)]) (t' := (0, 0, 89, [some (.ref 94), some (.int v1), some (.int v2), some (.int v3), some (.int v4), some (.int v5)], [.int v4], pv_mm s T)) (by decide +kernel) rfl ?_
    obtain ⟨t12, hv13, h⟩ := Option.bind_eq_some_iff.mp h
    have hJ14 : pv_Ev xs L (d + 2) 173 (0, 0, 118, [some (.ref 94), some (.int v1), some (.int v2), some (.int v3), some (.int v4), some (.int v5)], [.int t12], pv_mm s T) r := by
      refine pv_e_bk (ps := [(118, .istore 4, 2), (120, .iinc 5 1, 3), (123, .goto (-42), 3)]) (t' := (0, 0, 81, [some (.ref 94), some (.int v1), some (.int v2), some (.int v3), some (.int t12), some (.int (v5 + (1:Int32)))], [], pv_mm s T)) (by decide +kernel) rfl ?_
      obtain rfl := Option.some.inj h
      exact hK
    clear h
    have h := hv13
    clear hv13
    refine pv_e_ifeq (off := 28) (b := 117) (pc' := 92) (by decide +kernel) (by decide +kernel) rfl (fun c15 => ?_) (fun c15 => ?_)
    · rw [if_pos c15] at h
      refine pv_e_bk (ps := [(117, .iconst 0, 1)]) (t' := (0, 0, 118, [some (.ref 94), some (.int v1), some (.int v2), some (.int v3), some (.int v4), some (.int v5)], [.int (0:Int32)], pv_mm s T)) (by decide +kernel) rfl ?_
      obtain rfl := Option.some.inj h
      exact hJ14
    · rw [if_neg c15] at h
      refine pv_e_bk (ps := [(92, .aload_n 0, 1)]) (t' := (0, 0, 93, [some (.ref 94), some (.int v1), some (.int v2), some (.int v3), some (.int v4), some (.int v5)], [.ref 94], pv_mm s T)) (by decide +kernel) rfl ?_
      refine pv_e_gr (i := 32) (ci := 6) (j := 11) (b := 101) (pc' := 96) (by decide +kernel) rfl rfl rfl ?_
      refine pv_e_bk (ps := [(96, .iload 5, 2)]) (t' := (0, 0, 98, [some (.ref 94), some (.int v1), some (.int v2), some (.int v3), some (.int v4), some (.int v5)], [.int v5, .ref 101], pv_mm s T)) (by decide +kernel) rfl ?_
      obtain ⟨q16, e17, h⟩ := Option.bind_eq_some_iff.mp h
      refine pv_e_rm (pc' := 99) (by decide +kernel) (by decide) rfl e17 rfl ?_
      refine pv_e_bk (ps := [(99, .iconst 3, 1)]) (t' := (0, 0, 100, [some (.ref 94), some (.int v1), some (.int v2), some (.int v3), some (.int v4), some (.int v5)], [.int (3:Int32), .int q16], pv_mm s T)) (by decide +kernel) rfl ?_
      refine pv_e_icmpeq (off := 13) (b := 113) (pc' := 103) (by decide +kernel) (by decide +kernel) rfl (fun c18 => ?_) (fun c18 => ?_)
      · rw [if_pos c18] at h
        refine pv_e_bk (ps := [(113, .iconst 1, 1), (114, .goto 4, 3)]) (t' := (0, 0, 118, [some (.ref 94), some (.int v1), some (.int v2), some (.int v3), some (.int v4), some (.int v5)], [.int (1:Int32)], pv_mm s T)) (by decide +kernel) rfl ?_
        obtain rfl := Option.some.inj h
        exact hJ14
      · rw [if_neg c18] at h
        refine pv_e_bk (ps := [(103, .aload_n 0, 1), (104, .iload_n 2, 1), (105, .iload 5, 2)]) (t' := (0, 0, 107, [some (.ref 94), some (.int v1), some (.int v2), some (.int v3), some (.int v4), some (.int v5)], [.int v5, .int v2, .ref 94], pv_mm s T)) (by decide +kernel) rfl ?_
        obtain ⟨q20, e19, h⟩ := Option.bind_eq_some_iff.mp h
        refine pv_e_cvi (d := d + 1) (i := 148) (z := 144) (np := 2) (ml := 5) (ci := 6) (As := [.int v2, .int v5]) (rs := []) (pc' := 110) (by decide +kernel) rfl rfl rfl rfl (Nat.le_of_ble_eq_true rfl) (Nat.le_of_ble_eq_true rfl) rfl (ee144 (d + 0) v2 v5 e19) ?_
        refine pv_e_ifne (off := 7) (b := 117) (pc' := 113) (by decide +kernel) (by decide +kernel) rfl (fun c21 => ?_) (fun c21 => ?_)
        · rw [if_pos c21] at h
          refine pv_e_bk (ps := [(113, .iconst 1, 1), (114, .goto 4, 3)]) (t' := (0, 0, 118, [some (.ref 94), some (.int v1), some (.int v2), some (.int v3), some (.int v4), some (.int v5)], [.int (1:Int32)], pv_mm s T)) (by decide +kernel) rfl ?_
          obtain rfl := Option.some.inj h
          exact hJ14
        · rw [if_neg c21] at h
          refine pv_e_bk (ps := [(117, .iconst 0, 1)]) (t' := (0, 0, 118, [some (.ref 94), some (.int v1), some (.int v2), some (.int v3), some (.int v4), some (.int v5)], [.int (0:Int32)], pv_mm s T)) (by decide +kernel) rfl ?_
          obtain rfl := Option.some.inj h
          exact hJ14
theorem f173_unlikeNow_b1_ok {xs : Nat → Int32} {L d : Nat} {r : Option Value × pv_M} {s : pv_F} (st : Int32 × Int32 × pv_T) (o : (Int32 × Int32 × pv_T) ⊕ (Int32 × Int32 × pv_T)) (h : f173_unlikeNow_b1 st = some o) (hK : pv_Kq (f173_unlikeNow_b1_H xs L d r s ) (f173_unlikeNow_b1_X xs L d r s ) o) : f173_unlikeNow_b1_H xs L d r s  st := by
  obtain ⟨v1, v2, T⟩ := st
  show ∀ z3 : Option Value, ∀ z4 : Option Value, ∀ z5 : Option Value, pv_Ev xs L (d + 2) 173 (0, 0, 9, [some (.ref 94), some (.int v1), some (.int v2), z3, z4, z5], [], pv_mm s T) r
  intro z3 z4 z5
  unfold f173_unlikeNow_b1 at h
  dsimp only at h
  refine pv_e_bk (ps := [(9, .iload_n 2, 1), (10, .aload_n 0, 1)]) (t' := (0, 0, 11, [some (.ref 94), some (.int v1), some (.int v2), z3, z4, z5], [.ref 94, .int v2], pv_mm s T)) (by decide +kernel) rfl ?_
  refine pv_e_gm (i := 136) (ci := 6) (j := 8) (pc' := 14) (by decide +kernel) (by decide) rfl rfl rfl ?_
  refine pv_e_icmpge (off := 131) (b := 145) (pc' := 17) (by decide +kernel) (by decide +kernel) rfl (fun c3 => ?_) (fun c3 => ?_)
  · rw [if_pos c3] at h
    obtain rfl := Option.some.inj h
    exact hK _ _ _ _
  · rw [if_neg c3] at h
    refine pv_e_bk (ps := [(17, .aload_n 0, 1)]) (t' := (0, 0, 18, [some (.ref 94), some (.int v1), some (.int v2), z3, z4, z5], [.ref 94], pv_mm s T)) (by decide +kernel) rfl ?_
    refine pv_e_gr (i := 32) (ci := 6) (j := 11) (b := 101) (pc' := 21) (by decide +kernel) rfl rfl rfl ?_
    refine pv_e_bk (ps := [(21, .iload_n 2, 1)]) (t' := (0, 0, 22, [some (.ref 94), some (.int v1), some (.int v2), z3, z4, z5], [.int v2, .ref 101], pv_mm s T)) (by decide +kernel) rfl ?_
    obtain ⟨q4, e5, h⟩ := Option.bind_eq_some_iff.mp h
    refine pv_e_rm (pc' := 23) (by decide +kernel) (by decide) rfl e5 rfl ?_
    refine pv_e_bk (ps := [(23, .iconst 3, 1)]) (t' := (0, 0, 24, [some (.ref 94), some (.int v1), some (.int v2), z3, z4, z5], [.int (3:Int32), .int q4], pv_mm s T)) (by decide +kernel) rfl ?_
    obtain ⟨t6, hv42, h⟩ := Option.bind_eq_some_iff.mp h
    have hJ43 : pv_Ev xs L (d + 2) 173 (0, 0, 32, [some (.ref 94), some (.int v1), some (.int v2), z3, z4, z5], [.int t6], pv_mm s T) r := by
      refine pv_e_bk (ps := [(32, .istore_n 3, 1), (33, .iload_n 3, 1)]) (t' := (0, 0, 34, [some (.ref 94), some (.int v1), some (.int v2), some (.int t6), z4, z5], [.int t6], pv_mm s T)) (by decide +kernel) rfl ?_
      obtain ⟨t7, hv36, h⟩ := Option.bind_eq_some_iff.mp h
      have hJ37 : pv_Ev xs L (d + 2) 173 (0, 0, 50, [some (.ref 94), some (.int v1), some (.int v2), some (.int t6), z4, z5], [.int t7], pv_mm s T) r := by
        refine pv_e_bk (ps := [(50, .istore 4, 2), (52, .aload_n 0, 1), (53, .dup, 1)]) (t' := (0, 0, 54, [some (.ref 94), some (.int v1), some (.int v2), some (.int t6), some (.int t7), z5], [.ref 94, .ref 94], pv_mm s T)) (by decide +kernel) rfl ?_
        refine pv_e_gm (i := 212) (ci := 6) (j := 24) (pc' := 57) (by decide +kernel) (by decide) rfl rfl rfl ?_
        refine pv_e_bk (ps := [(57, .iload_n 3, 1)]) (t' := (0, 0, 58, [some (.ref 94), some (.int v1), some (.int v2), some (.int t6), some (.int t7), z5], [.int t6, .int (T.1 94 24), .ref 94], pv_mm s T)) (by decide +kernel) rfl ?_
        obtain ⟨t8, hv30, h⟩ := Option.bind_eq_some_iff.mp h
        have hJ31 : pv_Ev xs L (d + 2) 173 (0, 0, 74, [some (.ref 94), some (.int v1), some (.int v2), some (.int t6), some (.int t7), z5], [.int t8, .int (T.1 94 24), .ref 94], pv_mm s T) r := by
          refine pv_e_bk (ps := [(74, .iadd, 1)]) (t' := (0, 0, 75, [some (.ref 94), some (.int v1), some (.int v2), some (.int t6), some (.int t7), z5], [.int ((T.1 94 24) + t8), .ref 94], pv_mm s T)) (by decide +kernel) rfl ?_
          obtain ⟨T9, e10, h⟩ := Option.bind_eq_some_iff.mp h
          refine pv_e_pms (i := 212) (ci := 6) (j := 24) (pc' := 78) (by decide +kernel) rfl rfl (by decide) rfl rfl e10 rfl ?_
          refine pv_e_bk (ps := [(78, .iconst 0, 1), (79, .istore 5, 2)]) (t' := (0, 0, 81, [some (.ref 94), some (.int v1), some (.int v2), some (.int t6), some (.int t7), some (.int (0:Int32))], [], pv_mm s T9)) (by decide +kernel) rfl ?_
          obtain ⟨⟨w22, w23⟩, e29, h⟩ := Option.bind_eq_some_iff.mp h
          dsimp only at h
          have hx28 : f173_unlikeNow_b2_X xs L d r s v1 v2 T9 t6 (w22, w23) := by
            show ∀ z5 : Option Value, pv_Ev xs L (d + 2) 173 (0, 0, 126, [some (.ref 94), some (.int v1), some (.int v2), some (.int t6), some (.int w22), z5], [], pv_mm s T9) r
            intro z5
            refine pv_e_bk (ps := [(126, .iload_n 1, 1), (127, .iload 4, 2)]) (t' := (0, 0, 129, [some (.ref 94), some (.int v1), some (.int v2), some (.int t6), some (.int w22), z5], [.int w22, .int v1], pv_mm s T9)) (by decide +kernel) rfl ?_
            obtain ⟨t24, hv25, h⟩ := Option.bind_eq_some_iff.mp h
            have hJ26 : pv_Ev xs L (d + 2) 173 (0, 0, 137, [some (.ref 94), some (.int v1), some (.int v2), some (.int t6), some (.int w22), z5], [.int t24, .int v1], pv_mm s T9) r := by
              refine pv_e_bk (ps := [(137, .iadd, 1), (138, .istore_n 1, 1), (139, .iinc 2 1, 3), (142, .goto (-133), 3)]) (t' := (0, 0, 9, [some (.ref 94), some (.int (v1 + t24)), some (.int (v2 + (1:Int32))), some (.int t6), some (.int w22), z5], [], pv_mm s T9)) (by decide +kernel) rfl ?_
              obtain rfl := Option.some.inj h
              exact hK _ _ _
            clear h
            have h := hv25
            clear hv25
            refine pv_e_ifeq (off := 7) (b := 136) (pc' := 132) (by decide +kernel) (by decide +kernel) rfl (fun c27 => ?_) (fun c27 => ?_)
            · rw [if_pos c27] at h
              refine pv_e_bk (ps := [(136, .iconst 0, 1)]) (t' := (0, 0, 137, [some (.ref 94), some (.int v1), some (.int v2), some (.int t6), some (.int w22), z5], [.int (0:Int32), .int v1], pv_mm s T9)) (by decide +kernel) rfl ?_
              obtain rfl := Option.some.inj h
              exact hJ26
            · rw [if_neg c27] at h
              refine pv_e_bk (ps := [(132, .iconst 1, 1), (133, .goto 4, 3)]) (t' := (0, 0, 137, [some (.ref 94), some (.int v1), some (.int v2), some (.int t6), some (.int w22), z5], [.int (1:Int32), .int v1], pv_mm s T9)) (by decide +kernel) rfl ?_
              obtain rfl := Option.some.inj h
              exact hJ26
          exact pv_lq_ok (H := f173_unlikeNow_b2_H xs L d r s v1 v2 T9 t6) (X := f173_unlikeNow_b2_X xs L d r s v1 v2 T9 t6) (f173_unlikeNow_b2_ok (xs := xs) (L := L) (d := d) (r := r) (s := s) (v1 := v1) (v2 := v2) (T := T9) (v3 := t6)) 20000 _ _ e29 hx28
        clear h
        have h := hv30
        clear hv30
        refine pv_e_ifeq (off := 15) (b := 73) (pc' := 61) (by decide +kernel) (by decide +kernel) rfl (fun c32 => ?_) (fun c32 => ?_)
        · rw [if_pos c32] at h
          refine pv_e_bk (ps := [(73, .iconst 0, 1)]) (t' := (0, 0, 74, [some (.ref 94), some (.int v1), some (.int v2), some (.int t6), some (.int t7), z5], [.int (0:Int32), .int (T.1 94 24), .ref 94], pv_mm s T)) (by decide +kernel) rfl ?_
          obtain rfl := Option.some.inj h
          exact hJ31
        · rw [if_neg c32] at h
          refine pv_e_bk (ps := [(61, .aload_n 0, 1), (62, .iload_n 2, 1)]) (t' := (0, 0, 63, [some (.ref 94), some (.int v1), some (.int v2), some (.int t6), some (.int t7), z5], [.int v2, .ref 94, .int (T.1 94 24), .ref 94], pv_mm s T)) (by decide +kernel) rfl ?_
          obtain ⟨q34, e33, h⟩ := Option.bind_eq_some_iff.mp h
          refine pv_e_cvi (d := d + 1) (i := 142) (z := 142) (np := 1) (ml := 2) (ci := 6) (As := [.int v2]) (rs := [.int (T.1 94 24), .ref 94]) (pc' := 66) (by decide +kernel) rfl rfl rfl rfl (Nat.le_of_ble_eq_true rfl) (Nat.le_of_ble_eq_true rfl) rfl (ee142 (d + 1) v2 e33) ?_
          refine pv_e_ifne (off := 7) (b := 73) (pc' := 69) (by decide +kernel) (by decide +kernel) rfl (fun c35 => ?_) (fun c35 => ?_)
          · rw [if_pos c35] at h
            refine pv_e_bk (ps := [(69, .iconst 1, 1), (70, .goto 4, 3)]) (t' := (0, 0, 74, [some (.ref 94), some (.int v1), some (.int v2), some (.int t6), some (.int t7), z5], [.int (1:Int32), .int (T.1 94 24), .ref 94], pv_mm s T)) (by decide +kernel) rfl ?_
            obtain rfl := Option.some.inj h
            exact hJ31
          · rw [if_neg c35] at h
            refine pv_e_bk (ps := [(73, .iconst 0, 1)]) (t' := (0, 0, 74, [some (.ref 94), some (.int v1), some (.int v2), some (.int t6), some (.int t7), z5], [.int (0:Int32), .int (T.1 94 24), .ref 94], pv_mm s T)) (by decide +kernel) rfl ?_
            obtain rfl := Option.some.inj h
            exact hJ31
      clear h
      have h := hv36
      clear hv36
      refine pv_e_ifeq (off := 15) (b := 49) (pc' := 37) (by decide +kernel) (by decide +kernel) rfl (fun c38 => ?_) (fun c38 => ?_)
      · rw [if_pos c38] at h
        refine pv_e_bk (ps := [(49, .iconst 0, 1)]) (t' := (0, 0, 50, [some (.ref 94), some (.int v1), some (.int v2), some (.int t6), z4, z5], [.int (0:Int32)], pv_mm s T)) (by decide +kernel) rfl ?_
        obtain rfl := Option.some.inj h
        exact hJ37
      · rw [if_neg c38] at h
        refine pv_e_bk (ps := [(37, .aload_n 0, 1), (38, .iload_n 2, 1)]) (t' := (0, 0, 39, [some (.ref 94), some (.int v1), some (.int v2), some (.int t6), z4, z5], [.int v2, .ref 94], pv_mm s T)) (by decide +kernel) rfl ?_
        obtain ⟨q40, e39, h⟩ := Option.bind_eq_some_iff.mp h
        refine pv_e_cvi (d := d + 1) (i := 142) (z := 142) (np := 1) (ml := 2) (ci := 6) (As := [.int v2]) (rs := []) (pc' := 42) (by decide +kernel) rfl rfl rfl rfl (Nat.le_of_ble_eq_true rfl) (Nat.le_of_ble_eq_true rfl) rfl (ee142 (d + 1) v2 e39) ?_
        refine pv_e_ifle (off := 7) (b := 49) (pc' := 45) (by decide +kernel) (by decide +kernel) rfl (fun c41 => ?_) (fun c41 => ?_)
        · rw [if_pos c41] at h
          refine pv_e_bk (ps := [(49, .iconst 0, 1)]) (t' := (0, 0, 50, [some (.ref 94), some (.int v1), some (.int v2), some (.int t6), z4, z5], [.int (0:Int32)], pv_mm s T)) (by decide +kernel) rfl ?_
          obtain rfl := Option.some.inj h
          exact hJ37
        · rw [if_neg c41] at h
          refine pv_e_bk (ps := [(45, .iconst 1, 1), (46, .goto 4, 3)]) (t' := (0, 0, 50, [some (.ref 94), some (.int v1), some (.int v2), some (.int t6), z4, z5], [.int (1:Int32)], pv_mm s T)) (by decide +kernel) rfl ?_
          obtain rfl := Option.some.inj h
          exact hJ37
    clear h
    have h := hv42
    clear hv42
    refine pv_e_icmpeq (off := 7) (b := 31) (pc' := 27) (by decide +kernel) (by decide +kernel) rfl (fun c44 => ?_) (fun c44 => ?_)
    · rw [if_pos c44] at h
      refine pv_e_bk (ps := [(31, .iconst 0, 1)]) (t' := (0, 0, 32, [some (.ref 94), some (.int v1), some (.int v2), z3, z4, z5], [.int (0:Int32)], pv_mm s T)) (by decide +kernel) rfl ?_
      obtain rfl := Option.some.inj h
      exact hJ43
    · rw [if_neg c44] at h
      refine pv_e_bk (ps := [(27, .iconst 1, 1), (28, .goto 4, 3)]) (t' := (0, 0, 32, [some (.ref 94), some (.int v1), some (.int v2), z3, z4, z5], [.int (1:Int32)], pv_mm s T)) (by decide +kernel) rfl ?_
      obtain rfl := Option.some.inj h
      exact hJ43
theorem ee173 {xs : Nat → Int32} {L : Nat} (d : Nat)  {s : pv_F} {T : pv_T} {q : Int32 × pv_T}  (h : f173_unlikeNow T = some q) : pv_Ev xs L (d + 2) 173 (0, 0, 0, [some (.ref 94), none, none, none, none, none], [], pv_mm s T) (some (.int q.1), pv_mm s q.2) := by
  generalize hr : ((some (.int q.1), pv_mm s q.2) : Option Value × pv_M) = r
  unfold f173_unlikeNow at h
  refine pv_e_bk (ps := [(0, .iconst 0, 1), (1, .istore_n 1, 1), (2, .aload_n 0, 1), (3, .iconst 0, 1)]) (t' := (0, 0, 4, [some (.ref 94), some (.int (0:Int32)), none, none, none, none], [.int (0:Int32), .ref 94], pv_mm s T)) (by decide +kernel) rfl ?_
  obtain ⟨T1, e2, h⟩ := Option.bind_eq_some_iff.mp h
  refine pv_e_pms (i := 212) (ci := 6) (j := 24) (pc' := 7) (by decide +kernel) rfl rfl (by decide) rfl rfl e2 rfl ?_
  refine pv_e_bk (ps := [(7, .iconst 0, 1), (8, .istore_n 2, 1)]) (t' := (0, 0, 9, [some (.ref 94), some (.int (0:Int32)), some (.int (0:Int32)), none, none, none], [], pv_mm s T1)) (by decide +kernel) rfl ?_
  obtain ⟨⟨w45, w46, T47⟩, e49, h⟩ := Option.bind_eq_some_iff.mp h
  dsimp only at h
  have hx48 : f173_unlikeNow_b1_X xs L d r s (w45, w46, T47) := by
    show ∀ z2 : Option Value, ∀ z3 : Option Value, ∀ z4 : Option Value, ∀ z5 : Option Value, pv_Ev xs L (d + 2) 173 (0, 0, 145, [some (.ref 94), some (.int w45), z2, z3, z4, z5], [], pv_mm s T47) r
    intro z2 z3 z4 z5
    refine pv_e_bk (ps := [(145, .iload_n 1, 1)]) (t' := (0, 0, 146, [some (.ref 94), some (.int w45), z2, z3, z4, z5], [.int w45], pv_mm s T47)) (by decide +kernel) rfl ?_
    obtain rfl := Option.some.inj h
    cases hr
    exact pv_e_ri (by decide +kernel)
  exact pv_lq_ok (H := f173_unlikeNow_b1_H xs L d r s) (X := f173_unlikeNow_b1_X xs L d r s) (f173_unlikeNow_b1_ok (xs := xs) (L := L) (d := d) (r := r) (s := s)) 20000 _ _ e49 hx48 _ _ _
def f174_unlike_b1 (v1 : Int32) (st : Int32 × pv_T) : Option ((Int32 × pv_T) ⊕ (Int32 × pv_T)) := match st with
  | (v2, T) =>
    if v1 ≤ v2 then
      some (.inr (v2, T))
    else
      (f172_comeAll T).bind fun T8 =>
      some (.inl (v2 + (1:Int32), T8))
def f174_unlike_b1_H (xs : Nat → Int32) (L d : Nat) (r : Option Value × pv_M) (s : pv_F) (v1 : Int32) (st : Int32 × pv_T) : Prop := match st with
  | (v2, T) => pv_Ev xs L (d + 5) 174 (0, 0, 18, [some (.ref 94), some (.int v1), some (.int v2)], [], pv_mm s T) r
def f174_unlike_b1_X (xs : Nat → Int32) (L d : Nat) (r : Option Value × pv_M) (s : pv_F) (v1 : Int32) (st : Int32 × pv_T) : Prop := match st with
  | (v2, T) => ∀ z2 : Option Value, pv_Ev xs L (d + 5) 174 (0, 0, 33, [some (.ref 94), some (.int v1), z2], [], pv_mm s T) r
def f174_unlike (x1 : Int32) (T : pv_T) : Option (Int32 × pv_T) :=
  (f114_in x1 (0:Int32) (12:Int32)).bind fun q2 =>
  if q2 = 0 then
    some ((-1:Int32), T)
  else
    (f168_putAside T).bind fun T5 =>
    (pv_lq (f174_unlike_b1 x1) 20000 ((0:Int32), T5)).bind fun (w9, T10) =>
    (f173_unlikeNow T10).bind fun (q12, T13) =>
    (f169_comeBack T13).bind fun T15 =>
    (f116_ask (T15.1 94 24) q12 T15).bind fun (q17, T18) =>
    some (q17, T18)
theorem f174_unlike_b1_ok {xs : Nat → Int32} {L d : Nat} {r : Option Value × pv_M} {s : pv_F} {v1 : Int32} (st : Int32 × pv_T) (o : (Int32 × pv_T) ⊕ (Int32 × pv_T)) (h : f174_unlike_b1 v1 st = some o) (hK : pv_Kq (f174_unlike_b1_H xs L d r s v1) (f174_unlike_b1_X xs L d r s v1) o) : f174_unlike_b1_H xs L d r s v1 st := by
  obtain ⟨v2, T⟩ := st
  show pv_Ev xs L (d + 5) 174 (0, 0, 18, [some (.ref 94), some (.int v1), some (.int v2)], [], pv_mm s T) r
  unfold f174_unlike_b1 at h
  dsimp only at h
  refine pv_e_bk (ps := [(18, .iload_n 2, 1), (19, .iload_n 1, 1)]) (t' := (0, 0, 20, [some (.ref 94), some (.int v1), some (.int v2)], [.int v1, .int v2], pv_mm s T)) (by decide +kernel) rfl ?_
  refine pv_e_icmpge (off := 13) (b := 33) (pc' := 23) (by decide +kernel) (by decide +kernel) rfl (fun c6 => ?_) (fun c6 => ?_)
  · rw [if_pos c6] at h
    obtain rfl := Option.some.inj h
    exact hK _
  · rw [if_neg c6] at h
    refine pv_e_bk (ps := [(23, .aload_n 0, 1)]) (t' := (0, 0, 24, [some (.ref 94), some (.int v1), some (.int v2)], [.ref 94], pv_mm s T)) (by decide +kernel) rfl ?_
    obtain ⟨T8, e7, h⟩ := Option.bind_eq_some_iff.mp h
    refine pv_e_cvv (d := d + 4) (i := 215) (z := 172) (np := 0) (ml := 2) (ci := 6) (As := []) (rs := []) (pc' := 27) (by decide +kernel) rfl rfl rfl rfl (Nat.le_of_ble_eq_true rfl) (Nat.le_of_ble_eq_true rfl) rfl (ee172 (d + 0) e7) ?_
    refine pv_e_bk (ps := [(27, .iinc 2 1, 3), (30, .goto (-12), 3)]) (t' := (0, 0, 18, [some (.ref 94), some (.int v1), some (.int (v2 + (1:Int32)))], [], pv_mm s T8)) (by decide +kernel) rfl ?_
    obtain rfl := Option.some.inj h
    exact hK
theorem ee174 {xs : Nat → Int32} {L : Nat} (d : Nat) (x1 : Int32) {s : pv_F} {T : pv_T} {q : Int32 × pv_T}  (h : f174_unlike x1 T = some q) : pv_Ev xs L (d + 5) 174 (0, 0, 0, [some (.ref 94), some (.int x1), none], [], pv_mm s T) (some (.int q.1), pv_mm s q.2) := by
  generalize hr : ((some (.int q.1), pv_mm s q.2) : Option Value × pv_M) = r
  unfold f174_unlike at h
  refine pv_e_bk (ps := [(0, .iload_n 1, 1), (1, .iconst 0, 1), (2, .bipush 12, 2)]) (t' := (0, 0, 4, [some (.ref 94), some (.int x1), none], [.int (12:Int32), .int (0:Int32), .int x1], pv_mm s T)) (by decide +kernel) rfl ?_
  obtain ⟨q2, e1, h⟩ := Option.bind_eq_some_iff.mp h
  refine pv_e_csi (d := d + 4) (i := 83) (z := 114) (np := 3) (ml := 3) (As := [.int x1, .int (0:Int32), .int (12:Int32)]) (rs := []) (pc' := 7) (by decide +kernel) rfl rfl rfl (Nat.le_of_ble_eq_true rfl) (Nat.le_of_ble_eq_true rfl) rfl (ee114 (d + 4) x1 (0:Int32) (12:Int32) e1) ?_
  refine pv_e_ifne (off := 5) (b := 12) (pc' := 10) (by decide +kernel) (by decide +kernel) rfl (fun c3 => ?_) (fun c3 => ?_)
  · rw [if_pos c3] at h
    refine pv_e_bk (ps := [(10, .iconst (-1), 1)]) (t' := (0, 0, 11, [some (.ref 94), some (.int x1), none], [.int (-1:Int32)], pv_mm s T)) (by decide +kernel) rfl ?_
    obtain rfl := Option.some.inj h
    cases hr
    exact pv_e_ri (by decide +kernel)
  · rw [if_neg c3] at h
    refine pv_e_bk (ps := [(12, .aload_n 0, 1)]) (t' := (0, 0, 13, [some (.ref 94), some (.int x1), none], [.ref 94], pv_mm s T)) (by decide +kernel) rfl ?_
    obtain ⟨T5, e4, h⟩ := Option.bind_eq_some_iff.mp h
    refine pv_e_cvv (d := d + 4) (i := 206) (z := 168) (np := 0) (ml := 1) (ci := 6) (As := []) (rs := []) (pc' := 16) (by decide +kernel) rfl rfl rfl rfl (Nat.le_of_ble_eq_true rfl) (Nat.le_of_ble_eq_true rfl) rfl (ee168 (d + 3) e4) ?_
    refine pv_e_bk (ps := [(16, .iconst 0, 1), (17, .istore_n 2, 1)]) (t' := (0, 0, 18, [some (.ref 94), some (.int x1), some (.int (0:Int32))], [], pv_mm s T5)) (by decide +kernel) rfl ?_
    obtain ⟨⟨w9, T10⟩, e20, h⟩ := Option.bind_eq_some_iff.mp h
    dsimp only at h
    have hx19 : f174_unlike_b1_X xs L d r s x1 (w9, T10) := by
      show ∀ z2 : Option Value, pv_Ev xs L (d + 5) 174 (0, 0, 33, [some (.ref 94), some (.int x1), z2], [], pv_mm s T10) r
      intro z2
      refine pv_e_bk (ps := [(33, .aload_n 0, 1)]) (t' := (0, 0, 34, [some (.ref 94), some (.int x1), z2], [.ref 94], pv_mm s T10)) (by decide +kernel) rfl ?_
      obtain ⟨⟨q12, T13⟩, e11, h⟩ := Option.bind_eq_some_iff.mp h
      dsimp only at h
      refine pv_e_cvi (d := d + 4) (i := 218) (z := 173) (np := 0) (ml := 6) (ci := 6) (As := []) (rs := []) (pc' := 37) (by decide +kernel) rfl rfl rfl rfl (Nat.le_of_ble_eq_true rfl) (Nat.le_of_ble_eq_true rfl) rfl (ee173 (d + 2) e11) ?_
      refine pv_e_bk (ps := [(37, .istore_n 2, 1), (38, .aload_n 0, 1)]) (t' := (0, 0, 39, [some (.ref 94), some (.int x1), some (.int q12)], [.ref 94], pv_mm s T13)) (by decide +kernel) rfl ?_
      obtain ⟨T15, e14, h⟩ := Option.bind_eq_some_iff.mp h
      refine pv_e_cvv (d := d + 4) (i := 209) (z := 169) (np := 0) (ml := 1) (ci := 6) (As := []) (rs := []) (pc' := 42) (by decide +kernel) rfl rfl rfl rfl (Nat.le_of_ble_eq_true rfl) (Nat.le_of_ble_eq_true rfl) rfl (ee169 (d + 3) e14) ?_
      refine pv_e_bk (ps := [(42, .aload_n 0, 1), (43, .aload_n 0, 1)]) (t' := (0, 0, 44, [some (.ref 94), some (.int x1), some (.int q12)], [.ref 94, .ref 94], pv_mm s T15)) (by decide +kernel) rfl ?_
      refine pv_e_gm (i := 212) (ci := 6) (j := 24) (pc' := 47) (by decide +kernel) (by decide) rfl rfl rfl ?_
      refine pv_e_bk (ps := [(47, .iload_n 2, 1)]) (t' := (0, 0, 48, [some (.ref 94), some (.int x1), some (.int q12)], [.int q12, .int (T15.1 94 24), .ref 94], pv_mm s T15)) (by decide +kernel) rfl ?_
      obtain ⟨⟨q17, T18⟩, e16, h⟩ := Option.bind_eq_some_iff.mp h
      dsimp only at h
      refine pv_e_cvi (d := d + 4) (i := 109) (z := 116) (np := 2) (ml := 3) (ci := 6) (As := [.int (T15.1 94 24), .int q12]) (rs := []) (pc' := 51) (by decide +kernel) rfl rfl rfl rfl (Nat.le_of_ble_eq_true rfl) (Nat.le_of_ble_eq_true rfl) rfl (ee116 (d + 4) (T15.1 94 24) q12 e16) ?_
      obtain rfl := Option.some.inj h
      cases hr
      exact pv_e_ri (by decide +kernel)
    exact pv_lq_ok (H := f174_unlike_b1_H xs L d r s x1) (X := f174_unlike_b1_X xs L d r s x1) (f174_unlike_b1_ok (xs := xs) (L := L) (d := d) (r := r) (s := s) (v1 := x1)) 20000 _ _ e20 hx19
