-- printed by wip/whole/gen/parts.py: methods as functions over the ints of the memory, and that the pure machine runs so
def f163_comes (x1 : Int32) (x2 : Int32) (T : pv_T) : Option (Int32) :=
  (f158_areTwo x1 x2 T).bind fun q2 =>
  if q2 = 0 then
    some (-1:Int32)
  else
    (f151_mayCall x1 x2 T).bind fun q5 =>
    ((
      if q5 = 0 then
        some (-4:Int32)
      else
        (f152_comers x1 x2 T).bind fun q11 =>
        some q11) : Option (Int32)).bind fun t6 =>
    some t6
theorem ee163 {xs : Nat → Int32} {L : Nat} (d : Nat) (x1 : Int32) (x2 : Int32) {s : pv_F} {T : pv_T} {q : Int32}  (h : f163_comes x1 x2 T = some q) : pv_Ev xs L (d + 3) 163 (0, 0, 0, [some (.ref 94), some (.int x1), some (.int x2)], [], pv_mm s T) (some (.int q), pv_mm s T) := by
  generalize hr : ((some (.int q), pv_mm s T) : Option Value × pv_M) = r
  unfold f163_comes at h
  refine pv_e_bk (ps := [(0, .aload_n 0, 1), (1, .iload_n 1, 1), (2, .iload_n 2, 1)]) (t' := (0, 0, 3, [some (.ref 94), some (.int x1), some (.int x2)], [.int x2, .int x1, .ref 94], pv_mm s T)) (by decide +kernel) rfl ?_
  obtain ⟨q2, e1, h⟩ := Option.bind_eq_some_iff.mp h
  refine pv_e_cvi (d := d + 2) (i := 193) (z := 158) (np := 2) (ml := 3) (ci := 6) (As := [.int x1, .int x2]) (rs := []) (pc' := 6) (by decide +kernel) rfl rfl rfl rfl (Nat.le_of_ble_eq_true rfl) (Nat.le_of_ble_eq_true rfl) rfl (ee158 (d + 0) x1 x2 e1) ?_
  refine pv_e_ifne (off := 5) (b := 11) (pc' := 9) (by decide +kernel) (by decide +kernel) rfl (fun c3 => ?_) (fun c3 => ?_)
  · rw [if_pos c3] at h
    refine pv_e_bk (ps := [(9, .iconst (-1), 1)]) (t' := (0, 0, 10, [some (.ref 94), some (.int x1), some (.int x2)], [.int (-1:Int32)], pv_mm s T)) (by decide +kernel) rfl ?_
    obtain rfl := Option.some.inj h
    cases hr
    exact pv_e_ri (by decide +kernel)
  · rw [if_neg c3] at h
    refine pv_e_bk (ps := [(11, .aload_n 0, 1), (12, .iload_n 1, 1), (13, .iload_n 2, 1)]) (t' := (0, 0, 14, [some (.ref 94), some (.int x1), some (.int x2)], [.int x2, .int x1, .ref 94], pv_mm s T)) (by decide +kernel) rfl ?_
    obtain ⟨q5, e4, h⟩ := Option.bind_eq_some_iff.mp h
    refine pv_e_cvi (d := d + 2) (i := 161) (z := 151) (np := 2) (ml := 3) (ci := 6) (As := [.int x1, .int x2]) (rs := []) (pc' := 17) (by decide +kernel) rfl rfl rfl rfl (Nat.le_of_ble_eq_true rfl) (Nat.le_of_ble_eq_true rfl) rfl (ee151 (d + 1) x1 x2 e4) ?_
    obtain ⟨t6, hv7, h⟩ := Option.bind_eq_some_iff.mp h
    have hJ8 : pv_Ev xs L (d + 3) 163 (0, 0, 31, [some (.ref 94), some (.int x1), some (.int x2)], [.int t6], pv_mm s T) r := by
      obtain rfl := Option.some.inj h
      cases hr
      exact pv_e_ri (by decide +kernel)
    clear h
    have h := hv7
    clear hv7
    refine pv_e_ifeq (off := 12) (b := 29) (pc' := 20) (by decide +kernel) (by decide +kernel) rfl (fun c9 => ?_) (fun c9 => ?_)
    · rw [if_pos c9] at h
      refine pv_e_bk (ps := [(29, .bipush (-4), 2)]) (t' := (0, 0, 31, [some (.ref 94), some (.int x1), some (.int x2)], [.int (-4:Int32)], pv_mm s T)) (by decide +kernel) rfl ?_
      obtain rfl := Option.some.inj h
      exact hJ8
    · rw [if_neg c9] at h
      refine pv_e_bk (ps := [(20, .aload_n 0, 1), (21, .iload_n 1, 1), (22, .iload_n 2, 1)]) (t' := (0, 0, 23, [some (.ref 94), some (.int x1), some (.int x2)], [.int x2, .int x1, .ref 94], pv_mm s T)) (by decide +kernel) rfl ?_
      obtain ⟨q11, e10, h⟩ := Option.bind_eq_some_iff.mp h
      refine pv_e_cvi (d := d + 2) (i := 164) (z := 152) (np := 2) (ml := 6) (ci := 6) (As := [.int x1, .int x2]) (rs := []) (pc' := 26) (by decide +kernel) rfl rfl rfl rfl (Nat.le_of_ble_eq_true rfl) (Nat.le_of_ble_eq_true rfl) rfl (ee152 (d + 0) x1 x2 e10) ?_
      refine pv_e_bk (ps := [(26, .goto 5, 3)]) (t' := (0, 0, 31, [some (.ref 94), some (.int x1), some (.int x2)], [.int q11], pv_mm s T)) (by decide +kernel) rfl ?_
      obtain rfl := Option.some.inj h
      exact hJ8
def f164_alike (x1 : Int32) (T : pv_T) : Option (Int32) :=
  (f139_isOne x1 T).bind fun q2 =>
  ((
    if q2 = 0 then
      some (-1:Int32)
    else
      (f144_likes x1 T).bind fun q8 =>
      some (q8 ||| ((1:Int32) <<< (x1 &&& 31)))) : Option (Int32)).bind fun t3 =>
  some t3
theorem ee164 {xs : Nat → Int32} {L : Nat} (d : Nat) (x1 : Int32) {s : pv_F} {T : pv_T} {q : Int32}  (h : f164_alike x1 T = some q) : pv_Ev xs L (d + 3) 164 (0, 0, 0, [some (.ref 94), some (.int x1)], [], pv_mm s T) (some (.int q), pv_mm s T) := by
  generalize hr : ((some (.int q), pv_mm s T) : Option Value × pv_M) = r
  unfold f164_alike at h
  refine pv_e_bk (ps := [(0, .aload_n 0, 1), (1, .iload_n 1, 1)]) (t' := (0, 0, 2, [some (.ref 94), some (.int x1)], [.int x1, .ref 94], pv_mm s T)) (by decide +kernel) rfl ?_
  obtain ⟨q2, e1, h⟩ := Option.bind_eq_some_iff.mp h
  refine pv_e_cvi (d := d + 2) (i := 152) (z := 139) (np := 1) (ml := 2) (ci := 6) (As := [.int x1]) (rs := []) (pc' := 5) (by decide +kernel) rfl rfl rfl rfl (Nat.le_of_ble_eq_true rfl) (Nat.le_of_ble_eq_true rfl) rfl (ee139 (d + 1) x1 e1) ?_
  obtain ⟨t3, hv4, h⟩ := Option.bind_eq_some_iff.mp h
  have hJ5 : pv_Ev xs L (d + 3) 164 (0, 0, 21, [some (.ref 94), some (.int x1)], [.int t3], pv_mm s T) r := by
    obtain rfl := Option.some.inj h
    cases hr
    exact pv_e_ri (by decide +kernel)
  clear h
  have h := hv4
  clear hv4
  refine pv_e_ifeq (off := 15) (b := 20) (pc' := 8) (by decide +kernel) (by decide +kernel) rfl (fun c6 => ?_) (fun c6 => ?_)
  · rw [if_pos c6] at h
    refine pv_e_bk (ps := [(20, .iconst (-1), 1)]) (t' := (0, 0, 21, [some (.ref 94), some (.int x1)], [.int (-1:Int32)], pv_mm s T)) (by decide +kernel) rfl ?_
    obtain rfl := Option.some.inj h
    exact hJ5
  · rw [if_neg c6] at h
    refine pv_e_bk (ps := [(8, .aload_n 0, 1), (9, .iload_n 1, 1)]) (t' := (0, 0, 10, [some (.ref 94), some (.int x1)], [.int x1, .ref 94], pv_mm s T)) (by decide +kernel) rfl ?_
    obtain ⟨q8, e7, h⟩ := Option.bind_eq_some_iff.mp h
    refine pv_e_cvi (d := d + 2) (i := 170) (z := 144) (np := 1) (ml := 4) (ci := 6) (As := [.int x1]) (rs := []) (pc' := 13) (by decide +kernel) rfl rfl rfl rfl (Nat.le_of_ble_eq_true rfl) (Nat.le_of_ble_eq_true rfl) rfl (ee144 (d + 0) x1 e7) ?_
    refine pv_e_bk (ps := [(13, .iconst 1, 1), (14, .iload_n 1, 1), (15, .ishl, 1), (16, .ior, 1), (17, .goto 4, 3)]) (t' := (0, 0, 21, [some (.ref 94), some (.int x1)], [.int (q8 ||| ((1:Int32) <<< (x1 &&& 31)))], pv_mm s T)) (by decide +kernel) rfl ?_
    obtain rfl := Option.some.inj h
    exact hJ5
def f165_keep_b1 (v1 : Int32) (st : Int32 × pv_T) : Option ((Int32 × pv_T) ⊕ (Int32 × pv_T)) := match st with
  | (v2, T) =>
    if (4680:Int32) ≤ v2 then
      some (.inr (v2, T))
    else
      (pv_rd T.1 106 4680 v2).bind fun q10 =>
      (pv_wm T 109 14040 (((4680:Int32) * v1) + v2) q10).bind fun T12 =>
      some (.inl (v2 + (1:Int32), T12))
def f165_keep_b1_H (xs : Nat → Int32) (L d : Nat) (r : Option Value × pv_M) (s : pv_F) (v1 : Int32) (st : Int32 × pv_T) : Prop := match st with
  | (v2, T) => pv_Ev xs L (d + 1) 165 (0, 0, 49, [some (.ref 94), some (.int v1), some (.int v2)], [], pv_mm s T) r
def f165_keep_b1_X (xs : Nat → Int32) (L d : Nat) (r : Option Value × pv_M) (s : pv_F) (v1 : Int32) (st : Int32 × pv_T) : Prop := match st with
  | (v2, T) => ∀ z2 : Option Value, pv_Ev xs L (d + 1) 165 (0, 0, 80, [some (.ref 94), some (.int v1), z2], [], pv_mm s T) r
def f165_keep (x1 : Int32) (T : pv_T) : Option (Int32 × pv_T) :=
  (f113_in x1 (0:Int32) (2:Int32)).bind fun q2 =>
  if q2 = 0 then
    some ((-1:Int32), T)
  else
    if (T.1 94 8) = 0 then
      some ((-4:Int32), T)
    else
      (pv_wm T 107 3 x1 (T.1 94 18)).bind fun T5 =>
      (f161_copies 105 (0:Int32) 108 ((78:Int32) * x1) T5).bind fun T8 =>
      (pv_lq (f165_keep_b1 x1) 20000 ((0:Int32), T8)).bind fun (w14, T15) =>
      some (T15.1 94 18, T15)
theorem f165_keep_b1_ok {xs : Nat → Int32} {L d : Nat} {r : Option Value × pv_M} {s : pv_F} {v1 : Int32} (st : Int32 × pv_T) (o : (Int32 × pv_T) ⊕ (Int32 × pv_T)) (h : f165_keep_b1 v1 st = some o) (hK : pv_Kq (f165_keep_b1_H xs L d r s v1) (f165_keep_b1_X xs L d r s v1) o) : f165_keep_b1_H xs L d r s v1 st := by
  obtain ⟨v2, T⟩ := st
  show pv_Ev xs L (d + 1) 165 (0, 0, 49, [some (.ref 94), some (.int v1), some (.int v2)], [], pv_mm s T) r
  unfold f165_keep_b1 at h
  dsimp only at h
  refine pv_e_bk (ps := [(49, .iload_n 2, 1), (50, .sipush 4680, 3)]) (t' := (0, 0, 53, [some (.ref 94), some (.int v1), some (.int v2)], [.int (4680:Int32), .int v2], pv_mm s T)) (by decide +kernel) rfl ?_
  refine pv_e_icmpge (off := 27) (b := 80) (pc' := 56) (by decide +kernel) (by decide +kernel) rfl (fun c9 => ?_) (fun c9 => ?_)
  · rw [if_pos c9] at h
    obtain rfl := Option.some.inj h
    exact hK _
  · rw [if_neg c9] at h
    refine pv_e_bk (ps := [(56, .aload_n 0, 1)]) (t' := (0, 0, 57, [some (.ref 94), some (.int v1), some (.int v2)], [.ref 94], pv_mm s T)) (by decide +kernel) rfl ?_
    refine pv_e_gr (i := 56) (ci := 6) (j := 22) (b := 109) (pc' := 60) (by decide +kernel) rfl rfl rfl ?_
    refine pv_e_bk (ps := [(60, .sipush 4680, 3), (63, .iload_n 1, 1), (64, .imul, 1), (65, .iload_n 2, 1), (66, .iadd, 1), (67, .aload_n 0, 1)]) (t' := (0, 0, 68, [some (.ref 94), some (.int v1), some (.int v2)], [.ref 94, .int (((4680:Int32) * v1) + v2), .ref 109], pv_mm s T)) (by decide +kernel) rfl ?_
    refine pv_e_gr (i := 47) (ci := 6) (j := 19) (b := 106) (pc' := 71) (by decide +kernel) rfl rfl rfl ?_
    refine pv_e_bk (ps := [(71, .iload_n 2, 1)]) (t' := (0, 0, 72, [some (.ref 94), some (.int v1), some (.int v2)], [.int v2, .ref 106, .int (((4680:Int32) * v1) + v2), .ref 109], pv_mm s T)) (by decide +kernel) rfl ?_
    obtain ⟨q10, e11, h⟩ := Option.bind_eq_some_iff.mp h
    refine pv_e_rm (pc' := 73) (by decide +kernel) (by decide) rfl e11 rfl ?_
    obtain ⟨T12, e13, h⟩ := Option.bind_eq_some_iff.mp h
    refine pv_e_wm (pc' := 74) (by decide +kernel) (by decide) rfl e13 rfl ?_
    refine pv_e_bk (ps := [(74, .iinc 2 1, 3), (77, .goto (-28), 3)]) (t' := (0, 0, 49, [some (.ref 94), some (.int v1), some (.int (v2 + (1:Int32)))], [], pv_mm s T12)) (by decide +kernel) rfl ?_
    obtain rfl := Option.some.inj h
    exact hK
theorem ee165 {xs : Nat → Int32} {L : Nat} (d : Nat) (x1 : Int32) {s : pv_F} {T : pv_T} {q : Int32 × pv_T}  (h : f165_keep x1 T = some q) : pv_Ev xs L (d + 1) 165 (0, 0, 0, [some (.ref 94), some (.int x1), none], [], pv_mm s T) (some (.int q.1), pv_mm s q.2) := by
  generalize hr : ((some (.int q.1), pv_mm s q.2) : Option Value × pv_M) = r
  unfold f165_keep at h
  refine pv_e_bk (ps := [(0, .iload_n 1, 1), (1, .iconst 0, 1), (2, .iconst 2, 1)]) (t' := (0, 0, 3, [some (.ref 94), some (.int x1), none], [.int (2:Int32), .int (0:Int32), .int x1], pv_mm s T)) (by decide +kernel) rfl ?_
  obtain ⟨q2, e1, h⟩ := Option.bind_eq_some_iff.mp h
  refine pv_e_csi (d := d + 0) (i := 83) (z := 113) (np := 3) (ml := 3) (As := [.int x1, .int (0:Int32), .int (2:Int32)]) (rs := []) (pc' := 6) (by decide +kernel) rfl rfl rfl (Nat.le_of_ble_eq_true rfl) (Nat.le_of_ble_eq_true rfl) rfl (ee113 (d + 0) x1 (0:Int32) (2:Int32) e1) ?_
  refine pv_e_ifne (off := 5) (b := 11) (pc' := 9) (by decide +kernel) (by decide +kernel) rfl (fun c3 => ?_) (fun c3 => ?_)
  · rw [if_pos c3] at h
    refine pv_e_bk (ps := [(9, .iconst (-1), 1)]) (t' := (0, 0, 10, [some (.ref 94), some (.int x1), none], [.int (-1:Int32)], pv_mm s T)) (by decide +kernel) rfl ?_
    obtain rfl := Option.some.inj h
    cases hr
    exact pv_e_ri (by decide +kernel)
  · rw [if_neg c3] at h
    refine pv_e_bk (ps := [(11, .aload_n 0, 1)]) (t' := (0, 0, 12, [some (.ref 94), some (.int x1), none], [.ref 94], pv_mm s T)) (by decide +kernel) rfl ?_
    refine pv_e_gm (i := 136) (ci := 6) (j := 8) (pc' := 15) (by decide +kernel) (by decide) rfl rfl rfl ?_
    refine pv_e_ifne (off := 6) (b := 21) (pc' := 18) (by decide +kernel) (by decide +kernel) rfl (fun c4 => ?_) (fun c4 => ?_)
    · rw [if_pos c4] at h
      refine pv_e_bk (ps := [(18, .bipush (-4), 2)]) (t' := (0, 0, 20, [some (.ref 94), some (.int x1), none], [.int (-4:Int32)], pv_mm s T)) (by decide +kernel) rfl ?_
      obtain rfl := Option.some.inj h
      cases hr
      exact pv_e_ri (by decide +kernel)
    · rw [if_neg c4] at h
      refine pv_e_bk (ps := [(21, .aload_n 0, 1)]) (t' := (0, 0, 22, [some (.ref 94), some (.int x1), none], [.ref 94], pv_mm s T)) (by decide +kernel) rfl ?_
      refine pv_e_gr (i := 50) (ci := 6) (j := 20) (b := 107) (pc' := 25) (by decide +kernel) rfl rfl rfl ?_
      refine pv_e_bk (ps := [(25, .iload_n 1, 1), (26, .aload_n 0, 1)]) (t' := (0, 0, 27, [some (.ref 94), some (.int x1), none], [.ref 94, .int x1, .ref 107], pv_mm s T)) (by decide +kernel) rfl ?_
      refine pv_e_gm (i := 139) (ci := 6) (j := 18) (pc' := 30) (by decide +kernel) (by decide) rfl rfl rfl ?_
      obtain ⟨T5, e6, h⟩ := Option.bind_eq_some_iff.mp h
      refine pv_e_wm (pc' := 31) (by decide +kernel) (by decide) rfl e6 rfl ?_
      refine pv_e_bk (ps := [(31, .aload_n 0, 1)]) (t' := (0, 0, 32, [some (.ref 94), some (.int x1), none], [.ref 94], pv_mm s T5)) (by decide +kernel) rfl ?_
      refine pv_e_gr (i := 44) (ci := 6) (j := 17) (b := 105) (pc' := 35) (by decide +kernel) rfl rfl rfl ?_
      refine pv_e_bk (ps := [(35, .iconst 0, 1), (36, .aload_n 0, 1)]) (t' := (0, 0, 37, [some (.ref 94), some (.int x1), none], [.ref 94, .int (0:Int32), .ref 105], pv_mm s T5)) (by decide +kernel) rfl ?_
      refine pv_e_gr (i := 53) (ci := 6) (j := 21) (b := 108) (pc' := 40) (by decide +kernel) rfl rfl rfl ?_
      refine pv_e_bk (ps := [(40, .bipush 78, 2), (42, .iload_n 1, 1), (43, .imul, 1)]) (t' := (0, 0, 44, [some (.ref 94), some (.int x1), none], [.int ((78:Int32) * x1), .ref 108, .int (0:Int32), .ref 105], pv_mm s T5)) (by decide +kernel) rfl ?_
      obtain ⟨T8, e7, h⟩ := Option.bind_eq_some_iff.mp h
      refine pv_e_csv (d := d + 0) (i := 202) (z := 161) (np := 4) (ml := 5) (As := [.ref 105, .int (0:Int32), .ref 108, .int ((78:Int32) * x1)]) (rs := []) (pc' := 47) (by decide +kernel) rfl rfl rfl (Nat.le_of_ble_eq_true rfl) (Nat.le_of_ble_eq_true rfl) rfl (ee161 (d + 0) 105 (0:Int32) 108 ((78:Int32) * x1) (by decide) (by decide) e7) ?_
      refine pv_e_bk (ps := [(47, .iconst 0, 1), (48, .istore_n 2, 1)]) (t' := (0, 0, 49, [some (.ref 94), some (.int x1), some (.int (0:Int32))], [], pv_mm s T8)) (by decide +kernel) rfl ?_
      obtain ⟨⟨w14, T15⟩, e17, h⟩ := Option.bind_eq_some_iff.mp h
      dsimp only at h
      have hx16 : f165_keep_b1_X xs L d r s x1 (w14, T15) := by
        show ∀ z2 : Option Value, pv_Ev xs L (d + 1) 165 (0, 0, 80, [some (.ref 94), some (.int x1), z2], [], pv_mm s T15) r
        intro z2
        refine pv_e_bk (ps := [(80, .aload_n 0, 1)]) (t' := (0, 0, 81, [some (.ref 94), some (.int x1), z2], [.ref 94], pv_mm s T15)) (by decide +kernel) rfl ?_
        refine pv_e_gm (i := 139) (ci := 6) (j := 18) (pc' := 84) (by decide +kernel) (by decide) rfl rfl rfl ?_
        obtain rfl := Option.some.inj h
        cases hr
        exact pv_e_ri (by decide +kernel)
      exact pv_lq_ok (H := f165_keep_b1_H xs L d r s x1) (X := f165_keep_b1_X xs L d r s x1) (f165_keep_b1_ok (xs := xs) (L := L) (d := d) (r := r) (s := s) (v1 := x1)) 20000 _ _ e17 hx16
def f166_on_b1 (v1 : Int32) (st : Int32 × pv_T) : Option ((Int32 × pv_T) ⊕ (Int32 × pv_T)) := match st with
  | (v2, T) =>
    if (4680:Int32) ≤ v2 then
      some (.inr (v2, T))
    else
      (pv_rd T.1 109 14040 (((4680:Int32) * v1) + v2)).bind fun q17 =>
      (pv_wm T 106 4680 v2 q17).bind fun T19 =>
      some (.inl (v2 + (1:Int32), T19))
def f166_on_b1_H (xs : Nat → Int32) (L d : Nat) (r : Option Value × pv_M) (s : pv_F) (v1 : Int32) (st : Int32 × pv_T) : Prop := match st with
  | (v2, T) => pv_Ev xs L (d + 1) 166 (0, 0, 56, [some (.ref 94), some (.int v1), some (.int v2)], [], pv_mm s T) r
def f166_on_b1_X (xs : Nat → Int32) (L d : Nat) (r : Option Value × pv_M) (s : pv_F) (v1 : Int32) (st : Int32 × pv_T) : Prop := match st with
  | (v2, T) => ∀ z2 : Option Value, pv_Ev xs L (d + 1) 166 (0, 0, 87, [some (.ref 94), some (.int v1), z2], [], pv_mm s T) r
def f166_on (x1 : Int32) (T : pv_T) : Option (Int32 × pv_T) :=
  (f113_in x1 (0:Int32) (2:Int32)).bind fun q2 =>
  if q2 = 0 then
    some ((-1:Int32), T)
  else
    (pv_rd T.1 107 3 x1).bind fun q4 =>
    if q4 = (-9:Int32) then
      (f114_meet (1:Int32) T).bind fun (q8, T9) =>
      some (q8, T9)
    else
      (pv_rd T.1 107 3 x1).bind fun q10 =>
      (pv_pm T 94 18 q10).bind fun T12 =>
      (f161_copies 108 ((78:Int32) * x1) 105 (0:Int32) T12).bind fun T15 =>
      (pv_lq (f166_on_b1 x1) 20000 ((0:Int32), T15)).bind fun (w21, T22) =>
      some (T22.1 94 18, T22)
theorem f166_on_b1_ok {xs : Nat → Int32} {L d : Nat} {r : Option Value × pv_M} {s : pv_F} {v1 : Int32} (st : Int32 × pv_T) (o : (Int32 × pv_T) ⊕ (Int32 × pv_T)) (h : f166_on_b1 v1 st = some o) (hK : pv_Kq (f166_on_b1_H xs L d r s v1) (f166_on_b1_X xs L d r s v1) o) : f166_on_b1_H xs L d r s v1 st := by
  obtain ⟨v2, T⟩ := st
  show pv_Ev xs L (d + 1) 166 (0, 0, 56, [some (.ref 94), some (.int v1), some (.int v2)], [], pv_mm s T) r
  unfold f166_on_b1 at h
  dsimp only at h
  refine pv_e_bk (ps := [(56, .iload_n 2, 1), (57, .sipush 4680, 3)]) (t' := (0, 0, 60, [some (.ref 94), some (.int v1), some (.int v2)], [.int (4680:Int32), .int v2], pv_mm s T)) (by decide +kernel) rfl ?_
  refine pv_e_icmpge (off := 27) (b := 87) (pc' := 63) (by decide +kernel) (by decide +kernel) rfl (fun c16 => ?_) (fun c16 => ?_)
  · rw [if_pos c16] at h
    obtain rfl := Option.some.inj h
    exact hK _
  · rw [if_neg c16] at h
    refine pv_e_bk (ps := [(63, .aload_n 0, 1)]) (t' := (0, 0, 64, [some (.ref 94), some (.int v1), some (.int v2)], [.ref 94], pv_mm s T)) (by decide +kernel) rfl ?_
    refine pv_e_gr (i := 47) (ci := 6) (j := 19) (b := 106) (pc' := 67) (by decide +kernel) rfl rfl rfl ?_
    refine pv_e_bk (ps := [(67, .iload_n 2, 1), (68, .aload_n 0, 1)]) (t' := (0, 0, 69, [some (.ref 94), some (.int v1), some (.int v2)], [.ref 94, .int v2, .ref 106], pv_mm s T)) (by decide +kernel) rfl ?_
    refine pv_e_gr (i := 56) (ci := 6) (j := 22) (b := 109) (pc' := 72) (by decide +kernel) rfl rfl rfl ?_
    refine pv_e_bk (ps := [(72, .sipush 4680, 3), (75, .iload_n 1, 1), (76, .imul, 1), (77, .iload_n 2, 1), (78, .iadd, 1)]) (t' := (0, 0, 79, [some (.ref 94), some (.int v1), some (.int v2)], [.int (((4680:Int32) * v1) + v2), .ref 109, .int v2, .ref 106], pv_mm s T)) (by decide +kernel) rfl ?_
    obtain ⟨q17, e18, h⟩ := Option.bind_eq_some_iff.mp h
    refine pv_e_rm (pc' := 80) (by decide +kernel) (by decide) rfl e18 rfl ?_
    obtain ⟨T19, e20, h⟩ := Option.bind_eq_some_iff.mp h
    refine pv_e_wm (pc' := 81) (by decide +kernel) (by decide) rfl e20 rfl ?_
    refine pv_e_bk (ps := [(81, .iinc 2 1, 3), (84, .goto (-28), 3)]) (t' := (0, 0, 56, [some (.ref 94), some (.int v1), some (.int (v2 + (1:Int32)))], [], pv_mm s T19)) (by decide +kernel) rfl ?_
    obtain rfl := Option.some.inj h
    exact hK
theorem ee166 {xs : Nat → Int32} {L : Nat} (d : Nat) (x1 : Int32) {s : pv_F} {T : pv_T} {q : Int32 × pv_T}  (h : f166_on x1 T = some q) : pv_Ev xs L (d + 1) 166 (0, 0, 0, [some (.ref 94), some (.int x1), none], [], pv_mm s T) (some (.int q.1), pv_mm s q.2) := by
  generalize hr : ((some (.int q.1), pv_mm s q.2) : Option Value × pv_M) = r
  unfold f166_on at h
  refine pv_e_bk (ps := [(0, .iload_n 1, 1), (1, .iconst 0, 1), (2, .iconst 2, 1)]) (t' := (0, 0, 3, [some (.ref 94), some (.int x1), none], [.int (2:Int32), .int (0:Int32), .int x1], pv_mm s T)) (by decide +kernel) rfl ?_
  obtain ⟨q2, e1, h⟩ := Option.bind_eq_some_iff.mp h
  refine pv_e_csi (d := d + 0) (i := 83) (z := 113) (np := 3) (ml := 3) (As := [.int x1, .int (0:Int32), .int (2:Int32)]) (rs := []) (pc' := 6) (by decide +kernel) rfl rfl rfl (Nat.le_of_ble_eq_true rfl) (Nat.le_of_ble_eq_true rfl) rfl (ee113 (d + 0) x1 (0:Int32) (2:Int32) e1) ?_
  refine pv_e_ifne (off := 5) (b := 11) (pc' := 9) (by decide +kernel) (by decide +kernel) rfl (fun c3 => ?_) (fun c3 => ?_)
  · rw [if_pos c3] at h
    refine pv_e_bk (ps := [(9, .iconst (-1), 1)]) (t' := (0, 0, 10, [some (.ref 94), some (.int x1), none], [.int (-1:Int32)], pv_mm s T)) (by decide +kernel) rfl ?_
    obtain rfl := Option.some.inj h
    cases hr
    exact pv_e_ri (by decide +kernel)
  · rw [if_neg c3] at h
    refine pv_e_bk (ps := [(11, .aload_n 0, 1)]) (t' := (0, 0, 12, [some (.ref 94), some (.int x1), none], [.ref 94], pv_mm s T)) (by decide +kernel) rfl ?_
    refine pv_e_gr (i := 50) (ci := 6) (j := 20) (b := 107) (pc' := 15) (by decide +kernel) rfl rfl rfl ?_
    refine pv_e_bk (ps := [(15, .iload_n 1, 1)]) (t' := (0, 0, 16, [some (.ref 94), some (.int x1), none], [.int x1, .ref 107], pv_mm s T)) (by decide +kernel) rfl ?_
    obtain ⟨q4, e5, h⟩ := Option.bind_eq_some_iff.mp h
    refine pv_e_rm (pc' := 17) (by decide +kernel) (by decide) rfl e5 rfl ?_
    refine pv_e_bk (ps := [(17, .bipush (-9), 2)]) (t' := (0, 0, 19, [some (.ref 94), some (.int x1), none], [.int (-9:Int32), .int q4], pv_mm s T)) (by decide +kernel) rfl ?_
    refine pv_e_icmpne (off := 9) (b := 28) (pc' := 22) (by decide +kernel) (by decide +kernel) rfl (fun c6 => ?_) (fun c6 => ?_)
    · rw [if_pos c6] at h
      refine pv_e_bk (ps := [(22, .aload_n 0, 1), (23, .iconst 1, 1)]) (t' := (0, 0, 24, [some (.ref 94), some (.int x1), none], [.int (1:Int32), .ref 94], pv_mm s T)) (by decide +kernel) rfl ?_
      obtain ⟨⟨q8, T9⟩, e7, h⟩ := Option.bind_eq_some_iff.mp h
      dsimp only at h
      refine pv_e_cvi (d := d + 0) (i := 91) (z := 114) (np := 1) (ml := 2) (ci := 6) (As := [.int (1:Int32)]) (rs := []) (pc' := 27) (by decide +kernel) rfl rfl rfl rfl (Nat.le_of_ble_eq_true rfl) (Nat.le_of_ble_eq_true rfl) rfl (ee114 (d + 0) (1:Int32) e7) ?_
      obtain rfl := Option.some.inj h
      cases hr
      exact pv_e_ri (by decide +kernel)
    · rw [if_neg c6] at h
      refine pv_e_bk (ps := [(28, .aload_n 0, 1), (29, .aload_n 0, 1)]) (t' := (0, 0, 30, [some (.ref 94), some (.int x1), none], [.ref 94, .ref 94], pv_mm s T)) (by decide +kernel) rfl ?_
      refine pv_e_gr (i := 50) (ci := 6) (j := 20) (b := 107) (pc' := 33) (by decide +kernel) rfl rfl rfl ?_
      refine pv_e_bk (ps := [(33, .iload_n 1, 1)]) (t' := (0, 0, 34, [some (.ref 94), some (.int x1), none], [.int x1, .ref 107, .ref 94], pv_mm s T)) (by decide +kernel) rfl ?_
      obtain ⟨q10, e11, h⟩ := Option.bind_eq_some_iff.mp h
      refine pv_e_rm (pc' := 35) (by decide +kernel) (by decide) rfl e11 rfl ?_
      obtain ⟨T12, e13, h⟩ := Option.bind_eq_some_iff.mp h
      refine pv_e_pms (i := 139) (ci := 6) (j := 18) (pc' := 38) (by decide +kernel) rfl rfl (by decide) rfl rfl e13 rfl ?_
      refine pv_e_bk (ps := [(38, .aload_n 0, 1)]) (t' := (0, 0, 39, [some (.ref 94), some (.int x1), none], [.ref 94], pv_mm s T12)) (by decide +kernel) rfl ?_
      refine pv_e_gr (i := 53) (ci := 6) (j := 21) (b := 108) (pc' := 42) (by decide +kernel) rfl rfl rfl ?_
      refine pv_e_bk (ps := [(42, .bipush 78, 2), (44, .iload_n 1, 1), (45, .imul, 1), (46, .aload_n 0, 1)]) (t' := (0, 0, 47, [some (.ref 94), some (.int x1), none], [.ref 94, .int ((78:Int32) * x1), .ref 108], pv_mm s T12)) (by decide +kernel) rfl ?_
      refine pv_e_gr (i := 44) (ci := 6) (j := 17) (b := 105) (pc' := 50) (by decide +kernel) rfl rfl rfl ?_
      refine pv_e_bk (ps := [(50, .iconst 0, 1)]) (t' := (0, 0, 51, [some (.ref 94), some (.int x1), none], [.int (0:Int32), .ref 105, .int ((78:Int32) * x1), .ref 108], pv_mm s T12)) (by decide +kernel) rfl ?_
      obtain ⟨T15, e14, h⟩ := Option.bind_eq_some_iff.mp h
      refine pv_e_csv (d := d + 0) (i := 202) (z := 161) (np := 4) (ml := 5) (As := [.ref 108, .int ((78:Int32) * x1), .ref 105, .int (0:Int32)]) (rs := []) (pc' := 54) (by decide +kernel) rfl rfl rfl (Nat.le_of_ble_eq_true rfl) (Nat.le_of_ble_eq_true rfl) rfl (ee161 (d + 0) 108 ((78:Int32) * x1) 105 (0:Int32) (by decide) (by decide) e14) ?_
      refine pv_e_bk (ps := [(54, .iconst 0, 1), (55, .istore_n 2, 1)]) (t' := (0, 0, 56, [some (.ref 94), some (.int x1), some (.int (0:Int32))], [], pv_mm s T15)) (by decide +kernel) rfl ?_
      obtain ⟨⟨w21, T22⟩, e24, h⟩ := Option.bind_eq_some_iff.mp h
      dsimp only at h
      have hx23 : f166_on_b1_X xs L d r s x1 (w21, T22) := by
        show ∀ z2 : Option Value, pv_Ev xs L (d + 1) 166 (0, 0, 87, [some (.ref 94), some (.int x1), z2], [], pv_mm s T22) r
        intro z2
        refine pv_e_bk (ps := [(87, .aload_n 0, 1)]) (t' := (0, 0, 88, [some (.ref 94), some (.int x1), z2], [.ref 94], pv_mm s T22)) (by decide +kernel) rfl ?_
        refine pv_e_gm (i := 139) (ci := 6) (j := 18) (pc' := 91) (by decide +kernel) (by decide) rfl rfl rfl ?_
        obtain rfl := Option.some.inj h
        cases hr
        exact pv_e_ri (by decide +kernel)
      exact pv_lq_ok (H := f166_on_b1_H xs L d r s x1) (X := f166_on_b1_X xs L d r s x1) (f166_on_b1_ok (xs := xs) (L := L) (d := d) (r := r) (s := s) (v1 := x1)) 20000 _ _ e24 hx23
def f167_putAside (T : pv_T) : Option (pv_T) :=
  (f161_copies 105 (0:Int32) 110 (0:Int32) T).bind fun T2 =>
  some T2
theorem ee167 {xs : Nat → Int32} {L : Nat} (d : Nat)  {s : pv_F} {T : pv_T} {q : pv_T}  (h : f167_putAside T = some q) : pv_Ev xs L (d + 1) 167 (0, 0, 0, [some (.ref 94)], [], pv_mm s T) (none, pv_mm s q) := by
  generalize hr : ((none, pv_mm s q) : Option Value × pv_M) = r
  unfold f167_putAside at h
  refine pv_e_bk (ps := [(0, .aload_n 0, 1)]) (t' := (0, 0, 1, [some (.ref 94)], [.ref 94], pv_mm s T)) (by decide +kernel) rfl ?_
  refine pv_e_gr (i := 44) (ci := 6) (j := 17) (b := 105) (pc' := 4) (by decide +kernel) rfl rfl rfl ?_
  refine pv_e_bk (ps := [(4, .iconst 0, 1), (5, .aload_n 0, 1)]) (t' := (0, 0, 6, [some (.ref 94)], [.ref 94, .int (0:Int32), .ref 105], pv_mm s T)) (by decide +kernel) rfl ?_
  refine pv_e_gr (i := 59) (ci := 6) (j := 23) (b := 110) (pc' := 9) (by decide +kernel) rfl rfl rfl ?_
  refine pv_e_bk (ps := [(9, .iconst 0, 1)]) (t' := (0, 0, 10, [some (.ref 94)], [.int (0:Int32), .ref 110, .int (0:Int32), .ref 105], pv_mm s T)) (by decide +kernel) rfl ?_
  obtain ⟨T2, e1, h⟩ := Option.bind_eq_some_iff.mp h
  refine pv_e_csv (d := d + 0) (i := 202) (z := 161) (np := 4) (ml := 5) (As := [.ref 105, .int (0:Int32), .ref 110, .int (0:Int32)]) (rs := []) (pc' := 13) (by decide +kernel) rfl rfl rfl (Nat.le_of_ble_eq_true rfl) (Nat.le_of_ble_eq_true rfl) rfl (ee161 (d + 0) 105 (0:Int32) 110 (0:Int32) (by decide) (by decide) e1) ?_
  obtain rfl := Option.some.inj h
  cases hr
  exact pv_e_rv (by decide +kernel)
def f168_comeBack (T : pv_T) : Option (pv_T) :=
  (f161_copies 110 (0:Int32) 105 (0:Int32) T).bind fun T2 =>
  some T2
theorem ee168 {xs : Nat → Int32} {L : Nat} (d : Nat)  {s : pv_F} {T : pv_T} {q : pv_T}  (h : f168_comeBack T = some q) : pv_Ev xs L (d + 1) 168 (0, 0, 0, [some (.ref 94)], [], pv_mm s T) (none, pv_mm s q) := by
  generalize hr : ((none, pv_mm s q) : Option Value × pv_M) = r
  unfold f168_comeBack at h
  refine pv_e_bk (ps := [(0, .aload_n 0, 1)]) (t' := (0, 0, 1, [some (.ref 94)], [.ref 94], pv_mm s T)) (by decide +kernel) rfl ?_
  refine pv_e_gr (i := 59) (ci := 6) (j := 23) (b := 110) (pc' := 4) (by decide +kernel) rfl rfl rfl ?_
  refine pv_e_bk (ps := [(4, .iconst 0, 1), (5, .aload_n 0, 1)]) (t' := (0, 0, 6, [some (.ref 94)], [.ref 94, .int (0:Int32), .ref 110], pv_mm s T)) (by decide +kernel) rfl ?_
  refine pv_e_gr (i := 44) (ci := 6) (j := 17) (b := 105) (pc' := 9) (by decide +kernel) rfl rfl rfl ?_
  refine pv_e_bk (ps := [(9, .iconst 0, 1)]) (t' := (0, 0, 10, [some (.ref 94)], [.int (0:Int32), .ref 105, .int (0:Int32), .ref 110], pv_mm s T)) (by decide +kernel) rfl ?_
  obtain ⟨T2, e1, h⟩ := Option.bind_eq_some_iff.mp h
  refine pv_e_csv (d := d + 0) (i := 202) (z := 161) (np := 4) (ml := 5) (As := [.ref 110, .int (0:Int32), .ref 105, .int (0:Int32)]) (rs := []) (pc' := 13) (by decide +kernel) rfl rfl rfl (Nat.le_of_ble_eq_true rfl) (Nat.le_of_ble_eq_true rfl) rfl (ee161 (d + 0) 110 (0:Int32) 105 (0:Int32) (by decide) (by decide) e1) ?_
  obtain rfl := Option.some.inj h
  cases hr
  exact pv_e_rv (by decide +kernel)
def f169_lasts_b1 (v1 : Int32) (st : Int32 × pv_T) : Option ((Int32 × pv_T) ⊕ (Int32 × pv_T)) := match st with
  | (v2, T) =>
    (f141_lenOf v1 T).bind fun q13 =>
    if q13 ≤ 0 then
      some (.inr (v2, T))
    else
      (f155_comeOne v1 T).bind fun T16 =>
      some (.inl (v2 + (1:Int32), T16))
def f169_lasts_b1_H (xs : Nat → Int32) (L d : Nat) (r : Option Value × pv_M) (s : pv_F) (v1 : Int32) (st : Int32 × pv_T) : Prop := match st with
  | (v2, T) => pv_Ev xs L (d + 4) 169 (0, 0, 32, [some (.ref 94), some (.int v1), some (.int v2)], [], pv_mm s T) r
def f169_lasts_b1_X (xs : Nat → Int32) (L d : Nat) (r : Option Value × pv_M) (s : pv_F) (v1 : Int32) (st : Int32 × pv_T) : Prop := match st with
  | (v2, T) => pv_Ev xs L (d + 4) 169 (0, 0, 51, [some (.ref 94), some (.int v1), some (.int v2)], [], pv_mm s T) r
def f169_lasts (x1 : Int32) (T : pv_T) : Option (Int32 × pv_T) :=
  (f139_isOne x1 T).bind fun q2 =>
  if q2 = 0 then
    some ((-1:Int32), T)
  else
    (pv_rd T.1 101 7 x1).bind fun q4 =>
    if q4 = (3:Int32) then
      (f114_meet (4:Int32) T).bind fun (q8, T9) =>
      some (q8, T9)
    else
      (f167_putAside T).bind fun T11 =>
      (pv_lq (f169_lasts_b1 x1) 20000 ((0:Int32), T11)).bind fun (w17, T18) =>
      (f168_comeBack T18).bind fun T20 =>
      some (w17, T20)
theorem f169_lasts_b1_ok {xs : Nat → Int32} {L d : Nat} {r : Option Value × pv_M} {s : pv_F} {v1 : Int32} (st : Int32 × pv_T) (o : (Int32 × pv_T) ⊕ (Int32 × pv_T)) (h : f169_lasts_b1 v1 st = some o) (hK : pv_Kq (f169_lasts_b1_H xs L d r s v1) (f169_lasts_b1_X xs L d r s v1) o) : f169_lasts_b1_H xs L d r s v1 st := by
  obtain ⟨v2, T⟩ := st
  show pv_Ev xs L (d + 4) 169 (0, 0, 32, [some (.ref 94), some (.int v1), some (.int v2)], [], pv_mm s T) r
  unfold f169_lasts_b1 at h
  dsimp only at h
  refine pv_e_bk (ps := [(32, .aload_n 0, 1), (33, .iload_n 1, 1)]) (t' := (0, 0, 34, [some (.ref 94), some (.int v1), some (.int v2)], [.int v1, .ref 94], pv_mm s T)) (by decide +kernel) rfl ?_
  obtain ⟨q13, e12, h⟩ := Option.bind_eq_some_iff.mp h
  refine pv_e_cvi (d := d + 3) (i := 142) (z := 141) (np := 1) (ml := 2) (ci := 6) (As := [.int v1]) (rs := []) (pc' := 37) (by decide +kernel) rfl rfl rfl rfl (Nat.le_of_ble_eq_true rfl) (Nat.le_of_ble_eq_true rfl) rfl (ee141 (d + 3) v1 e12) ?_
  refine pv_e_ifle (off := 14) (b := 51) (pc' := 40) (by decide +kernel) (by decide +kernel) rfl (fun c14 => ?_) (fun c14 => ?_)
  · rw [if_pos c14] at h
    obtain rfl := Option.some.inj h
    exact hK
  · rw [if_neg c14] at h
    refine pv_e_bk (ps := [(40, .aload_n 0, 1), (41, .iload_n 1, 1)]) (t' := (0, 0, 42, [some (.ref 94), some (.int v1), some (.int v2)], [.int v1, .ref 94], pv_mm s T)) (by decide +kernel) rfl ?_
    obtain ⟨T16, e15, h⟩ := Option.bind_eq_some_iff.mp h
    refine pv_e_cvv (d := d + 3) (i := 189) (z := 155) (np := 1) (ml := 3) (ci := 6) (As := [.int v1]) (rs := []) (pc' := 45) (by decide +kernel) rfl rfl rfl rfl (Nat.le_of_ble_eq_true rfl) (Nat.le_of_ble_eq_true rfl) rfl (ee155 (d + 0) v1 e15) ?_
    refine pv_e_bk (ps := [(45, .iinc 2 1, 3), (48, .goto (-16), 3)]) (t' := (0, 0, 32, [some (.ref 94), some (.int v1), some (.int (v2 + (1:Int32)))], [], pv_mm s T16)) (by decide +kernel) rfl ?_
    obtain rfl := Option.some.inj h
    exact hK
theorem ee169 {xs : Nat → Int32} {L : Nat} (d : Nat) (x1 : Int32) {s : pv_F} {T : pv_T} {q : Int32 × pv_T}  (h : f169_lasts x1 T = some q) : pv_Ev xs L (d + 4) 169 (0, 0, 0, [some (.ref 94), some (.int x1), none], [], pv_mm s T) (some (.int q.1), pv_mm s q.2) := by
  generalize hr : ((some (.int q.1), pv_mm s q.2) : Option Value × pv_M) = r
  unfold f169_lasts at h
  refine pv_e_bk (ps := [(0, .aload_n 0, 1), (1, .iload_n 1, 1)]) (t' := (0, 0, 2, [some (.ref 94), some (.int x1), none], [.int x1, .ref 94], pv_mm s T)) (by decide +kernel) rfl ?_
  obtain ⟨q2, e1, h⟩ := Option.bind_eq_some_iff.mp h
  refine pv_e_cvi (d := d + 3) (i := 152) (z := 139) (np := 1) (ml := 2) (ci := 6) (As := [.int x1]) (rs := []) (pc' := 5) (by decide +kernel) rfl rfl rfl rfl (Nat.le_of_ble_eq_true rfl) (Nat.le_of_ble_eq_true rfl) rfl (ee139 (d + 2) x1 e1) ?_
  refine pv_e_ifne (off := 5) (b := 10) (pc' := 8) (by decide +kernel) (by decide +kernel) rfl (fun c3 => ?_) (fun c3 => ?_)
  · rw [if_pos c3] at h
    refine pv_e_bk (ps := [(8, .iconst (-1), 1)]) (t' := (0, 0, 9, [some (.ref 94), some (.int x1), none], [.int (-1:Int32)], pv_mm s T)) (by decide +kernel) rfl ?_
    obtain rfl := Option.some.inj h
    cases hr
    exact pv_e_ri (by decide +kernel)
  · rw [if_neg c3] at h
    refine pv_e_bk (ps := [(10, .aload_n 0, 1)]) (t' := (0, 0, 11, [some (.ref 94), some (.int x1), none], [.ref 94], pv_mm s T)) (by decide +kernel) rfl ?_
    refine pv_e_gr (i := 32) (ci := 6) (j := 11) (b := 101) (pc' := 14) (by decide +kernel) rfl rfl rfl ?_
    refine pv_e_bk (ps := [(14, .iload_n 1, 1)]) (t' := (0, 0, 15, [some (.ref 94), some (.int x1), none], [.int x1, .ref 101], pv_mm s T)) (by decide +kernel) rfl ?_
    obtain ⟨q4, e5, h⟩ := Option.bind_eq_some_iff.mp h
    refine pv_e_rm (pc' := 16) (by decide +kernel) (by decide) rfl e5 rfl ?_
    refine pv_e_bk (ps := [(16, .iconst 3, 1)]) (t' := (0, 0, 17, [some (.ref 94), some (.int x1), none], [.int (3:Int32), .int q4], pv_mm s T)) (by decide +kernel) rfl ?_
    refine pv_e_icmpne (off := 9) (b := 26) (pc' := 20) (by decide +kernel) (by decide +kernel) rfl (fun c6 => ?_) (fun c6 => ?_)
    · rw [if_pos c6] at h
      refine pv_e_bk (ps := [(20, .aload_n 0, 1), (21, .iconst 4, 1)]) (t' := (0, 0, 22, [some (.ref 94), some (.int x1), none], [.int (4:Int32), .ref 94], pv_mm s T)) (by decide +kernel) rfl ?_
      obtain ⟨⟨q8, T9⟩, e7, h⟩ := Option.bind_eq_some_iff.mp h
      dsimp only at h
      refine pv_e_cvi (d := d + 3) (i := 91) (z := 114) (np := 1) (ml := 2) (ci := 6) (As := [.int (4:Int32)]) (rs := []) (pc' := 25) (by decide +kernel) rfl rfl rfl rfl (Nat.le_of_ble_eq_true rfl) (Nat.le_of_ble_eq_true rfl) rfl (ee114 (d + 3) (4:Int32) e7) ?_
      obtain rfl := Option.some.inj h
      cases hr
      exact pv_e_ri (by decide +kernel)
    · rw [if_neg c6] at h
      refine pv_e_bk (ps := [(26, .aload_n 0, 1)]) (t' := (0, 0, 27, [some (.ref 94), some (.int x1), none], [.ref 94], pv_mm s T)) (by decide +kernel) rfl ?_
      obtain ⟨T11, e10, h⟩ := Option.bind_eq_some_iff.mp h
      refine pv_e_cvv (d := d + 3) (i := 206) (z := 167) (np := 0) (ml := 1) (ci := 6) (As := []) (rs := []) (pc' := 30) (by decide +kernel) rfl rfl rfl rfl (Nat.le_of_ble_eq_true rfl) (Nat.le_of_ble_eq_true rfl) rfl (ee167 (d + 2) e10) ?_
      refine pv_e_bk (ps := [(30, .iconst 0, 1), (31, .istore_n 2, 1)]) (t' := (0, 0, 32, [some (.ref 94), some (.int x1), some (.int (0:Int32))], [], pv_mm s T11)) (by decide +kernel) rfl ?_
      obtain ⟨⟨w17, T18⟩, e22, h⟩ := Option.bind_eq_some_iff.mp h
      dsimp only at h
      have hx21 : f169_lasts_b1_X xs L d r s x1 (w17, T18) := by
        show pv_Ev xs L (d + 4) 169 (0, 0, 51, [some (.ref 94), some (.int x1), some (.int w17)], [], pv_mm s T18) r
        refine pv_e_bk (ps := [(51, .aload_n 0, 1)]) (t' := (0, 0, 52, [some (.ref 94), some (.int x1), some (.int w17)], [.ref 94], pv_mm s T18)) (by decide +kernel) rfl ?_
        obtain ⟨T20, e19, h⟩ := Option.bind_eq_some_iff.mp h
        refine pv_e_cvv (d := d + 3) (i := 209) (z := 168) (np := 0) (ml := 1) (ci := 6) (As := []) (rs := []) (pc' := 55) (by decide +kernel) rfl rfl rfl rfl (Nat.le_of_ble_eq_true rfl) (Nat.le_of_ble_eq_true rfl) rfl (ee168 (d + 2) e19) ?_
        refine pv_e_bk (ps := [(55, .iload_n 2, 1)]) (t' := (0, 0, 56, [some (.ref 94), some (.int x1), some (.int w17)], [.int w17], pv_mm s T20)) (by decide +kernel) rfl ?_
        obtain rfl := Option.some.inj h
        cases hr
        exact pv_e_ri (by decide +kernel)
      exact pv_lq_ok (H := f169_lasts_b1_H xs L d r s x1) (X := f169_lasts_b1_X xs L d r s x1) (f169_lasts_b1_ok (xs := xs) (L := L) (d := d) (r := r) (s := s) (v1 := x1)) 20000 _ _ e22 hx21
def f170_becomes_b1 (v1 : Int32) (v2 : Int32) (st : Int32 × Int32 × pv_T) : Option ((Int32 × Int32 × pv_T) ⊕ (Int32 × Int32 × pv_T)) := match st with
  | (v3, v4, T) =>
    if v4 = 0 then
      (f141_lenOf v1 T).bind fun q16 =>
      if q16 ≤ 0 then
        some (.inr (v3, v4, T))
      else
        (f155_comeOne v1 T).bind fun T19 =>
        (f143_isLike v1 v2 T19).bind fun q21 =>
        some (.inl (v3 + (1:Int32), q21, T19))
    else
      some (.inr (v3, v4, T))
def f170_becomes_b1_H (xs : Nat → Int32) (L d : Nat) (r : Option Value × pv_M) (s : pv_F) (v1 : Int32) (v2 : Int32) (st : Int32 × Int32 × pv_T) : Prop := match st with
  | (v3, v4, T) => pv_Ev xs L (d + 4) 170 (0, 0, 41, [some (.ref 94), some (.int v1), some (.int v2), some (.int v3), some (.int v4)], [], pv_mm s T) r
def f170_becomes_b1_X (xs : Nat → Int32) (L d : Nat) (r : Option Value × pv_M) (s : pv_F) (v1 : Int32) (v2 : Int32) (st : Int32 × Int32 × pv_T) : Prop := match st with
  | (v3, v4, T) => pv_Ev xs L (d + 4) 170 (0, 0, 73, [some (.ref 94), some (.int v1), some (.int v2), some (.int v3), some (.int v4)], [], pv_mm s T) r
def f170_becomes (x1 : Int32) (x2 : Int32) (T : pv_T) : Option (Int32 × pv_T) :=
  (f158_areTwo x1 x2 T).bind fun q2 =>
  if q2 = 0 then
    some ((-1:Int32), T)
  else
    (pv_rd T.1 101 7 x1).bind fun q4 =>
    if q4 = (3:Int32) then
      (f114_meet (4:Int32) T).bind fun (q8, T9) =>
      some (q8, T9)
    else
      (f167_putAside T).bind fun T11 =>
      (f143_isLike x1 x2 T11).bind fun q13 =>
      (pv_lq (f170_becomes_b1 x1 x2) 20000 ((0:Int32), q13, T11)).bind fun (w22, w23, T24) =>
      (f168_comeBack T24).bind fun T26 =>
      ((
        if w23 = 0 then
          some (-9:Int32)
        else
          some w22) : Option (Int32)).bind fun t27 =>
      some (t27, T26)
theorem f170_becomes_b1_ok {xs : Nat → Int32} {L d : Nat} {r : Option Value × pv_M} {s : pv_F} {v1 : Int32} {v2 : Int32} (st : Int32 × Int32 × pv_T) (o : (Int32 × Int32 × pv_T) ⊕ (Int32 × Int32 × pv_T)) (h : f170_becomes_b1 v1 v2 st = some o) (hK : pv_Kq (f170_becomes_b1_H xs L d r s v1 v2) (f170_becomes_b1_X xs L d r s v1 v2) o) : f170_becomes_b1_H xs L d r s v1 v2 st := by
  obtain ⟨v3, v4, T⟩ := st
  show pv_Ev xs L (d + 4) 170 (0, 0, 41, [some (.ref 94), some (.int v1), some (.int v2), some (.int v3), some (.int v4)], [], pv_mm s T) r
  unfold f170_becomes_b1 at h
  dsimp only at h
  refine pv_e_bk (ps := [(41, .iload 4, 2)]) (t' := (0, 0, 43, [some (.ref 94), some (.int v1), some (.int v2), some (.int v3), some (.int v4)], [.int v4], pv_mm s T)) (by decide +kernel) rfl ?_
  refine pv_e_ifne (off := 30) (b := 73) (pc' := 46) (by decide +kernel) (by decide +kernel) rfl (fun c14 => ?_) (fun c14 => ?_)
  · rw [if_pos c14] at h
    refine pv_e_bk (ps := [(46, .aload_n 0, 1), (47, .iload_n 1, 1)]) (t' := (0, 0, 48, [some (.ref 94), some (.int v1), some (.int v2), some (.int v3), some (.int v4)], [.int v1, .ref 94], pv_mm s T)) (by decide +kernel) rfl ?_
    obtain ⟨q16, e15, h⟩ := Option.bind_eq_some_iff.mp h
    refine pv_e_cvi (d := d + 3) (i := 142) (z := 141) (np := 1) (ml := 2) (ci := 6) (As := [.int v1]) (rs := []) (pc' := 51) (by decide +kernel) rfl rfl rfl rfl (Nat.le_of_ble_eq_true rfl) (Nat.le_of_ble_eq_true rfl) rfl (ee141 (d + 3) v1 e15) ?_
    refine pv_e_ifle (off := 22) (b := 73) (pc' := 54) (by decide +kernel) (by decide +kernel) rfl (fun c17 => ?_) (fun c17 => ?_)
    · rw [if_pos c17] at h
      obtain rfl := Option.some.inj h
      exact hK
    · rw [if_neg c17] at h
      refine pv_e_bk (ps := [(54, .aload_n 0, 1), (55, .iload_n 1, 1)]) (t' := (0, 0, 56, [some (.ref 94), some (.int v1), some (.int v2), some (.int v3), some (.int v4)], [.int v1, .ref 94], pv_mm s T)) (by decide +kernel) rfl ?_
      obtain ⟨T19, e18, h⟩ := Option.bind_eq_some_iff.mp h
      refine pv_e_cvv (d := d + 3) (i := 189) (z := 155) (np := 1) (ml := 3) (ci := 6) (As := [.int v1]) (rs := []) (pc' := 59) (by decide +kernel) rfl rfl rfl rfl (Nat.le_of_ble_eq_true rfl) (Nat.le_of_ble_eq_true rfl) rfl (ee155 (d + 0) v1 e18) ?_
      refine pv_e_bk (ps := [(59, .iinc 3 1, 3), (62, .aload_n 0, 1), (63, .iload_n 1, 1), (64, .iload_n 2, 1)]) (t' := (0, 0, 65, [some (.ref 94), some (.int v1), some (.int v2), some (.int (v3 + (1:Int32))), some (.int v4)], [.int v2, .int v1, .ref 94], pv_mm s T19)) (by decide +kernel) rfl ?_
      obtain ⟨q21, e20, h⟩ := Option.bind_eq_some_iff.mp h
      refine pv_e_cvi (d := d + 3) (i := 148) (z := 143) (np := 2) (ml := 5) (ci := 6) (As := [.int v1, .int v2]) (rs := []) (pc' := 68) (by decide +kernel) rfl rfl rfl rfl (Nat.le_of_ble_eq_true rfl) (Nat.le_of_ble_eq_true rfl) rfl (ee143 (d + 2) v1 v2 e20) ?_
      refine pv_e_bk (ps := [(68, .istore 4, 2), (70, .goto (-29), 3)]) (t' := (0, 0, 41, [some (.ref 94), some (.int v1), some (.int v2), some (.int (v3 + (1:Int32))), some (.int q21)], [], pv_mm s T19)) (by decide +kernel) rfl ?_
      obtain rfl := Option.some.inj h
      exact hK
  · rw [if_neg c14] at h
    obtain rfl := Option.some.inj h
    exact hK
theorem ee170 {xs : Nat → Int32} {L : Nat} (d : Nat) (x1 : Int32) (x2 : Int32) {s : pv_F} {T : pv_T} {q : Int32 × pv_T}  (h : f170_becomes x1 x2 T = some q) : pv_Ev xs L (d + 4) 170 (0, 0, 0, [some (.ref 94), some (.int x1), some (.int x2), none, none], [], pv_mm s T) (some (.int q.1), pv_mm s q.2) := by
  generalize hr : ((some (.int q.1), pv_mm s q.2) : Option Value × pv_M) = r
  unfold f170_becomes at h
  refine pv_e_bk (ps := [(0, .aload_n 0, 1), (1, .iload_n 1, 1), (2, .iload_n 2, 1)]) (t' := (0, 0, 3, [some (.ref 94), some (.int x1), some (.int x2), none, none], [.int x2, .int x1, .ref 94], pv_mm s T)) (by decide +kernel) rfl ?_
  obtain ⟨q2, e1, h⟩ := Option.bind_eq_some_iff.mp h
  refine pv_e_cvi (d := d + 3) (i := 193) (z := 158) (np := 2) (ml := 3) (ci := 6) (As := [.int x1, .int x2]) (rs := []) (pc' := 6) (by decide +kernel) rfl rfl rfl rfl (Nat.le_of_ble_eq_true rfl) (Nat.le_of_ble_eq_true rfl) rfl (ee158 (d + 1) x1 x2 e1) ?_
  refine pv_e_ifne (off := 5) (b := 11) (pc' := 9) (by decide +kernel) (by decide +kernel) rfl (fun c3 => ?_) (fun c3 => ?_)
  · rw [if_pos c3] at h
    refine pv_e_bk (ps := [(9, .iconst (-1), 1)]) (t' := (0, 0, 10, [some (.ref 94), some (.int x1), some (.int x2), none, none], [.int (-1:Int32)], pv_mm s T)) (by decide +kernel) rfl ?_
    obtain rfl := Option.some.inj h
    cases hr
    exact pv_e_ri (by decide +kernel)
  · rw [if_neg c3] at h
    refine pv_e_bk (ps := [(11, .aload_n 0, 1)]) (t' := (0, 0, 12, [some (.ref 94), some (.int x1), some (.int x2), none, none], [.ref 94], pv_mm s T)) (by decide +kernel) rfl ?_
    refine pv_e_gr (i := 32) (ci := 6) (j := 11) (b := 101) (pc' := 15) (by decide +kernel) rfl rfl rfl ?_
    refine pv_e_bk (ps := [(15, .iload_n 1, 1)]) (t' := (0, 0, 16, [some (.ref 94), some (.int x1), some (.int x2), none, none], [.int x1, .ref 101], pv_mm s T)) (by decide +kernel) rfl ?_
    obtain ⟨q4, e5, h⟩ := Option.bind_eq_some_iff.mp h
    refine pv_e_rm (pc' := 17) (by decide +kernel) (by decide) rfl e5 rfl ?_
    refine pv_e_bk (ps := [(17, .iconst 3, 1)]) (t' := (0, 0, 18, [some (.ref 94), some (.int x1), some (.int x2), none, none], [.int (3:Int32), .int q4], pv_mm s T)) (by decide +kernel) rfl ?_
    refine pv_e_icmpne (off := 9) (b := 27) (pc' := 21) (by decide +kernel) (by decide +kernel) rfl (fun c6 => ?_) (fun c6 => ?_)
    · rw [if_pos c6] at h
      refine pv_e_bk (ps := [(21, .aload_n 0, 1), (22, .iconst 4, 1)]) (t' := (0, 0, 23, [some (.ref 94), some (.int x1), some (.int x2), none, none], [.int (4:Int32), .ref 94], pv_mm s T)) (by decide +kernel) rfl ?_
      obtain ⟨⟨q8, T9⟩, e7, h⟩ := Option.bind_eq_some_iff.mp h
      dsimp only at h
      refine pv_e_cvi (d := d + 3) (i := 91) (z := 114) (np := 1) (ml := 2) (ci := 6) (As := [.int (4:Int32)]) (rs := []) (pc' := 26) (by decide +kernel) rfl rfl rfl rfl (Nat.le_of_ble_eq_true rfl) (Nat.le_of_ble_eq_true rfl) rfl (ee114 (d + 3) (4:Int32) e7) ?_
      obtain rfl := Option.some.inj h
      cases hr
      exact pv_e_ri (by decide +kernel)
    · rw [if_neg c6] at h
      refine pv_e_bk (ps := [(27, .aload_n 0, 1)]) (t' := (0, 0, 28, [some (.ref 94), some (.int x1), some (.int x2), none, none], [.ref 94], pv_mm s T)) (by decide +kernel) rfl ?_
      obtain ⟨T11, e10, h⟩ := Option.bind_eq_some_iff.mp h
      refine pv_e_cvv (d := d + 3) (i := 206) (z := 167) (np := 0) (ml := 1) (ci := 6) (As := []) (rs := []) (pc' := 31) (by decide +kernel) rfl rfl rfl rfl (Nat.le_of_ble_eq_true rfl) (Nat.le_of_ble_eq_true rfl) rfl (ee167 (d + 2) e10) ?_
      refine pv_e_bk (ps := [(31, .iconst 0, 1), (32, .istore_n 3, 1), (33, .aload_n 0, 1), (34, .iload_n 1, 1), (35, .iload_n 2, 1)]) (t' := (0, 0, 36, [some (.ref 94), some (.int x1), some (.int x2), some (.int (0:Int32)), none], [.int x2, .int x1, .ref 94], pv_mm s T11)) (by decide +kernel) rfl ?_
      obtain ⟨q13, e12, h⟩ := Option.bind_eq_some_iff.mp h
      refine pv_e_cvi (d := d + 3) (i := 148) (z := 143) (np := 2) (ml := 5) (ci := 6) (As := [.int x1, .int x2]) (rs := []) (pc' := 39) (by decide +kernel) rfl rfl rfl rfl (Nat.le_of_ble_eq_true rfl) (Nat.le_of_ble_eq_true rfl) rfl (ee143 (d + 2) x1 x2 e12) ?_
      refine pv_e_bk (ps := [(39, .istore 4, 2)]) (t' := (0, 0, 41, [some (.ref 94), some (.int x1), some (.int x2), some (.int (0:Int32)), some (.int q13)], [], pv_mm s T11)) (by decide +kernel) rfl ?_
      obtain ⟨⟨w22, w23, T24⟩, e32, h⟩ := Option.bind_eq_some_iff.mp h
      dsimp only at h
      have hx31 : f170_becomes_b1_X xs L d r s x1 x2 (w22, w23, T24) := by
        show pv_Ev xs L (d + 4) 170 (0, 0, 73, [some (.ref 94), some (.int x1), some (.int x2), some (.int w22), some (.int w23)], [], pv_mm s T24) r
        refine pv_e_bk (ps := [(73, .aload_n 0, 1)]) (t' := (0, 0, 74, [some (.ref 94), some (.int x1), some (.int x2), some (.int w22), some (.int w23)], [.ref 94], pv_mm s T24)) (by decide +kernel) rfl ?_
        obtain ⟨T26, e25, h⟩ := Option.bind_eq_some_iff.mp h
        refine pv_e_cvv (d := d + 3) (i := 209) (z := 168) (np := 0) (ml := 1) (ci := 6) (As := []) (rs := []) (pc' := 77) (by decide +kernel) rfl rfl rfl rfl (Nat.le_of_ble_eq_true rfl) (Nat.le_of_ble_eq_true rfl) rfl (ee168 (d + 2) e25) ?_
        refine pv_e_bk (ps := [(77, .iload 4, 2)]) (t' := (0, 0, 79, [some (.ref 94), some (.int x1), some (.int x2), some (.int w22), some (.int w23)], [.int w23], pv_mm s T26)) (by decide +kernel) rfl ?_
        obtain ⟨t27, hv28, h⟩ := Option.bind_eq_some_iff.mp h
        have hJ29 : pv_Ev xs L (d + 4) 170 (0, 0, 88, [some (.ref 94), some (.int x1), some (.int x2), some (.int w22), some (.int w23)], [.int t27], pv_mm s T26) r := by
          obtain rfl := Option.some.inj h
          cases hr
          exact pv_e_ri (by decide +kernel)
        clear h
        have h := hv28
        clear hv28
        refine pv_e_ifeq (off := 7) (b := 86) (pc' := 82) (by decide +kernel) (by decide +kernel) rfl (fun c30 => ?_) (fun c30 => ?_)
        · rw [if_pos c30] at h
          refine pv_e_bk (ps := [(86, .bipush (-9), 2)]) (t' := (0, 0, 88, [some (.ref 94), some (.int x1), some (.int x2), some (.int w22), some (.int w23)], [.int (-9:Int32)], pv_mm s T26)) (by decide +kernel) rfl ?_
          obtain rfl := Option.some.inj h
          exact hJ29
        · rw [if_neg c30] at h
          refine pv_e_bk (ps := [(82, .iload_n 3, 1), (83, .goto 5, 3)]) (t' := (0, 0, 88, [some (.ref 94), some (.int x1), some (.int x2), some (.int w22), some (.int w23)], [.int w22], pv_mm s T26)) (by decide +kernel) rfl ?_
          obtain rfl := Option.some.inj h
          exact hJ29
      exact pv_lq_ok (H := f170_becomes_b1_H xs L d r s x1 x2) (X := f170_becomes_b1_X xs L d r s x1 x2) (f170_becomes_b1_ok (xs := xs) (L := L) (d := d) (r := r) (s := s) (v1 := x1) (v2 := x2)) 20000 _ _ e32 hx31
def f171_comeAll_b1 (st : Int32 × pv_T) : Option ((Int32 × pv_T) ⊕ (Int32 × pv_T)) := match st with
  | (v1, T) =>
    if (T.1 94 8) ≤ v1 then
      some (.inr (v1, T))
    else
      (pv_rd T.1 101 7 v1).bind fun q2 =>
      ((
        if q2 = (3:Int32) then
          some T
        else
          (f155_comeOne v1 T).bind fun T9 =>
          some T9) : Option (pv_T)).bind fun T4 =>
      some (.inl (v1 + (1:Int32), T4))
def f171_comeAll_b1_H (xs : Nat → Int32) (L d : Nat) (r : Option Value × pv_M) (s : pv_F) (st : Int32 × pv_T) : Prop := match st with
  | (v1, T) => pv_Ev xs L (d + 4) 171 (0, 0, 2, [some (.ref 94), some (.int v1)], [], pv_mm s T) r
def f171_comeAll_b1_X (xs : Nat → Int32) (L d : Nat) (r : Option Value × pv_M) (s : pv_F) (st : Int32 × pv_T) : Prop := match st with
  | (v1, T) => ∀ z1 : Option Value, pv_Ev xs L (d + 4) 171 (0, 0, 31, [some (.ref 94), z1], [], pv_mm s T) r
def f171_comeAll (T : pv_T) : Option (pv_T) :=
  (pv_lq (f171_comeAll_b1) 20000 ((0:Int32), T)).bind fun (w10, T11) =>
  some T11
theorem f171_comeAll_b1_ok {xs : Nat → Int32} {L d : Nat} {r : Option Value × pv_M} {s : pv_F} (st : Int32 × pv_T) (o : (Int32 × pv_T) ⊕ (Int32 × pv_T)) (h : f171_comeAll_b1 st = some o) (hK : pv_Kq (f171_comeAll_b1_H xs L d r s ) (f171_comeAll_b1_X xs L d r s ) o) : f171_comeAll_b1_H xs L d r s  st := by
  obtain ⟨v1, T⟩ := st
  show pv_Ev xs L (d + 4) 171 (0, 0, 2, [some (.ref 94), some (.int v1)], [], pv_mm s T) r
  unfold f171_comeAll_b1 at h
  dsimp only at h
  refine pv_e_bk (ps := [(2, .iload_n 1, 1), (3, .aload_n 0, 1)]) (t' := (0, 0, 4, [some (.ref 94), some (.int v1)], [.ref 94, .int v1], pv_mm s T)) (by decide +kernel) rfl ?_
  refine pv_e_gm (i := 136) (ci := 6) (j := 8) (pc' := 7) (by decide +kernel) (by decide) rfl rfl rfl ?_
  refine pv_e_icmpge (off := 24) (b := 31) (pc' := 10) (by decide +kernel) (by decide +kernel) rfl (fun c1 => ?_) (fun c1 => ?_)
  · rw [if_pos c1] at h
    obtain rfl := Option.some.inj h
    exact hK _
  · rw [if_neg c1] at h
    refine pv_e_bk (ps := [(10, .aload_n 0, 1)]) (t' := (0, 0, 11, [some (.ref 94), some (.int v1)], [.ref 94], pv_mm s T)) (by decide +kernel) rfl ?_
    refine pv_e_gr (i := 32) (ci := 6) (j := 11) (b := 101) (pc' := 14) (by decide +kernel) rfl rfl rfl ?_
    refine pv_e_bk (ps := [(14, .iload_n 1, 1)]) (t' := (0, 0, 15, [some (.ref 94), some (.int v1)], [.int v1, .ref 101], pv_mm s T)) (by decide +kernel) rfl ?_
    obtain ⟨q2, e3, h⟩ := Option.bind_eq_some_iff.mp h
    refine pv_e_rm (pc' := 16) (by decide +kernel) (by decide) rfl e3 rfl ?_
    refine pv_e_bk (ps := [(16, .iconst 3, 1)]) (t' := (0, 0, 17, [some (.ref 94), some (.int v1)], [.int (3:Int32), .int q2], pv_mm s T)) (by decide +kernel) rfl ?_
    obtain ⟨T4, hv5, h⟩ := Option.bind_eq_some_iff.mp h
    have hJ6 : pv_Ev xs L (d + 4) 171 (0, 0, 25, [some (.ref 94), some (.int v1)], [], pv_mm s T4) r := by
      refine pv_e_bk (ps := [(25, .iinc 1 1, 3), (28, .goto (-26), 3)]) (t' := (0, 0, 2, [some (.ref 94), some (.int (v1 + (1:Int32)))], [], pv_mm s T4)) (by decide +kernel) rfl ?_
      obtain rfl := Option.some.inj h
      exact hK
    clear h
    have h := hv5
    clear hv5
    refine pv_e_icmpeq (off := 8) (b := 25) (pc' := 20) (by decide +kernel) (by decide +kernel) rfl (fun c7 => ?_) (fun c7 => ?_)
    · rw [if_pos c7] at h
      obtain rfl := Option.some.inj h
      exact hJ6
    · rw [if_neg c7] at h
      refine pv_e_bk (ps := [(20, .aload_n 0, 1), (21, .iload_n 1, 1)]) (t' := (0, 0, 22, [some (.ref 94), some (.int v1)], [.int v1, .ref 94], pv_mm s T)) (by decide +kernel) rfl ?_
      obtain ⟨T9, e8, h⟩ := Option.bind_eq_some_iff.mp h
      refine pv_e_cvv (d := d + 3) (i := 189) (z := 155) (np := 1) (ml := 3) (ci := 6) (As := [.int v1]) (rs := []) (pc' := 25) (by decide +kernel) rfl rfl rfl rfl (Nat.le_of_ble_eq_true rfl) (Nat.le_of_ble_eq_true rfl) rfl (ee155 (d + 0) v1 e8) ?_
      obtain rfl := Option.some.inj h
      exact hJ6
theorem ee171 {xs : Nat → Int32} {L : Nat} (d : Nat)  {s : pv_F} {T : pv_T} {q : pv_T}  (h : f171_comeAll T = some q) : pv_Ev xs L (d + 4) 171 (0, 0, 0, [some (.ref 94), none], [], pv_mm s T) (none, pv_mm s q) := by
  generalize hr : ((none, pv_mm s q) : Option Value × pv_M) = r
  unfold f171_comeAll at h
  refine pv_e_bk (ps := [(0, .iconst 0, 1), (1, .istore_n 1, 1)]) (t' := (0, 0, 2, [some (.ref 94), some (.int (0:Int32))], [], pv_mm s T)) (by decide +kernel) rfl ?_
  obtain ⟨⟨w10, T11⟩, e13, h⟩ := Option.bind_eq_some_iff.mp h
  dsimp only at h
  have hx12 : f171_comeAll_b1_X xs L d r s (w10, T11) := by
    show ∀ z1 : Option Value, pv_Ev xs L (d + 4) 171 (0, 0, 31, [some (.ref 94), z1], [], pv_mm s T11) r
    intro z1
    obtain rfl := Option.some.inj h
    cases hr
    exact pv_e_rv (by decide +kernel)
  exact pv_lq_ok (H := f171_comeAll_b1_H xs L d r s) (X := f171_comeAll_b1_X xs L d r s) (f171_comeAll_b1_ok (xs := xs) (L := L) (d := d) (r := r) (s := s)) 20000 _ _ e13 hx12
