-- printed by wip/whole/gen/parts.py: methods as functions over the ints of the memory, and that the pure machine runs so
def f181_best_b2 (v1 : Int32) (v2 : Int32) (v3 : Int32) (v4 : Int32) (st : Int32 × pv_T) : Option ((Int32 × pv_T) ⊕ (Int32 × pv_T)) := match st with
  | (v5, T) =>
    (f142_lenOf v1 T).bind fun q12 =>
    if q12 ≤ v5 then
      some (.inr (v5, T))
    else
      (f143_letterOf v1 v5 T).bind fun q15 =>
      (pv_wm T 111 6 v5 q15).bind fun T16 =>
      some (.inl (v5 + (1:Int32), T16))
def f181_best_b2_H (xs : Nat → Int32) (L d : Nat) (r : Option Value × pv_M) (s : pv_F) (v1 : Int32) (v2 : Int32) (v3 : Int32) (v4 : Int32) (st : Int32 × pv_T) : Prop := match st with
  | (v5, T) => pv_Ev xs L (d + 4) 181 (0, 0, 52, [some (.ref 94), some (.int v1), some (.int v2), some (.int v3), some (.int v4), some (.int v5)], [], pv_mm s T) r
def f181_best_b2_X (xs : Nat → Int32) (L d : Nat) (r : Option Value × pv_M) (s : pv_F) (v1 : Int32) (v2 : Int32) (v3 : Int32) (v4 : Int32) (st : Int32 × pv_T) : Prop := match st with
  | (v5, T) => ∀ z5 : Option Value, pv_Ev xs L (d + 4) 181 (0, 0, 82, [some (.ref 94), some (.int v1), some (.int v2), some (.int v3), some (.int v4), z5], [], pv_mm s T) r
def f181_best_b1 (v1 : Int32) (st : Int32 × Int32 × Int32 × pv_T) : Option ((Int32 × Int32 × Int32 × pv_T) ⊕ (Int32 × Int32 × Int32 × pv_T)) := match st with
  | (v2, v3, v4, T) =>
    if (122:Int32) < v4 then
      some (.inr (v2, v3, v4, T))
    else
      (pv_lq (f181_best_b2 v1 v2 v3 v4) 20000 ((0:Int32), T)).bind fun (w18, T19) =>
      (f142_lenOf v1 T19).bind fun q21 =>
      (pv_wm T19 111 6 q21 v4).bind fun T22 =>
      (f142_lenOf v1 T22).bind fun q25 =>
      (pv_pm T22 94 26 (q25 + (1:Int32))).bind fun T26 =>
      (f178_oneLasts v1 T26).bind fun (q29, T30) =>
      ((
        if q29 ≤ v3 then
          some v2
        else
          some v4) : Option (Int32)).bind fun t31 =>
      ((
        if q29 ≤ v3 then
          some v3
        else
          some q29) : Option (Int32)).bind fun t32 =>
      some (.inl (t31, t32, v4 + (1:Int32), T30))
def f181_best_b1_H (xs : Nat → Int32) (L d : Nat) (r : Option Value × pv_M) (s : pv_F) (v1 : Int32) (st : Int32 × Int32 × Int32 × pv_T) : Prop := match st with
  | (v2, v3, v4, T) => ∀ z5 : Option Value, pv_Ev xs L (d + 4) 181 (0, 0, 42, [some (.ref 94), some (.int v1), some (.int v2), some (.int v3), some (.int v4), z5], [], pv_mm s T) r
def f181_best_b1_X (xs : Nat → Int32) (L d : Nat) (r : Option Value × pv_M) (s : pv_F) (v1 : Int32) (st : Int32 × Int32 × Int32 × pv_T) : Prop := match st with
  | (v2, v3, v4, T) => ∀ z4 : Option Value, ∀ z5 : Option Value, pv_Ev xs L (d + 4) 181 (0, 0, 144, [some (.ref 94), some (.int v1), some (.int v2), some (.int v3), z4, z5], [], pv_mm s T) r
def f181_best (x1 : Int32) (T : pv_T) : Option (Int32 × pv_T) :=
  (f140_isOne x1 T).bind fun q2 =>
  if q2 = 0 then
    some ((-1:Int32), T)
  else
    (pv_rd T.1 101 7 x1).bind fun q4 =>
    if q4 = (3:Int32) then
      some ((-4:Int32), T)
    else
      (f142_lenOf x1 T).bind fun q8 =>
      if q8 = (6:Int32) then
        some ((-4:Int32), T)
      else
        (pv_lq (f181_best_b1 x1) 20000 ((-9:Int32), (-1:Int32), (97:Int32), T)).bind fun (w41, w42, w43, T44) =>
        (f116_ask w42 w41 T44).bind fun (q46, T47) =>
        some (q46, T47)
theorem f181_best_b2_ok {xs : Nat → Int32} {L d : Nat} {r : Option Value × pv_M} {s : pv_F} {v1 : Int32} {v2 : Int32} {v3 : Int32} {v4 : Int32} (st : Int32 × pv_T) (o : (Int32 × pv_T) ⊕ (Int32 × pv_T)) (h : f181_best_b2 v1 v2 v3 v4 st = some o) (hK : pv_Kq (f181_best_b2_H xs L d r s v1 v2 v3 v4) (f181_best_b2_X xs L d r s v1 v2 v3 v4) o) : f181_best_b2_H xs L d r s v1 v2 v3 v4 st := by
  obtain ⟨v5, T⟩ := st
  show pv_Ev xs L (d + 4) 181 (0, 0, 52, [some (.ref 94), some (.int v1), some (.int v2), some (.int v3), some (.int v4), some (.int v5)], [], pv_mm s T) r
  unfold f181_best_b2 at h
  dsimp only at h
  refine pv_e_bk (ps := [(52, .iload 5, 2), (54, .aload_n 0, 1), (55, .iload_n 1, 1)]) (t' := (0, 0, 56, [some (.ref 94), some (.int v1), some (.int v2), some (.int v3), some (.int v4), some (.int v5)], [.int v1, .ref 94, .int v5], pv_mm s T)) (by decide +kernel) rfl ?_
  obtain ⟨q12, e11, h⟩ := Option.bind_eq_some_iff.mp h
  refine pv_e_cvi (d := d + 3) (i := 142) (z := 142) (np := 1) (ml := 2) (ci := 6) (As := [.int v1]) (rs := [.int v5]) (pc' := 59) (by decide +kernel) rfl rfl rfl rfl (Nat.le_of_ble_eq_true rfl) (Nat.le_of_ble_eq_true rfl) rfl (ee142 (d + 3) v1 e11) ?_
  refine pv_e_icmpge (off := 23) (b := 82) (pc' := 62) (by decide +kernel) (by decide +kernel) rfl (fun c13 => ?_) (fun c13 => ?_)
  · rw [if_pos c13] at h
    obtain rfl := Option.some.inj h
    exact hK _
  · rw [if_neg c13] at h
    refine pv_e_bk (ps := [(62, .aload_n 0, 1)]) (t' := (0, 0, 63, [some (.ref 94), some (.int v1), some (.int v2), some (.int v3), some (.int v4), some (.int v5)], [.ref 94], pv_mm s T)) (by decide +kernel) rfl ?_
    refine pv_e_gr (i := 62) (ci := 6) (j := 25) (b := 111) (pc' := 66) (by decide +kernel) rfl rfl rfl ?_
    refine pv_e_bk (ps := [(66, .iload 5, 2), (68, .aload_n 0, 1), (69, .iload_n 1, 1), (70, .iload 5, 2)]) (t' := (0, 0, 72, [some (.ref 94), some (.int v1), some (.int v2), some (.int v3), some (.int v4), some (.int v5)], [.int v5, .int v1, .ref 94, .int v5, .ref 111], pv_mm s T)) (by decide +kernel) rfl ?_
    obtain ⟨q15, e14, h⟩ := Option.bind_eq_some_iff.mp h
    refine pv_e_cvi (d := d + 3) (i := 145) (z := 143) (np := 2) (ml := 3) (ci := 6) (As := [.int v1, .int v5]) (rs := [.int v5, .ref 111]) (pc' := 75) (by decide +kernel) rfl rfl rfl rfl (Nat.le_of_ble_eq_true rfl) (Nat.le_of_ble_eq_true rfl) rfl (ee143 (d + 3) v1 v5 e14) ?_
    obtain ⟨T16, e17, h⟩ := Option.bind_eq_some_iff.mp h
    refine pv_e_wm (pc' := 76) (by decide +kernel) (by decide) rfl e17 rfl ?_
    refine pv_e_bk (ps := [(76, .iinc 5 1, 3), (79, .goto (-27), 3)]) (t' := (0, 0, 52, [some (.ref 94), some (.int v1), some (.int v2), some (.int v3), some (.int v4), some (.int (v5 + (1:Int32)))], [], pv_mm s T16)) (by decide +kernel) rfl ?_
    obtain rfl := Option.some.inj h
    exact hK
theorem f181_best_b1_ok {xs : Nat → Int32} {L d : Nat} {r : Option Value × pv_M} {s : pv_F} {v1 : Int32} (st : Int32 × Int32 × Int32 × pv_T) (o : (Int32 × Int32 × Int32 × pv_T) ⊕ (Int32 × Int32 × Int32 × pv_T)) (h : f181_best_b1 v1 st = some o) (hK : pv_Kq (f181_best_b1_H xs L d r s v1) (f181_best_b1_X xs L d r s v1) o) : f181_best_b1_H xs L d r s v1 st := by
  obtain ⟨v2, v3, v4, T⟩ := st
  show ∀ z5 : Option Value, pv_Ev xs L (d + 4) 181 (0, 0, 42, [some (.ref 94), some (.int v1), some (.int v2), some (.int v3), some (.int v4), z5], [], pv_mm s T) r
  intro z5
  unfold f181_best_b1 at h
  dsimp only at h
  refine pv_e_bk (ps := [(42, .iload 4, 2), (44, .bipush 122, 2)]) (t' := (0, 0, 46, [some (.ref 94), some (.int v1), some (.int v2), some (.int v3), some (.int v4), z5], [.int (122:Int32), .int v4], pv_mm s T)) (by decide +kernel) rfl ?_
  refine pv_e_icmpgt (off := 98) (b := 144) (pc' := 49) (by decide +kernel) (by decide +kernel) rfl (fun c10 => ?_) (fun c10 => ?_)
  · rw [if_pos c10] at h
    obtain rfl := Option.some.inj h
    exact hK _ _
  · rw [if_neg c10] at h
    refine pv_e_bk (ps := [(49, .iconst 0, 1), (50, .istore 5, 2)]) (t' := (0, 0, 52, [some (.ref 94), some (.int v1), some (.int v2), some (.int v3), some (.int v4), some (.int (0:Int32))], [], pv_mm s T)) (by decide +kernel) rfl ?_
    obtain ⟨⟨w18, T19⟩, e40, h⟩ := Option.bind_eq_some_iff.mp h
    dsimp only at h
    have hx39 : f181_best_b2_X xs L d r s v1 v2 v3 v4 (w18, T19) := by
      show ∀ z5 : Option Value, pv_Ev xs L (d + 4) 181 (0, 0, 82, [some (.ref 94), some (.int v1), some (.int v2), some (.int v3), some (.int v4), z5], [], pv_mm s T19) r
      intro z5
      refine pv_e_bk (ps := [(82, .aload_n 0, 1)]) (t' := (0, 0, 83, [some (.ref 94), some (.int v1), some (.int v2), some (.int v3), some (.int v4), z5], [.ref 94], pv_mm s T19)) (by decide +kernel) rfl ?_
      refine pv_e_gr (i := 62) (ci := 6) (j := 25) (b := 111) (pc' := 86) (by decide +kernel) rfl rfl rfl ?_
      refine pv_e_bk (ps := [(86, .aload_n 0, 1), (87, .iload_n 1, 1)]) (t' := (0, 0, 88, [some (.ref 94), some (.int v1), some (.int v2), some (.int v3), some (.int v4), z5], [.int v1, .ref 94, .ref 111], pv_mm s T19)) (by decide +kernel) rfl ?_
      obtain ⟨q21, e20, h⟩ := Option.bind_eq_some_iff.mp h
      refine pv_e_cvi (d := d + 3) (i := 142) (z := 142) (np := 1) (ml := 2) (ci := 6) (As := [.int v1]) (rs := [.ref 111]) (pc' := 91) (by decide +kernel) rfl rfl rfl rfl (Nat.le_of_ble_eq_true rfl) (Nat.le_of_ble_eq_true rfl) rfl (ee142 (d + 3) v1 e20) ?_
      refine pv_e_bk (ps := [(91, .iload 4, 2)]) (t' := (0, 0, 93, [some (.ref 94), some (.int v1), some (.int v2), some (.int v3), some (.int v4), z5], [.int v4, .int q21, .ref 111], pv_mm s T19)) (by decide +kernel) rfl ?_
      obtain ⟨T22, e23, h⟩ := Option.bind_eq_some_iff.mp h
      refine pv_e_wm (pc' := 94) (by decide +kernel) (by decide) rfl e23 rfl ?_
      refine pv_e_bk (ps := [(94, .aload_n 0, 1), (95, .aload_n 0, 1), (96, .iload_n 1, 1)]) (t' := (0, 0, 97, [some (.ref 94), some (.int v1), some (.int v2), some (.int v3), some (.int v4), z5], [.int v1, .ref 94, .ref 94], pv_mm s T22)) (by decide +kernel) rfl ?_
      obtain ⟨q25, e24, h⟩ := Option.bind_eq_some_iff.mp h
      refine pv_e_cvi (d := d + 3) (i := 142) (z := 142) (np := 1) (ml := 2) (ci := 6) (As := [.int v1]) (rs := [.ref 94]) (pc' := 100) (by decide +kernel) rfl rfl rfl rfl (Nat.le_of_ble_eq_true rfl) (Nat.le_of_ble_eq_true rfl) rfl (ee142 (d + 3) v1 e24) ?_
      refine pv_e_bk (ps := [(100, .iconst 1, 1), (101, .iadd, 1)]) (t' := (0, 0, 102, [some (.ref 94), some (.int v1), some (.int v2), some (.int v3), some (.int v4), z5], [.int (q25 + (1:Int32)), .ref 94], pv_mm s T22)) (by decide +kernel) rfl ?_
      obtain ⟨T26, e27, h⟩ := Option.bind_eq_some_iff.mp h
      refine pv_e_pms (i := 225) (ci := 6) (j := 26) (pc' := 105) (by decide +kernel) rfl rfl (by decide) rfl rfl e27 rfl ?_
      refine pv_e_bk (ps := [(105, .aload_n 0, 1), (106, .iload_n 1, 1)]) (t' := (0, 0, 107, [some (.ref 94), some (.int v1), some (.int v2), some (.int v3), some (.int v4), z5], [.int v1, .ref 94], pv_mm s T26)) (by decide +kernel) rfl ?_
      obtain ⟨⟨q29, T30⟩, e28, h⟩ := Option.bind_eq_some_iff.mp h
      dsimp only at h
      refine pv_e_cvi (d := d + 3) (i := 234) (z := 178) (np := 1) (ml := 3) (ci := 6) (As := [.int v1]) (rs := []) (pc' := 110) (by decide +kernel) rfl rfl rfl rfl (Nat.le_of_ble_eq_true rfl) (Nat.le_of_ble_eq_true rfl) rfl (ee178 (d + 0) v1 e28) ?_
      refine pv_e_bk (ps := [(110, .istore 5, 2), (112, .iload 5, 2), (114, .iload_n 3, 1)]) (t' := (0, 0, 115, [some (.ref 94), some (.int v1), some (.int v2), some (.int v3), some (.int v4), some (.int q29)], [.int v3, .int q29], pv_mm s T30)) (by decide +kernel) rfl ?_
      obtain ⟨t31, hv36, h⟩ := Option.bind_eq_some_iff.mp h
      have hJ37 : pv_Ev xs L (d + 4) 181 (0, 0, 124, [some (.ref 94), some (.int v1), some (.int v2), some (.int v3), some (.int v4), some (.int q29)], [.int t31], pv_mm s T30) r := by
        refine pv_e_bk (ps := [(124, .istore_n 2, 1), (125, .iload 5, 2), (127, .iload_n 3, 1)]) (t' := (0, 0, 128, [some (.ref 94), some (.int v1), some (.int t31), some (.int v3), some (.int v4), some (.int q29)], [.int v3, .int q29], pv_mm s T30)) (by decide +kernel) rfl ?_
        obtain ⟨t32, hv33, h⟩ := Option.bind_eq_some_iff.mp h
        have hJ34 : pv_Ev xs L (d + 4) 181 (0, 0, 137, [some (.ref 94), some (.int v1), some (.int t31), some (.int v3), some (.int v4), some (.int q29)], [.int t32], pv_mm s T30) r := by
          refine pv_e_bk (ps := [(137, .istore_n 3, 1), (138, .iinc 4 1, 3), (141, .goto (-99), 3)]) (t' := (0, 0, 42, [some (.ref 94), some (.int v1), some (.int t31), some (.int t32), some (.int (v4 + (1:Int32))), some (.int q29)], [], pv_mm s T30)) (by decide +kernel) rfl ?_
          obtain rfl := Option.some.inj h
          exact hK _
        clear h
        have h := hv33
        clear hv33
        refine pv_e_icmple (off := 8) (b := 136) (pc' := 131) (by decide +kernel) (by decide +kernel) rfl (fun c35 => ?_) (fun c35 => ?_)
        · rw [if_pos c35] at h
          refine pv_e_bk (ps := [(136, .iload_n 3, 1)]) (t' := (0, 0, 137, [some (.ref 94), some (.int v1), some (.int t31), some (.int v3), some (.int v4), some (.int q29)], [.int v3], pv_mm s T30)) (by decide +kernel) rfl ?_
          obtain rfl := Option.some.inj h
          exact hJ34
        · rw [if_neg c35] at h
          refine pv_e_bk (ps := [(131, .iload 5, 2), (133, .goto 4, 3)]) (t' := (0, 0, 137, [some (.ref 94), some (.int v1), some (.int t31), some (.int v3), some (.int v4), some (.int q29)], [.int q29], pv_mm s T30)) (by decide +kernel) rfl ?_
          obtain rfl := Option.some.inj h
          exact hJ34
      clear h
      have h := hv36
      clear hv36
      refine pv_e_icmple (off := 8) (b := 123) (pc' := 118) (by decide +kernel) (by decide +kernel) rfl (fun c38 => ?_) (fun c38 => ?_)
      · rw [if_pos c38] at h
        refine pv_e_bk (ps := [(123, .iload_n 2, 1)]) (t' := (0, 0, 124, [some (.ref 94), some (.int v1), some (.int v2), some (.int v3), some (.int v4), some (.int q29)], [.int v2], pv_mm s T30)) (by decide +kernel) rfl ?_
        obtain rfl := Option.some.inj h
        exact hJ37
      · rw [if_neg c38] at h
        refine pv_e_bk (ps := [(118, .iload 4, 2), (120, .goto 4, 3)]) (t' := (0, 0, 124, [some (.ref 94), some (.int v1), some (.int v2), some (.int v3), some (.int v4), some (.int q29)], [.int v4], pv_mm s T30)) (by decide +kernel) rfl ?_
        obtain rfl := Option.some.inj h
        exact hJ37
    exact pv_lq_ok (H := f181_best_b2_H xs L d r s v1 v2 v3 v4) (X := f181_best_b2_X xs L d r s v1 v2 v3 v4) (f181_best_b2_ok (xs := xs) (L := L) (d := d) (r := r) (s := s) (v1 := v1) (v2 := v2) (v3 := v3) (v4 := v4)) 20000 _ _ e40 hx39
theorem ee181 {xs : Nat → Int32} {L : Nat} (d : Nat) (x1 : Int32) {s : pv_F} {T : pv_T} {q : Int32 × pv_T}  (h : f181_best x1 T = some q) : pv_Ev xs L (d + 4) 181 (0, 0, 0, [some (.ref 94), some (.int x1), none, none, none, none], [], pv_mm s T) (some (.int q.1), pv_mm s q.2) := by
  generalize hr : ((some (.int q.1), pv_mm s q.2) : Option Value × pv_M) = r
  unfold f181_best at h
  refine pv_e_bk (ps := [(0, .aload_n 0, 1), (1, .iload_n 1, 1)]) (t' := (0, 0, 2, [some (.ref 94), some (.int x1), none, none, none, none], [.int x1, .ref 94], pv_mm s T)) (by decide +kernel) rfl ?_
  obtain ⟨q2, e1, h⟩ := Option.bind_eq_some_iff.mp h
  refine pv_e_cvi (d := d + 3) (i := 152) (z := 140) (np := 1) (ml := 2) (ci := 6) (As := [.int x1]) (rs := []) (pc' := 5) (by decide +kernel) rfl rfl rfl rfl (Nat.le_of_ble_eq_true rfl) (Nat.le_of_ble_eq_true rfl) rfl (ee140 (d + 2) x1 e1) ?_
  refine pv_e_ifne (off := 5) (b := 10) (pc' := 8) (by decide +kernel) (by decide +kernel) rfl (fun c3 => ?_) (fun c3 => ?_)
  · rw [if_pos c3] at h
    refine pv_e_bk (ps := [(8, .iconst (-1), 1)]) (t' := (0, 0, 9, [some (.ref 94), some (.int x1), none, none, none, none], [.int (-1:Int32)], pv_mm s T)) (by decide +kernel) rfl ?_
    obtain rfl := Option.some.inj h
    cases hr
    exact pv_e_ri (by decide +kernel)
  · rw [if_neg c3] at h
    refine pv_e_bk (ps := [(10, .aload_n 0, 1)]) (t' := (0, 0, 11, [some (.ref 94), some (.int x1), none, none, none, none], [.ref 94], pv_mm s T)) (by decide +kernel) rfl ?_
    refine pv_e_gr (i := 32) (ci := 6) (j := 11) (b := 101) (pc' := 14) (by decide +kernel) rfl rfl rfl ?_
    refine pv_e_bk (ps := [(14, .iload_n 1, 1)]) (t' := (0, 0, 15, [some (.ref 94), some (.int x1), none, none, none, none], [.int x1, .ref 101], pv_mm s T)) (by decide +kernel) rfl ?_
    obtain ⟨q4, e5, h⟩ := Option.bind_eq_some_iff.mp h
    refine pv_e_rm (pc' := 16) (by decide +kernel) (by decide) rfl e5 rfl ?_
    refine pv_e_bk (ps := [(16, .iconst 3, 1)]) (t' := (0, 0, 17, [some (.ref 94), some (.int x1), none, none, none, none], [.int (3:Int32), .int q4], pv_mm s T)) (by decide +kernel) rfl ?_
    refine pv_e_icmpeq (off := 13) (b := 30) (pc' := 20) (by decide +kernel) (by decide +kernel) rfl (fun c6 => ?_) (fun c6 => ?_)
    · rw [if_pos c6] at h
      refine pv_e_bk (ps := [(30, .bipush (-4), 2)]) (t' := (0, 0, 32, [some (.ref 94), some (.int x1), none, none, none, none], [.int (-4:Int32)], pv_mm s T)) (by decide +kernel) rfl ?_
      obtain rfl := Option.some.inj h
      cases hr
      exact pv_e_ri (by decide +kernel)
    · rw [if_neg c6] at h
      refine pv_e_bk (ps := [(20, .aload_n 0, 1), (21, .iload_n 1, 1)]) (t' := (0, 0, 22, [some (.ref 94), some (.int x1), none, none, none, none], [.int x1, .ref 94], pv_mm s T)) (by decide +kernel) rfl ?_
      obtain ⟨q8, e7, h⟩ := Option.bind_eq_some_iff.mp h
      refine pv_e_cvi (d := d + 3) (i := 142) (z := 142) (np := 1) (ml := 2) (ci := 6) (As := [.int x1]) (rs := []) (pc' := 25) (by decide +kernel) rfl rfl rfl rfl (Nat.le_of_ble_eq_true rfl) (Nat.le_of_ble_eq_true rfl) rfl (ee142 (d + 3) x1 e7) ?_
      refine pv_e_bk (ps := [(25, .bipush 6, 2)]) (t' := (0, 0, 27, [some (.ref 94), some (.int x1), none, none, none, none], [.int (6:Int32), .int q8], pv_mm s T)) (by decide +kernel) rfl ?_
      refine pv_e_icmpne (off := 6) (b := 33) (pc' := 30) (by decide +kernel) (by decide +kernel) rfl (fun c9 => ?_) (fun c9 => ?_)
      · rw [if_pos c9] at h
        refine pv_e_bk (ps := [(30, .bipush (-4), 2)]) (t' := (0, 0, 32, [some (.ref 94), some (.int x1), none, none, none, none], [.int (-4:Int32)], pv_mm s T)) (by decide +kernel) rfl ?_
        obtain rfl := Option.some.inj h
        cases hr
        exact pv_e_ri (by decide +kernel)
      · rw [if_neg c9] at h
        refine pv_e_bk (ps := [(33, .bipush (-9), 2), (35, .istore_n 2, 1), (36, .iconst (-1), 1), (37, .istore_n 3, 1), (38, .bipush 97, 2), (40, .istore 4, 2)]) (t' := (0, 0, 42, [some (.ref 94), some (.int x1), some (.int (-9:Int32)), some (.int (-1:Int32)), some (.int (97:Int32)), none], [], pv_mm s T)) (by decide +kernel) rfl ?_
        obtain ⟨⟨w41, w42, w43, T44⟩, e49, h⟩ := Option.bind_eq_some_iff.mp h
        dsimp only at h
        have hx48 : f181_best_b1_X xs L d r s x1 (w41, w42, w43, T44) := by
          show ∀ z4 : Option Value, ∀ z5 : Option Value, pv_Ev xs L (d + 4) 181 (0, 0, 144, [some (.ref 94), some (.int x1), some (.int w41), some (.int w42), z4, z5], [], pv_mm s T44) r
          intro z4 z5
          refine pv_e_bk (ps := [(144, .aload_n 0, 1), (145, .iload_n 3, 1), (146, .iload_n 2, 1)]) (t' := (0, 0, 147, [some (.ref 94), some (.int x1), some (.int w41), some (.int w42), z4, z5], [.int w41, .int w42, .ref 94], pv_mm s T44)) (by decide +kernel) rfl ?_
          obtain ⟨⟨q46, T47⟩, e45, h⟩ := Option.bind_eq_some_iff.mp h
          dsimp only at h
          refine pv_e_cvi (d := d + 3) (i := 109) (z := 116) (np := 2) (ml := 3) (ci := 6) (As := [.int w42, .int w41]) (rs := []) (pc' := 150) (by decide +kernel) rfl rfl rfl rfl (Nat.le_of_ble_eq_true rfl) (Nat.le_of_ble_eq_true rfl) rfl (ee116 (d + 3) w42 w41 e45) ?_
          obtain rfl := Option.some.inj h
          cases hr
          exact pv_e_ri (by decide +kernel)
        exact pv_lq_ok (H := f181_best_b1_H xs L d r s x1) (X := f181_best_b1_X xs L d r s x1) (f181_best_b1_ok (xs := xs) (L := L) (d := d) (r := r) (s := s) (v1 := x1)) 20000 _ _ e49 hx48 _
def f182_isCall (x1 : Int32) (T : pv_T) : Option (Int32) :=
  ((
    if x1 < 0 then
      some (0:Int32)
    else
      (pv_dv x1 (100:Int32)).bind fun q7 =>
      (f140_isOne q7 T).bind fun q10 =>
      if q10 = 0 then
        some (0:Int32)
      else
        (pv_rmd x1 (100:Int32)).bind fun q12 =>
        (f140_isOne q12 T).bind fun q15 =>
        if q15 = 0 then
          some (0:Int32)
        else
          (pv_dv x1 (100:Int32)).bind fun q17 =>
          (pv_rmd x1 (100:Int32)).bind fun q19 =>
          if q17 = q19 then
            some (0:Int32)
          else
            some (1:Int32)) : Option (Int32)).bind fun t1 =>
  (pv_bl t1).bind fun q2 => some q2
theorem ee182 {xs : Nat → Int32} {L : Nat} (d : Nat) (x1 : Int32) {s : pv_F} {T : pv_T} {q : Int32}  (h : f182_isCall x1 T = some q) : pv_Ev xs L (d + 2) 182 (0, 0, 0, [some (.ref 94), some (.int x1)], [], pv_mm s T) (some (.int q), pv_mm s T) := by
  generalize hr : ((some (.int q), pv_mm s T) : Option Value × pv_M) = r
  unfold f182_isCall at h
  refine pv_e_bk (ps := [(0, .iload_n 1, 1)]) (t' := (0, 0, 1, [some (.ref 94), some (.int x1)], [.int x1], pv_mm s T)) (by decide +kernel) rfl ?_
  obtain ⟨t1, hv4, h⟩ := Option.bind_eq_some_iff.mp h
  have hJ5 : pv_Ev xs L (d + 2) 182 (0, 0, 42, [some (.ref 94), some (.int x1)], [.int t1], pv_mm s T) r := by
    obtain ⟨q2, e3, h⟩ := Option.bind_eq_some_iff.mp h
    obtain rfl := Option.some.inj h
    cases hr
    exact pv_e_rz (by decide +kernel) e3
  clear h
  have h := hv4
  clear hv4
  refine pv_e_iflt (off := 40) (b := 41) (pc' := 4) (by decide +kernel) (by decide +kernel) rfl (fun c6 => ?_) (fun c6 => ?_)
  · rw [if_pos c6] at h
    refine pv_e_bk (ps := [(41, .iconst 0, 1)]) (t' := (0, 0, 42, [some (.ref 94), some (.int x1)], [.int (0:Int32)], pv_mm s T)) (by decide +kernel) rfl ?_
    obtain rfl := Option.some.inj h
    exact hJ5
  · rw [if_neg c6] at h
    refine pv_e_bk (ps := [(4, .aload_n 0, 1), (5, .iload_n 1, 1), (6, .bipush 100, 2)]) (t' := (0, 0, 8, [some (.ref 94), some (.int x1)], [.int (100:Int32), .int x1, .ref 94], pv_mm s T)) (by decide +kernel) rfl ?_
    obtain ⟨q7, e8, h⟩ := Option.bind_eq_some_iff.mp h
    refine pv_e_dv (pc' := 9) (by decide +kernel) e8 rfl ?_
    obtain ⟨q10, e9, h⟩ := Option.bind_eq_some_iff.mp h
    refine pv_e_cvi (d := d + 1) (i := 152) (z := 140) (np := 1) (ml := 2) (ci := 6) (As := [.int q7]) (rs := []) (pc' := 12) (by decide +kernel) rfl rfl rfl rfl (Nat.le_of_ble_eq_true rfl) (Nat.le_of_ble_eq_true rfl) rfl (ee140 (d + 0) q7 e9) ?_
    refine pv_e_ifeq (off := 29) (b := 41) (pc' := 15) (by decide +kernel) (by decide +kernel) rfl (fun c11 => ?_) (fun c11 => ?_)
    · rw [if_pos c11] at h
      refine pv_e_bk (ps := [(41, .iconst 0, 1)]) (t' := (0, 0, 42, [some (.ref 94), some (.int x1)], [.int (0:Int32)], pv_mm s T)) (by decide +kernel) rfl ?_
      obtain rfl := Option.some.inj h
      exact hJ5
    · rw [if_neg c11] at h
      refine pv_e_bk (ps := [(15, .aload_n 0, 1), (16, .iload_n 1, 1), (17, .bipush 100, 2)]) (t' := (0, 0, 19, [some (.ref 94), some (.int x1)], [.int (100:Int32), .int x1, .ref 94], pv_mm s T)) (by decide +kernel) rfl ?_
      obtain ⟨q12, e13, h⟩ := Option.bind_eq_some_iff.mp h
      refine pv_e_rm_ (pc' := 20) (by decide +kernel) e13 rfl ?_
      obtain ⟨q15, e14, h⟩ := Option.bind_eq_some_iff.mp h
      refine pv_e_cvi (d := d + 1) (i := 152) (z := 140) (np := 1) (ml := 2) (ci := 6) (As := [.int q12]) (rs := []) (pc' := 23) (by decide +kernel) rfl rfl rfl rfl (Nat.le_of_ble_eq_true rfl) (Nat.le_of_ble_eq_true rfl) rfl (ee140 (d + 0) q12 e14) ?_
      refine pv_e_ifeq (off := 18) (b := 41) (pc' := 26) (by decide +kernel) (by decide +kernel) rfl (fun c16 => ?_) (fun c16 => ?_)
      · rw [if_pos c16] at h
        refine pv_e_bk (ps := [(41, .iconst 0, 1)]) (t' := (0, 0, 42, [some (.ref 94), some (.int x1)], [.int (0:Int32)], pv_mm s T)) (by decide +kernel) rfl ?_
        obtain rfl := Option.some.inj h
        exact hJ5
      · rw [if_neg c16] at h
        refine pv_e_bk (ps := [(26, .iload_n 1, 1), (27, .bipush 100, 2)]) (t' := (0, 0, 29, [some (.ref 94), some (.int x1)], [.int (100:Int32), .int x1], pv_mm s T)) (by decide +kernel) rfl ?_
        obtain ⟨q17, e18, h⟩ := Option.bind_eq_some_iff.mp h
        refine pv_e_dv (pc' := 30) (by decide +kernel) e18 rfl ?_
        refine pv_e_bk (ps := [(30, .iload_n 1, 1), (31, .bipush 100, 2)]) (t' := (0, 0, 33, [some (.ref 94), some (.int x1)], [.int (100:Int32), .int x1, .int q17], pv_mm s T)) (by decide +kernel) rfl ?_
        obtain ⟨q19, e20, h⟩ := Option.bind_eq_some_iff.mp h
        refine pv_e_rm_ (pc' := 34) (by decide +kernel) e20 rfl ?_
        refine pv_e_icmpeq (off := 7) (b := 41) (pc' := 37) (by decide +kernel) (by decide +kernel) rfl (fun c21 => ?_) (fun c21 => ?_)
        · rw [if_pos c21] at h
          refine pv_e_bk (ps := [(41, .iconst 0, 1)]) (t' := (0, 0, 42, [some (.ref 94), some (.int x1)], [.int (0:Int32)], pv_mm s T)) (by decide +kernel) rfl ?_
          obtain rfl := Option.some.inj h
          exact hJ5
        · rw [if_neg c21] at h
          refine pv_e_bk (ps := [(37, .iconst 1, 1), (38, .goto 4, 3)]) (t' := (0, 0, 42, [some (.ref 94), some (.int x1)], [.int (1:Int32)], pv_mm s T)) (by decide +kernel) rfl ?_
          obtain rfl := Option.some.inj h
          exact hJ5
def f183_askedCalls_b1 (v1 : Int32) (T : pv_T) (st : Int32) : Option (Int32 ⊕ (Int32 ⊕ (Int32 × pv_T))) := match st with
  | v4 =>
    (pv_rd T.1 96 6 v1).bind fun q8 =>
    if q8 ≤ v4 then
      some (.inr (.inl v4))
    else
      (f123_rowAt v1 v4 T).bind fun q12 =>
      (f182_isCall q12 T).bind fun q14 =>
      if q14 = 0 then
        (f115_meet (3:Int32) T).bind fun (q17, T18) =>
        some (.inr (.inr (q17, T18)))
      else
        some (.inl (v4 + (1:Int32)))
def f183_askedCalls_b1_H (xs : Nat → Int32) (L d : Nat) (r : Option Value × pv_M) (s : pv_F) (v1 : Int32) (T : pv_T) (v2 : Int32) (v3 : Int32) (st : Int32) : Prop := match st with
  | v4 => pv_Ev xs L (d + 3) 183 (0, 0, 31, [some (.ref 94), some (.int v1), some (.int v2), some (.int v3), some (.int v4)], [], pv_mm s T) r
def f183_askedCalls_b1_X (xs : Nat → Int32) (L d : Nat) (r : Option Value × pv_M) (s : pv_F) (v1 : Int32) (T : pv_T) (v2 : Int32) (v3 : Int32) (st : Int32) : Prop := match st with
  | v4 => ∀ z4 : Option Value, pv_Ev xs L (d + 3) 183 (0, 0, 68, [some (.ref 94), some (.int v1), some (.int v2), some (.int v3), z4], [], pv_mm s T) r
def f183_askedCalls (x1 : Int32) (x2 : Int32) (T : pv_T) : Option (Int32 × pv_T) :=
  (f121_askedRow x1 T).bind fun (q2, T3) =>
  if 0 ≤ q2 then
    (pv_rd T3.1 96 6 x1).bind fun q5 =>
    if q5 ≤ x2 then
      (pv_lp (f183_askedCalls_b1 x1 T3) 20000 (0:Int32)).bind fun o22 => match o22 with
        | .inl w19 =>
          some ((0:Int32), T3)
        | .inr q => some q
    else
      (f115_meet (5:Int32) T3).bind fun (q24, T25) =>
      some (q24, T25)
  else
    some (q2, T3)
theorem f183_askedCalls_b1_ok {xs : Nat → Int32} {L d : Nat} {r : Option Value × pv_M} {s : pv_F} {v1 : Int32} {T : pv_T} {v2 : Int32} {v3 : Int32} (st : Int32) (o : Int32 ⊕ (Int32 ⊕ (Int32 × pv_T))) (h : f183_askedCalls_b1 v1 T st = some o) (hK : pv_Kp (f183_askedCalls_b1_H xs L d r s v1 T v2 v3) (f183_askedCalls_b1_X xs L d r s v1 T v2 v3) (fun q => (some (.int q.1), pv_mm s q.2) = r) o) : f183_askedCalls_b1_H xs L d r s v1 T v2 v3 st := by
  obtain ⟨v4, rfl⟩ : ∃ z, z = st := ⟨st, rfl⟩
  show pv_Ev xs L (d + 3) 183 (0, 0, 31, [some (.ref 94), some (.int v1), some (.int v2), some (.int v3), some (.int v4)], [], pv_mm s T) r
  unfold f183_askedCalls_b1 at h
  dsimp only at h
  refine pv_e_bk (ps := [(31, .iload 4, 2), (33, .aload_n 0, 1)]) (t' := (0, 0, 34, [some (.ref 94), some (.int v1), some (.int v2), some (.int v3), some (.int v4)], [.ref 94, .int v4], pv_mm s T)) (by decide +kernel) rfl ?_
  refine pv_e_gr (i := 13) (ci := 6) (j := 3) (b := 96) (pc' := 37) (by decide +kernel) rfl rfl rfl ?_
  refine pv_e_bk (ps := [(37, .iload_n 1, 1)]) (t' := (0, 0, 38, [some (.ref 94), some (.int v1), some (.int v2), some (.int v3), some (.int v4)], [.int v1, .ref 96, .int v4], pv_mm s T)) (by decide +kernel) rfl ?_
  obtain ⟨q8, e9, h⟩ := Option.bind_eq_some_iff.mp h
  refine pv_e_rm (pc' := 39) (by decide +kernel) (by decide) rfl e9 rfl ?_
  refine pv_e_icmpge (off := 29) (b := 68) (pc' := 42) (by decide +kernel) (by decide +kernel) rfl (fun c10 => ?_) (fun c10 => ?_)
  · rw [if_pos c10] at h
    obtain rfl := Option.some.inj h
    exact hK _
  · rw [if_neg c10] at h
    refine pv_e_bk (ps := [(42, .aload_n 0, 1), (43, .aload_n 0, 1), (44, .iload_n 1, 1), (45, .iload 4, 2)]) (t' := (0, 0, 47, [some (.ref 94), some (.int v1), some (.int v2), some (.int v3), some (.int v4)], [.int v4, .int v1, .ref 94, .ref 94], pv_mm s T)) (by decide +kernel) rfl ?_
    obtain ⟨q12, e11, h⟩ := Option.bind_eq_some_iff.mp h
    refine pv_e_cvi (d := d + 2) (i := 105) (z := 123) (np := 2) (ml := 3) (ci := 6) (As := [.int v1, .int v4]) (rs := [.ref 94]) (pc' := 50) (by decide +kernel) rfl rfl rfl rfl (Nat.le_of_ble_eq_true rfl) (Nat.le_of_ble_eq_true rfl) rfl (ee123 (d + 2) v1 v4 e11) ?_
    obtain ⟨q14, e13, h⟩ := Option.bind_eq_some_iff.mp h
    refine pv_e_cvi (d := d + 2) (i := 237) (z := 182) (np := 1) (ml := 2) (ci := 6) (As := [.int q12]) (rs := []) (pc' := 53) (by decide +kernel) rfl rfl rfl rfl (Nat.le_of_ble_eq_true rfl) (Nat.le_of_ble_eq_true rfl) rfl (ee182 (d + 0) q12 e13) ?_
    refine pv_e_ifne (off := 9) (b := 62) (pc' := 56) (by decide +kernel) (by decide +kernel) rfl (fun c15 => ?_) (fun c15 => ?_)
    · rw [if_pos c15] at h
      refine pv_e_bk (ps := [(56, .aload_n 0, 1), (57, .iconst 3, 1)]) (t' := (0, 0, 58, [some (.ref 94), some (.int v1), some (.int v2), some (.int v3), some (.int v4)], [.int (3:Int32), .ref 94], pv_mm s T)) (by decide +kernel) rfl ?_
      obtain ⟨⟨q17, T18⟩, e16, h⟩ := Option.bind_eq_some_iff.mp h
      dsimp only at h
      refine pv_e_cvi (d := d + 2) (i := 91) (z := 115) (np := 1) (ml := 2) (ci := 6) (As := [.int (3:Int32)]) (rs := []) (pc' := 61) (by decide +kernel) rfl rfl rfl rfl (Nat.le_of_ble_eq_true rfl) (Nat.le_of_ble_eq_true rfl) rfl (ee115 (d + 2) (3:Int32) e16) ?_
      obtain rfl := Option.some.inj h
      cases hK
      exact pv_e_ri (by decide +kernel)
    · rw [if_neg c15] at h
      refine pv_e_bk (ps := [(62, .iinc 4 1, 3), (65, .goto (-34), 3)]) (t' := (0, 0, 31, [some (.ref 94), some (.int v1), some (.int v2), some (.int v3), some (.int (v4 + (1:Int32)))], [], pv_mm s T)) (by decide +kernel) rfl ?_
      obtain rfl := Option.some.inj h
      exact hK
theorem ee183 {xs : Nat → Int32} {L : Nat} (d : Nat) (x1 : Int32) (x2 : Int32) {s : pv_F} {T : pv_T} {q : Int32 × pv_T}  (h : f183_askedCalls x1 x2 T = some q) : pv_Ev xs L (d + 3) 183 (0, 0, 0, [some (.ref 94), some (.int x1), some (.int x2), none, none], [], pv_mm s T) (some (.int q.1), pv_mm s q.2) := by
  generalize hr : ((some (.int q.1), pv_mm s q.2) : Option Value × pv_M) = r
  unfold f183_askedCalls at h
  refine pv_e_bk (ps := [(0, .aload_n 0, 1), (1, .iload_n 1, 1)]) (t' := (0, 0, 2, [some (.ref 94), some (.int x1), some (.int x2), none, none], [.int x1, .ref 94], pv_mm s T)) (by decide +kernel) rfl ?_
  obtain ⟨⟨q2, T3⟩, e1, h⟩ := Option.bind_eq_some_iff.mp h
  dsimp only at h
  refine pv_e_cvi (d := d + 2) (i := 102) (z := 121) (np := 1) (ml := 2) (ci := 6) (As := [.int x1]) (rs := []) (pc' := 5) (by decide +kernel) rfl rfl rfl rfl (Nat.le_of_ble_eq_true rfl) (Nat.le_of_ble_eq_true rfl) rfl (ee121 (d + 0) x1 e1) ?_
  refine pv_e_bk (ps := [(5, .istore_n 3, 1), (6, .iload_n 3, 1)]) (t' := (0, 0, 7, [some (.ref 94), some (.int x1), some (.int x2), some (.int q2), none], [.int q2], pv_mm s T3)) (by decide +kernel) rfl ?_
  refine pv_e_ifge (off := 5) (b := 12) (pc' := 10) (by decide +kernel) (by decide +kernel) rfl (fun c4 => ?_) (fun c4 => ?_)
  · rw [if_pos c4] at h
    refine pv_e_bk (ps := [(12, .aload_n 0, 1)]) (t' := (0, 0, 13, [some (.ref 94), some (.int x1), some (.int x2), some (.int q2), none], [.ref 94], pv_mm s T3)) (by decide +kernel) rfl ?_
    refine pv_e_gr (i := 13) (ci := 6) (j := 3) (b := 96) (pc' := 16) (by decide +kernel) rfl rfl rfl ?_
    refine pv_e_bk (ps := [(16, .iload_n 1, 1)]) (t' := (0, 0, 17, [some (.ref 94), some (.int x1), some (.int x2), some (.int q2), none], [.int x1, .ref 96], pv_mm s T3)) (by decide +kernel) rfl ?_
    obtain ⟨q5, e6, h⟩ := Option.bind_eq_some_iff.mp h
    refine pv_e_rm (pc' := 18) (by decide +kernel) (by decide) rfl e6 rfl ?_
    refine pv_e_bk (ps := [(18, .iload_n 2, 1)]) (t' := (0, 0, 19, [some (.ref 94), some (.int x1), some (.int x2), some (.int q2), none], [.int x2, .int q5], pv_mm s T3)) (by decide +kernel) rfl ?_
    refine pv_e_icmple (off := 9) (b := 28) (pc' := 22) (by decide +kernel) (by decide +kernel) rfl (fun c7 => ?_) (fun c7 => ?_)
    · rw [if_pos c7] at h
      refine pv_e_bk (ps := [(28, .iconst 0, 1), (29, .istore 4, 2)]) (t' := (0, 0, 31, [some (.ref 94), some (.int x1), some (.int x2), some (.int q2), some (.int (0:Int32))], [], pv_mm s T3)) (by decide +kernel) rfl ?_
      obtain ⟨o22, e21, h⟩ := Option.bind_eq_some_iff.mp h
      refine pv_lp_ok (H := f183_askedCalls_b1_H xs L d r s x1 T3 x2 q2) (X := f183_askedCalls_b1_X xs L d r s x1 T3 x2 q2) (Z := (fun q => (some (.int q.1), pv_mm s q.2) = r)) (f183_askedCalls_b1_ok (xs := xs) (L := L) (d := d) (r := r) (s := s) (v1 := x1) (T := T3) (v2 := x2) (v3 := q2)) 20000 _ _ e21 ?_
      rcases o22 with w19 | q
      · dsimp only at h ⊢
        show ∀ z4 : Option Value, pv_Ev xs L (d + 3) 183 (0, 0, 68, [some (.ref 94), some (.int x1), some (.int x2), some (.int q2), z4], [], pv_mm s T3) r
        intro z4
        refine pv_e_bk (ps := [(68, .iconst 0, 1)]) (t' := (0, 0, 69, [some (.ref 94), some (.int x1), some (.int x2), some (.int q2), z4], [.int (0:Int32)], pv_mm s T3)) (by decide +kernel) rfl ?_
        obtain rfl := Option.some.inj h
        cases hr
        exact pv_e_ri (by decide +kernel)
      · dsimp only at h ⊢
        obtain rfl := Option.some.inj h
        exact hr
    · rw [if_neg c7] at h
      refine pv_e_bk (ps := [(22, .aload_n 0, 1), (23, .iconst 5, 1)]) (t' := (0, 0, 24, [some (.ref 94), some (.int x1), some (.int x2), some (.int q2), none], [.int (5:Int32), .ref 94], pv_mm s T3)) (by decide +kernel) rfl ?_
      obtain ⟨⟨q24, T25⟩, e23, h⟩ := Option.bind_eq_some_iff.mp h
      dsimp only at h
      refine pv_e_cvi (d := d + 2) (i := 91) (z := 115) (np := 1) (ml := 2) (ci := 6) (As := [.int (5:Int32)]) (rs := []) (pc' := 27) (by decide +kernel) rfl rfl rfl rfl (Nat.le_of_ble_eq_true rfl) (Nat.le_of_ble_eq_true rfl) rfl (ee115 (d + 2) (5:Int32) e23) ?_
      obtain rfl := Option.some.inj h
      cases hr
      exact pv_e_ri (by decide +kernel)
  · rw [if_neg c4] at h
    refine pv_e_bk (ps := [(10, .iload_n 3, 1)]) (t' := (0, 0, 11, [some (.ref 94), some (.int x1), some (.int x2), some (.int q2), none], [.int q2], pv_mm s T3)) (by decide +kernel) rfl ?_
    obtain rfl := Option.some.inj h
    cases hr
    exact pv_e_ri (by decide +kernel)
def f184_missed_b1 (T : pv_T) (st : Int32 × Int32) : Option ((Int32 × Int32) ⊕ (Int32 × Int32)) := match st with
  | (v1, v2) =>
    if (T.1 94 8) ≤ v2 then
      some (.inr (v1, v2))
    else
      (pv_rd T.1 105 78 ((63:Int32) + v2)).bind fun q2 =>
      some (.inl (v1 + q2, v2 + (1:Int32)))
def f184_missed_b1_H (xs : Nat → Int32) (L d : Nat) (r : Option Value × pv_M) (s : pv_F) (T : pv_T) (st : Int32 × Int32) : Prop := match st with
  | (v1, v2) => pv_Ev xs L (d + 0) 184 (0, 0, 4, [some (.ref 94), some (.int v1), some (.int v2)], [], pv_mm s T) r
def f184_missed_b1_X (xs : Nat → Int32) (L d : Nat) (r : Option Value × pv_M) (s : pv_F) (T : pv_T) (st : Int32 × Int32) : Prop := match st with
  | (v1, v2) => ∀ z2 : Option Value, pv_Ev xs L (d + 0) 184 (0, 0, 30, [some (.ref 94), some (.int v1), z2], [], pv_mm s T) r
def f184_missed (T : pv_T) : Option (Int32) :=
  (pv_lq (f184_missed_b1 T) 20000 ((0:Int32), (0:Int32))).bind fun (w4, w5) =>
  some w4
theorem f184_missed_b1_ok {xs : Nat → Int32} {L d : Nat} {r : Option Value × pv_M} {s : pv_F} {T : pv_T} (st : Int32 × Int32) (o : (Int32 × Int32) ⊕ (Int32 × Int32)) (h : f184_missed_b1 T st = some o) (hK : pv_Kq (f184_missed_b1_H xs L d r s T) (f184_missed_b1_X xs L d r s T) o) : f184_missed_b1_H xs L d r s T st := by
  obtain ⟨v1, v2⟩ := st
  show pv_Ev xs L (d + 0) 184 (0, 0, 4, [some (.ref 94), some (.int v1), some (.int v2)], [], pv_mm s T) r
  unfold f184_missed_b1 at h
  dsimp only at h
  refine pv_e_bk (ps := [(4, .iload_n 2, 1), (5, .aload_n 0, 1)]) (t' := (0, 0, 6, [some (.ref 94), some (.int v1), some (.int v2)], [.ref 94, .int v2], pv_mm s T)) (by decide +kernel) rfl ?_
  refine pv_e_gm (i := 136) (ci := 6) (j := 8) (pc' := 9) (by decide +kernel) (by decide) rfl rfl rfl ?_
  refine pv_e_icmpge (off := 21) (b := 30) (pc' := 12) (by decide +kernel) (by decide +kernel) rfl (fun c1 => ?_) (fun c1 => ?_)
  · rw [if_pos c1] at h
    obtain rfl := Option.some.inj h
    exact hK _
  · rw [if_neg c1] at h
    refine pv_e_bk (ps := [(12, .iload_n 1, 1), (13, .aload_n 0, 1)]) (t' := (0, 0, 14, [some (.ref 94), some (.int v1), some (.int v2)], [.ref 94, .int v1], pv_mm s T)) (by decide +kernel) rfl ?_
    refine pv_e_gr (i := 44) (ci := 6) (j := 17) (b := 105) (pc' := 17) (by decide +kernel) rfl rfl rfl ?_
    refine pv_e_bk (ps := [(17, .bipush 63, 2), (19, .iload_n 2, 1), (20, .iadd, 1)]) (t' := (0, 0, 21, [some (.ref 94), some (.int v1), some (.int v2)], [.int ((63:Int32) + v2), .ref 105, .int v1], pv_mm s T)) (by decide +kernel) rfl ?_
    obtain ⟨q2, e3, h⟩ := Option.bind_eq_some_iff.mp h
    refine pv_e_rm (pc' := 22) (by decide +kernel) (by decide) rfl e3 rfl ?_
    refine pv_e_bk (ps := [(22, .iadd, 1), (23, .istore_n 1, 1), (24, .iinc 2 1, 3), (27, .goto (-23), 3)]) (t' := (0, 0, 4, [some (.ref 94), some (.int (v1 + q2)), some (.int (v2 + (1:Int32)))], [], pv_mm s T)) (by decide +kernel) rfl ?_
    obtain rfl := Option.some.inj h
    exact hK
theorem ee184 {xs : Nat → Int32} {L : Nat} (d : Nat)  {s : pv_F} {T : pv_T} {q : Int32}  (h : f184_missed T = some q) : pv_Ev xs L (d + 0) 184 (0, 0, 0, [some (.ref 94), none, none], [], pv_mm s T) (some (.int q), pv_mm s T) := by
  generalize hr : ((some (.int q), pv_mm s T) : Option Value × pv_M) = r
  unfold f184_missed at h
  refine pv_e_bk (ps := [(0, .iconst 0, 1), (1, .istore_n 1, 1), (2, .iconst 0, 1), (3, .istore_n 2, 1)]) (t' := (0, 0, 4, [some (.ref 94), some (.int (0:Int32)), some (.int (0:Int32))], [], pv_mm s T)) (by decide +kernel) rfl ?_
  obtain ⟨⟨w4, w5⟩, e7, h⟩ := Option.bind_eq_some_iff.mp h
  dsimp only at h
  have hx6 : f184_missed_b1_X xs L d r s T (w4, w5) := by
    show ∀ z2 : Option Value, pv_Ev xs L (d + 0) 184 (0, 0, 30, [some (.ref 94), some (.int w4), z2], [], pv_mm s T) r
    intro z2
    refine pv_e_bk (ps := [(30, .iload_n 1, 1)]) (t' := (0, 0, 31, [some (.ref 94), some (.int w4), z2], [.int w4], pv_mm s T)) (by decide +kernel) rfl ?_
    obtain rfl := Option.some.inj h
    cases hr
    exact pv_e_ri (by decide +kernel)
  exact pv_lq_ok (H := f184_missed_b1_H xs L d r s T) (X := f184_missed_b1_X xs L d r s T) (f184_missed_b1_ok (xs := xs) (L := L) (d := d) (r := r) (s := s) (T := T)) 20000 _ _ e7 hx6
def f185_callOn_b1 (v1 : Int32) (st : Int32 × pv_T) : Option ((Int32 × pv_T) ⊕ (Int32 × pv_T)) := match st with
  | (v2, T) =>
    (pv_rd T.1 96 6 v1).bind fun q1 =>
    if q1 ≤ v2 then
      some (.inr (v2, T))
    else
      (f123_rowAt v1 v2 T).bind fun q5 =>
      (pv_dv q5 (100:Int32)).bind fun q6 =>
      (f123_rowAt v1 v2 T).bind fun q9 =>
      (pv_rmd q9 (100:Int32)).bind fun q10 =>
      (f152_mayCall q6 q10 T).bind fun q13 =>
      if q13 = 0 then
        some (.inr (v2, T))
      else
        (f123_rowAt v1 v2 T).bind fun q16 =>
        (pv_dv q16 (100:Int32)).bind fun q17 =>
        (f123_rowAt v1 v2 T).bind fun q20 =>
        (pv_rmd q20 (100:Int32)).bind fun q21 =>
        (f157_doCall q17 q21 T).bind fun (q24, T25) =>
        some (.inl (v2 + (1:Int32), T25))
def f185_callOn_b1_H (xs : Nat → Int32) (L d : Nat) (r : Option Value × pv_M) (s : pv_F) (v1 : Int32) (st : Int32 × pv_T) : Prop := match st with
  | (v2, T) => pv_Ev xs L (d + 5) 185 (0, 0, 2, [some (.ref 94), some (.int v1), some (.int v2)], [], pv_mm s T) r
def f185_callOn_b1_X (xs : Nat → Int32) (L d : Nat) (r : Option Value × pv_M) (s : pv_F) (v1 : Int32) (st : Int32 × pv_T) : Prop := match st with
  | (v2, T) => pv_Ev xs L (d + 5) 185 (0, 0, 66, [some (.ref 94), some (.int v1), some (.int v2)], [], pv_mm s T) r
def f185_callOn (x1 : Int32) (T : pv_T) : Option (Int32 × pv_T) :=
  (pv_lq (f185_callOn_b1 x1) 20000 ((0:Int32), T)).bind fun (w26, T27) =>
  some (w26, T27)
theorem f185_callOn_b1_ok {xs : Nat → Int32} {L d : Nat} {r : Option Value × pv_M} {s : pv_F} {v1 : Int32} (st : Int32 × pv_T) (o : (Int32 × pv_T) ⊕ (Int32 × pv_T)) (h : f185_callOn_b1 v1 st = some o) (hK : pv_Kq (f185_callOn_b1_H xs L d r s v1) (f185_callOn_b1_X xs L d r s v1) o) : f185_callOn_b1_H xs L d r s v1 st := by
  obtain ⟨v2, T⟩ := st
  show pv_Ev xs L (d + 5) 185 (0, 0, 2, [some (.ref 94), some (.int v1), some (.int v2)], [], pv_mm s T) r
  unfold f185_callOn_b1 at h
  dsimp only at h
  refine pv_e_bk (ps := [(2, .iload_n 2, 1), (3, .aload_n 0, 1)]) (t' := (0, 0, 4, [some (.ref 94), some (.int v1), some (.int v2)], [.ref 94, .int v2], pv_mm s T)) (by decide +kernel) rfl ?_
  refine pv_e_gr (i := 13) (ci := 6) (j := 3) (b := 96) (pc' := 7) (by decide +kernel) rfl rfl rfl ?_
  refine pv_e_bk (ps := [(7, .iload_n 1, 1)]) (t' := (0, 0, 8, [some (.ref 94), some (.int v1), some (.int v2)], [.int v1, .ref 96, .int v2], pv_mm s T)) (by decide +kernel) rfl ?_
  obtain ⟨q1, e2, h⟩ := Option.bind_eq_some_iff.mp h
  refine pv_e_rm (pc' := 9) (by decide +kernel) (by decide) rfl e2 rfl ?_
  refine pv_e_icmpge (off := 57) (b := 66) (pc' := 12) (by decide +kernel) (by decide +kernel) rfl (fun c3 => ?_) (fun c3 => ?_)
  · rw [if_pos c3] at h
    obtain rfl := Option.some.inj h
    exact hK
  · rw [if_neg c3] at h
    refine pv_e_bk (ps := [(12, .aload_n 0, 1), (13, .aload_n 0, 1), (14, .iload_n 1, 1), (15, .iload_n 2, 1)]) (t' := (0, 0, 16, [some (.ref 94), some (.int v1), some (.int v2)], [.int v2, .int v1, .ref 94, .ref 94], pv_mm s T)) (by decide +kernel) rfl ?_
    obtain ⟨q5, e4, h⟩ := Option.bind_eq_some_iff.mp h
    refine pv_e_cvi (d := d + 4) (i := 105) (z := 123) (np := 2) (ml := 3) (ci := 6) (As := [.int v1, .int v2]) (rs := [.ref 94]) (pc' := 19) (by decide +kernel) rfl rfl rfl rfl (Nat.le_of_ble_eq_true rfl) (Nat.le_of_ble_eq_true rfl) rfl (ee123 (d + 4) v1 v2 e4) ?_
    refine pv_e_bk (ps := [(19, .bipush 100, 2)]) (t' := (0, 0, 21, [some (.ref 94), some (.int v1), some (.int v2)], [.int (100:Int32), .int q5, .ref 94], pv_mm s T)) (by decide +kernel) rfl ?_
    obtain ⟨q6, e7, h⟩ := Option.bind_eq_some_iff.mp h
    refine pv_e_dv (pc' := 22) (by decide +kernel) e7 rfl ?_
    refine pv_e_bk (ps := [(22, .aload_n 0, 1), (23, .iload_n 1, 1), (24, .iload_n 2, 1)]) (t' := (0, 0, 25, [some (.ref 94), some (.int v1), some (.int v2)], [.int v2, .int v1, .ref 94, .int q6, .ref 94], pv_mm s T)) (by decide +kernel) rfl ?_
    obtain ⟨q9, e8, h⟩ := Option.bind_eq_some_iff.mp h
    refine pv_e_cvi (d := d + 4) (i := 105) (z := 123) (np := 2) (ml := 3) (ci := 6) (As := [.int v1, .int v2]) (rs := [.int q6, .ref 94]) (pc' := 28) (by decide +kernel) rfl rfl rfl rfl (Nat.le_of_ble_eq_true rfl) (Nat.le_of_ble_eq_true rfl) rfl (ee123 (d + 4) v1 v2 e8) ?_
    refine pv_e_bk (ps := [(28, .bipush 100, 2)]) (t' := (0, 0, 30, [some (.ref 94), some (.int v1), some (.int v2)], [.int (100:Int32), .int q9, .int q6, .ref 94], pv_mm s T)) (by decide +kernel) rfl ?_
    obtain ⟨q10, e11, h⟩ := Option.bind_eq_some_iff.mp h
    refine pv_e_rm_ (pc' := 31) (by decide +kernel) e11 rfl ?_
    obtain ⟨q13, e12, h⟩ := Option.bind_eq_some_iff.mp h
    refine pv_e_cvi (d := d + 4) (i := 161) (z := 152) (np := 2) (ml := 3) (ci := 6) (As := [.int q6, .int q10]) (rs := []) (pc' := 34) (by decide +kernel) rfl rfl rfl rfl (Nat.le_of_ble_eq_true rfl) (Nat.le_of_ble_eq_true rfl) rfl (ee152 (d + 3) q6 q10 e12) ?_
    refine pv_e_ifeq (off := 32) (b := 66) (pc' := 37) (by decide +kernel) (by decide +kernel) rfl (fun c14 => ?_) (fun c14 => ?_)
    · rw [if_pos c14] at h
      obtain rfl := Option.some.inj h
      exact hK
    · rw [if_neg c14] at h
      refine pv_e_bk (ps := [(37, .aload_n 0, 1), (38, .aload_n 0, 1), (39, .iload_n 1, 1), (40, .iload_n 2, 1)]) (t' := (0, 0, 41, [some (.ref 94), some (.int v1), some (.int v2)], [.int v2, .int v1, .ref 94, .ref 94], pv_mm s T)) (by decide +kernel) rfl ?_
      obtain ⟨q16, e15, h⟩ := Option.bind_eq_some_iff.mp h
      refine pv_e_cvi (d := d + 4) (i := 105) (z := 123) (np := 2) (ml := 3) (ci := 6) (As := [.int v1, .int v2]) (rs := [.ref 94]) (pc' := 44) (by decide +kernel) rfl rfl rfl rfl (Nat.le_of_ble_eq_true rfl) (Nat.le_of_ble_eq_true rfl) rfl (ee123 (d + 4) v1 v2 e15) ?_
      refine pv_e_bk (ps := [(44, .bipush 100, 2)]) (t' := (0, 0, 46, [some (.ref 94), some (.int v1), some (.int v2)], [.int (100:Int32), .int q16, .ref 94], pv_mm s T)) (by decide +kernel) rfl ?_
      obtain ⟨q17, e18, h⟩ := Option.bind_eq_some_iff.mp h
      refine pv_e_dv (pc' := 47) (by decide +kernel) e18 rfl ?_
      refine pv_e_bk (ps := [(47, .aload_n 0, 1), (48, .iload_n 1, 1), (49, .iload_n 2, 1)]) (t' := (0, 0, 50, [some (.ref 94), some (.int v1), some (.int v2)], [.int v2, .int v1, .ref 94, .int q17, .ref 94], pv_mm s T)) (by decide +kernel) rfl ?_
      obtain ⟨q20, e19, h⟩ := Option.bind_eq_some_iff.mp h
      refine pv_e_cvi (d := d + 4) (i := 105) (z := 123) (np := 2) (ml := 3) (ci := 6) (As := [.int v1, .int v2]) (rs := [.int q17, .ref 94]) (pc' := 53) (by decide +kernel) rfl rfl rfl rfl (Nat.le_of_ble_eq_true rfl) (Nat.le_of_ble_eq_true rfl) rfl (ee123 (d + 4) v1 v2 e19) ?_
      refine pv_e_bk (ps := [(53, .bipush 100, 2)]) (t' := (0, 0, 55, [some (.ref 94), some (.int v1), some (.int v2)], [.int (100:Int32), .int q20, .int q17, .ref 94], pv_mm s T)) (by decide +kernel) rfl ?_
      obtain ⟨q21, e22, h⟩ := Option.bind_eq_some_iff.mp h
      refine pv_e_rm_ (pc' := 56) (by decide +kernel) e22 rfl ?_
      obtain ⟨⟨q24, T25⟩, e23, h⟩ := Option.bind_eq_some_iff.mp h
      dsimp only at h
      refine pv_e_cvi (d := d + 4) (i := 199) (z := 157) (np := 2) (ml := 5) (ci := 6) (As := [.int q17, .int q21]) (rs := []) (pc' := 59) (by decide +kernel) rfl rfl rfl rfl (Nat.le_of_ble_eq_true rfl) (Nat.le_of_ble_eq_true rfl) rfl (ee157 (d + 0) q17 q21 e23) ?_
      refine pv_e_bk (ps := [(59, .pop, 1), (60, .iinc 2 1, 3), (63, .goto (-61), 3)]) (t' := (0, 0, 2, [some (.ref 94), some (.int v1), some (.int (v2 + (1:Int32)))], [], pv_mm s T25)) (by decide +kernel) rfl ?_
      obtain rfl := Option.some.inj h
      exact hK
theorem ee185 {xs : Nat → Int32} {L : Nat} (d : Nat) (x1 : Int32) {s : pv_F} {T : pv_T} {q : Int32 × pv_T}  (h : f185_callOn x1 T = some q) : pv_Ev xs L (d + 5) 185 (0, 0, 0, [some (.ref 94), some (.int x1), none], [], pv_mm s T) (some (.int q.1), pv_mm s q.2) := by
  generalize hr : ((some (.int q.1), pv_mm s q.2) : Option Value × pv_M) = r
  unfold f185_callOn at h
  refine pv_e_bk (ps := [(0, .iconst 0, 1), (1, .istore_n 2, 1)]) (t' := (0, 0, 2, [some (.ref 94), some (.int x1), some (.int (0:Int32))], [], pv_mm s T)) (by decide +kernel) rfl ?_
  obtain ⟨⟨w26, T27⟩, e29, h⟩ := Option.bind_eq_some_iff.mp h
  dsimp only at h
  have hx28 : f185_callOn_b1_X xs L d r s x1 (w26, T27) := by
    show pv_Ev xs L (d + 5) 185 (0, 0, 66, [some (.ref 94), some (.int x1), some (.int w26)], [], pv_mm s T27) r
    refine pv_e_bk (ps := [(66, .iload_n 2, 1)]) (t' := (0, 0, 67, [some (.ref 94), some (.int x1), some (.int w26)], [.int w26], pv_mm s T27)) (by decide +kernel) rfl ?_
    obtain rfl := Option.some.inj h
    cases hr
    exact pv_e_ri (by decide +kernel)
  exact pv_lq_ok (H := f185_callOn_b1_H xs L d r s x1) (X := f185_callOn_b1_X xs L d r s x1) (f185_callOn_b1_ok (xs := xs) (L := L) (d := d) (r := r) (s := s) (v1 := x1)) 20000 _ _ e29 hx28
def f186_judge (x1 : Int32) (T : pv_T) : Option (Int32 × pv_T) :=
  (f183_askedCalls x1 (40:Int32) T).bind fun (q2, T3) =>
  if 0 ≤ q2 then
    (f168_putAside T3).bind fun T6 =>
    (f184_missed T6).bind fun q8 =>
    (f185_callOn x1 T6).bind fun (q10, T11) =>
    (f184_missed T11).bind fun q13 =>
    (f169_comeBack T11).bind fun T15 =>
    (f116_ask (q13 - q8) q10 T15).bind fun (q17, T18) =>
    some (q17, T18)
  else
    some (q2, T3)
theorem ee186 {xs : Nat → Int32} {L : Nat} (d : Nat) (x1 : Int32) {s : pv_F} {T : pv_T} {q : Int32 × pv_T}  (h : f186_judge x1 T = some q) : pv_Ev xs L (d + 6) 186 (0, 0, 0, [some (.ref 94), some (.int x1), none, none, none, none], [], pv_mm s T) (some (.int q.1), pv_mm s q.2) := by
  generalize hr : ((some (.int q.1), pv_mm s q.2) : Option Value × pv_M) = r
  unfold f186_judge at h
  refine pv_e_bk (ps := [(0, .aload_n 0, 1), (1, .iload_n 1, 1), (2, .bipush 40, 2)]) (t' := (0, 0, 4, [some (.ref 94), some (.int x1), none, none, none, none], [.int (40:Int32), .int x1, .ref 94], pv_mm s T)) (by decide +kernel) rfl ?_
  obtain ⟨⟨q2, T3⟩, e1, h⟩ := Option.bind_eq_some_iff.mp h
  dsimp only at h
  refine pv_e_cvi (d := d + 5) (i := 240) (z := 183) (np := 2) (ml := 5) (ci := 6) (As := [.int x1, .int (40:Int32)]) (rs := []) (pc' := 7) (by decide +kernel) rfl rfl rfl rfl (Nat.le_of_ble_eq_true rfl) (Nat.le_of_ble_eq_true rfl) rfl (ee183 (d + 2) x1 (40:Int32) e1) ?_
  refine pv_e_bk (ps := [(7, .istore_n 2, 1), (8, .iload_n 2, 1)]) (t' := (0, 0, 9, [some (.ref 94), some (.int x1), some (.int q2), none, none, none], [.int q2], pv_mm s T3)) (by decide +kernel) rfl ?_
  refine pv_e_ifge (off := 5) (b := 14) (pc' := 12) (by decide +kernel) (by decide +kernel) rfl (fun c4 => ?_) (fun c4 => ?_)
  · rw [if_pos c4] at h
    refine pv_e_bk (ps := [(14, .aload_n 0, 1)]) (t' := (0, 0, 15, [some (.ref 94), some (.int x1), some (.int q2), none, none, none], [.ref 94], pv_mm s T3)) (by decide +kernel) rfl ?_
    obtain ⟨T6, e5, h⟩ := Option.bind_eq_some_iff.mp h
    refine pv_e_cvv (d := d + 5) (i := 206) (z := 168) (np := 0) (ml := 1) (ci := 6) (As := []) (rs := []) (pc' := 18) (by decide +kernel) rfl rfl rfl rfl (Nat.le_of_ble_eq_true rfl) (Nat.le_of_ble_eq_true rfl) rfl (ee168 (d + 4) e5) ?_
    refine pv_e_bk (ps := [(18, .aload_n 0, 1)]) (t' := (0, 0, 19, [some (.ref 94), some (.int x1), some (.int q2), none, none, none], [.ref 94], pv_mm s T6)) (by decide +kernel) rfl ?_
    obtain ⟨q8, e7, h⟩ := Option.bind_eq_some_iff.mp h
    refine pv_e_cvi (d := d + 5) (i := 243) (z := 184) (np := 0) (ml := 3) (ci := 6) (As := []) (rs := []) (pc' := 22) (by decide +kernel) rfl rfl rfl rfl (Nat.le_of_ble_eq_true rfl) (Nat.le_of_ble_eq_true rfl) rfl (ee184 (d + 5) e7) ?_
    refine pv_e_bk (ps := [(22, .istore_n 3, 1), (23, .aload_n 0, 1), (24, .iload_n 1, 1)]) (t' := (0, 0, 25, [some (.ref 94), some (.int x1), some (.int q2), some (.int q8), none, none], [.int x1, .ref 94], pv_mm s T6)) (by decide +kernel) rfl ?_
    obtain ⟨⟨q10, T11⟩, e9, h⟩ := Option.bind_eq_some_iff.mp h
    dsimp only at h
    refine pv_e_cvi (d := d + 5) (i := 246) (z := 185) (np := 1) (ml := 3) (ci := 6) (As := [.int x1]) (rs := []) (pc' := 28) (by decide +kernel) rfl rfl rfl rfl (Nat.le_of_ble_eq_true rfl) (Nat.le_of_ble_eq_true rfl) rfl (ee185 (d + 0) x1 e9) ?_
    refine pv_e_bk (ps := [(28, .istore 4, 2), (30, .aload_n 0, 1)]) (t' := (0, 0, 31, [some (.ref 94), some (.int x1), some (.int q2), some (.int q8), some (.int q10), none], [.ref 94], pv_mm s T11)) (by decide +kernel) rfl ?_
    obtain ⟨q13, e12, h⟩ := Option.bind_eq_some_iff.mp h
    refine pv_e_cvi (d := d + 5) (i := 243) (z := 184) (np := 0) (ml := 3) (ci := 6) (As := []) (rs := []) (pc' := 34) (by decide +kernel) rfl rfl rfl rfl (Nat.le_of_ble_eq_true rfl) (Nat.le_of_ble_eq_true rfl) rfl (ee184 (d + 5) e12) ?_
    refine pv_e_bk (ps := [(34, .iload_n 3, 1), (35, .isub, 1), (36, .istore 5, 2), (38, .aload_n 0, 1)]) (t' := (0, 0, 39, [some (.ref 94), some (.int x1), some (.int q2), some (.int q8), some (.int q10), some (.int (q13 - q8))], [.ref 94], pv_mm s T11)) (by decide +kernel) rfl ?_
    obtain ⟨T15, e14, h⟩ := Option.bind_eq_some_iff.mp h
    refine pv_e_cvv (d := d + 5) (i := 209) (z := 169) (np := 0) (ml := 1) (ci := 6) (As := []) (rs := []) (pc' := 42) (by decide +kernel) rfl rfl rfl rfl (Nat.le_of_ble_eq_true rfl) (Nat.le_of_ble_eq_true rfl) rfl (ee169 (d + 4) e14) ?_
    refine pv_e_bk (ps := [(42, .aload_n 0, 1), (43, .iload 5, 2), (45, .iload 4, 2)]) (t' := (0, 0, 47, [some (.ref 94), some (.int x1), some (.int q2), some (.int q8), some (.int q10), some (.int (q13 - q8))], [.int q10, .int (q13 - q8), .ref 94], pv_mm s T15)) (by decide +kernel) rfl ?_
    obtain ⟨⟨q17, T18⟩, e16, h⟩ := Option.bind_eq_some_iff.mp h
    dsimp only at h
    refine pv_e_cvi (d := d + 5) (i := 109) (z := 116) (np := 2) (ml := 3) (ci := 6) (As := [.int (q13 - q8), .int q10]) (rs := []) (pc' := 50) (by decide +kernel) rfl rfl rfl rfl (Nat.le_of_ble_eq_true rfl) (Nat.le_of_ble_eq_true rfl) rfl (ee116 (d + 5) (q13 - q8) q10 e16) ?_
    obtain rfl := Option.some.inj h
    cases hr
    exact pv_e_ri (by decide +kernel)
  · rw [if_neg c4] at h
    refine pv_e_bk (ps := [(12, .iload_n 2, 1)]) (t' := (0, 0, 13, [some (.ref 94), some (.int x1), some (.int q2), none, none, none], [.int q2], pv_mm s T3)) (by decide +kernel) rfl ?_
    obtain rfl := Option.some.inj h
    cases hr
    exact pv_e_ri (by decide +kernel)
def f187_meetLaid_b1 (v1 : Int32) (st : Int32 × pv_T) : Option ((Int32 × pv_T) ⊕ (Int32 × pv_T)) := match st with
  | (v3, T) =>
    if v1 ≤ v3 then
      some (.inr (v3, T))
    else
      (pv_rd T.1 113 6 v3).bind fun q10 =>
      (pv_wm T 114 6 v3 q10).bind fun T12 =>
      some (.inl (v3 + (1:Int32), T12))
def f187_meetLaid_b1_H (xs : Nat → Int32) (L d : Nat) (r : Option Value × pv_M) (s : pv_F) (v1 : Int32) (v2 : Int32) (st : Int32 × pv_T) : Prop := match st with
  | (v3, T) => pv_Ev xs L (d + 1) 187 (0, 0, 25, [some (.ref 94), some (.int v1), some (.int v2), some (.int v3)], [], pv_mm s T) r
def f187_meetLaid_b1_X (xs : Nat → Int32) (L d : Nat) (r : Option Value × pv_M) (s : pv_F) (v1 : Int32) (v2 : Int32) (st : Int32 × pv_T) : Prop := match st with
  | (v3, T) => ∀ z3 : Option Value, pv_Ev xs L (d + 1) 187 (0, 0, 48, [some (.ref 94), some (.int v1), some (.int v2), z3], [], pv_mm s T) r
def f187_meetLaid (x1 : Int32) (T : pv_T) : Option (pv_T) :=
  (f184_missed T).bind fun q2 =>
  ((
    if (T.1 94 30) ≤ (q2 - (T.1 94 31)) then
      some T
    else
      (pv_pm T 94 30 (q2 - (T.1 94 31))).bind fun T7 =>
      (pv_lq (f187_meetLaid_b1 x1) 20000 ((0:Int32), T7)).bind fun (w14, T15) =>
      some T15) : Option (pv_T)).bind fun T3 =>
  some T3
theorem f187_meetLaid_b1_ok {xs : Nat → Int32} {L d : Nat} {r : Option Value × pv_M} {s : pv_F} {v1 : Int32} {v2 : Int32} (st : Int32 × pv_T) (o : (Int32 × pv_T) ⊕ (Int32 × pv_T)) (h : f187_meetLaid_b1 v1 st = some o) (hK : pv_Kq (f187_meetLaid_b1_H xs L d r s v1 v2) (f187_meetLaid_b1_X xs L d r s v1 v2) o) : f187_meetLaid_b1_H xs L d r s v1 v2 st := by
  obtain ⟨v3, T⟩ := st
  show pv_Ev xs L (d + 1) 187 (0, 0, 25, [some (.ref 94), some (.int v1), some (.int v2), some (.int v3)], [], pv_mm s T) r
  unfold f187_meetLaid_b1 at h
  dsimp only at h
  refine pv_e_bk (ps := [(25, .iload_n 3, 1), (26, .iload_n 1, 1)]) (t' := (0, 0, 27, [some (.ref 94), some (.int v1), some (.int v2), some (.int v3)], [.int v1, .int v3], pv_mm s T)) (by decide +kernel) rfl ?_
  refine pv_e_icmpge (off := 21) (b := 48) (pc' := 30) (by decide +kernel) (by decide +kernel) rfl (fun c9 => ?_) (fun c9 => ?_)
  · rw [if_pos c9] at h
    obtain rfl := Option.some.inj h
    exact hK _
  · rw [if_neg c9] at h
    refine pv_e_bk (ps := [(30, .aload_n 0, 1)]) (t' := (0, 0, 31, [some (.ref 94), some (.int v1), some (.int v2), some (.int v3)], [.ref 94], pv_mm s T)) (by decide +kernel) rfl ?_
    refine pv_e_gr (i := 71) (ci := 6) (j := 29) (b := 114) (pc' := 34) (by decide +kernel) rfl rfl rfl ?_
    refine pv_e_bk (ps := [(34, .iload_n 3, 1), (35, .aload_n 0, 1)]) (t' := (0, 0, 36, [some (.ref 94), some (.int v1), some (.int v2), some (.int v3)], [.ref 94, .int v3, .ref 114], pv_mm s T)) (by decide +kernel) rfl ?_
    refine pv_e_gr (i := 68) (ci := 6) (j := 28) (b := 113) (pc' := 39) (by decide +kernel) rfl rfl rfl ?_
    refine pv_e_bk (ps := [(39, .iload_n 3, 1)]) (t' := (0, 0, 40, [some (.ref 94), some (.int v1), some (.int v2), some (.int v3)], [.int v3, .ref 113, .int v3, .ref 114], pv_mm s T)) (by decide +kernel) rfl ?_
    obtain ⟨q10, e11, h⟩ := Option.bind_eq_some_iff.mp h
    refine pv_e_rm (pc' := 41) (by decide +kernel) (by decide) rfl e11 rfl ?_
    obtain ⟨T12, e13, h⟩ := Option.bind_eq_some_iff.mp h
    refine pv_e_wm (pc' := 42) (by decide +kernel) (by decide) rfl e13 rfl ?_
    refine pv_e_bk (ps := [(42, .iinc 3 1, 3), (45, .goto (-20), 3)]) (t' := (0, 0, 25, [some (.ref 94), some (.int v1), some (.int v2), some (.int (v3 + (1:Int32)))], [], pv_mm s T12)) (by decide +kernel) rfl ?_
    obtain rfl := Option.some.inj h
    exact hK
theorem ee187 {xs : Nat → Int32} {L : Nat} (d : Nat) (x1 : Int32) {s : pv_F} {T : pv_T} {q : pv_T}  (h : f187_meetLaid x1 T = some q) : pv_Ev xs L (d + 1) 187 (0, 0, 0, [some (.ref 94), some (.int x1), none, none], [], pv_mm s T) (none, pv_mm s q) := by
  generalize hr : ((none, pv_mm s q) : Option Value × pv_M) = r
  unfold f187_meetLaid at h
  refine pv_e_bk (ps := [(0, .aload_n 0, 1)]) (t' := (0, 0, 1, [some (.ref 94), some (.int x1), none, none], [.ref 94], pv_mm s T)) (by decide +kernel) rfl ?_
  obtain ⟨q2, e1, h⟩ := Option.bind_eq_some_iff.mp h
  refine pv_e_cvi (d := d + 0) (i := 243) (z := 184) (np := 0) (ml := 3) (ci := 6) (As := []) (rs := []) (pc' := 4) (by decide +kernel) rfl rfl rfl rfl (Nat.le_of_ble_eq_true rfl) (Nat.le_of_ble_eq_true rfl) rfl (ee184 (d + 0) e1) ?_
  refine pv_e_bk (ps := [(4, .aload_n 0, 1)]) (t' := (0, 0, 5, [some (.ref 94), some (.int x1), none, none], [.ref 94, .int q2], pv_mm s T)) (by decide +kernel) rfl ?_
  refine pv_e_gm (i := 249) (ci := 6) (j := 31) (pc' := 8) (by decide +kernel) (by decide) rfl rfl rfl ?_
  refine pv_e_bk (ps := [(8, .isub, 1), (9, .istore_n 2, 1), (10, .iload_n 2, 1), (11, .aload_n 0, 1)]) (t' := (0, 0, 12, [some (.ref 94), some (.int x1), some (.int (q2 - (T.1 94 31))), none], [.ref 94, .int (q2 - (T.1 94 31))], pv_mm s T)) (by decide +kernel) rfl ?_
  refine pv_e_gm (i := 252) (ci := 6) (j := 30) (pc' := 15) (by decide +kernel) (by decide) rfl rfl rfl ?_
  obtain ⟨T3, hv4, h⟩ := Option.bind_eq_some_iff.mp h
  have hJ5 : ∀ z3 : Option Value, pv_Ev xs L (d + 1) 187 (0, 0, 48, [some (.ref 94), some (.int x1), some (.int (q2 - (T.1 94 31))), z3], [], pv_mm s T3) r := by
    intro z3
    obtain rfl := Option.some.inj h
    cases hr
    exact pv_e_rv (by decide +kernel)
  clear h
  have h := hv4
  clear hv4
  refine pv_e_icmpge (off := 33) (b := 48) (pc' := 18) (by decide +kernel) (by decide +kernel) rfl (fun c6 => ?_) (fun c6 => ?_)
  · rw [if_pos c6] at h
    obtain rfl := Option.some.inj h
    exact hJ5 _
  · rw [if_neg c6] at h
    refine pv_e_bk (ps := [(18, .aload_n 0, 1), (19, .iload_n 2, 1)]) (t' := (0, 0, 20, [some (.ref 94), some (.int x1), some (.int (q2 - (T.1 94 31))), none], [.int (q2 - (T.1 94 31)), .ref 94], pv_mm s T)) (by decide +kernel) rfl ?_
    obtain ⟨T7, e8, h⟩ := Option.bind_eq_some_iff.mp h
    refine pv_e_pms (i := 252) (ci := 6) (j := 30) (pc' := 23) (by decide +kernel) rfl rfl (by decide) rfl rfl e8 rfl ?_
    refine pv_e_bk (ps := [(23, .iconst 0, 1), (24, .istore_n 3, 1)]) (t' := (0, 0, 25, [some (.ref 94), some (.int x1), some (.int (q2 - (T.1 94 31))), some (.int (0:Int32))], [], pv_mm s T7)) (by decide +kernel) rfl ?_
    obtain ⟨⟨w14, T15⟩, e17, h⟩ := Option.bind_eq_some_iff.mp h
    dsimp only at h
    have hx16 : f187_meetLaid_b1_X xs L d r s x1 (q2 - (T.1 94 31)) (w14, T15) := by
      show ∀ z3 : Option Value, pv_Ev xs L (d + 1) 187 (0, 0, 48, [some (.ref 94), some (.int x1), some (.int (q2 - (T.1 94 31))), z3], [], pv_mm s T15) r
      intro z3
      obtain rfl := Option.some.inj h
      exact hJ5 _
    exact pv_lq_ok (H := f187_meetLaid_b1_H xs L d r s x1 (q2 - (T.1 94 31))) (X := f187_meetLaid_b1_X xs L d r s x1 (q2 - (T.1 94 31))) (f187_meetLaid_b1_ok (xs := xs) (L := L) (d := d) (r := r) (s := s) (v1 := x1) (v2 := (q2 - (T.1 94 31)))) 20000 _ _ e17 hx16
