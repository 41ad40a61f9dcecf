-- printed by wip/whole/gen/parts.py: methods as functions over the ints of the memory, and that the pure machine runs so
def f44_goBack_b1 (v1 : Int32) (st : Int32 × pv_F) : Option ((Int32 × pv_F) ⊕ (Int32 × pv_F)) := match st with
  | (v2, s) =>
    if v1 ≤ v2 then
      some (.inr (v2, s))
    else
      (pv_rd s 18 60 v2).bind fun q6 =>
      ((
        if q6 = 0 then
          (pv_rd s 16 60 v2).bind fun q12 =>
          (pv_rd s 17 60 v2).bind fun q14 =>
          (pv_rd s 19 60 v2).bind fun q16 =>
          (f47_carryOutCall q12 q14 q16 s).bind fun (q19, s20) =>
          some s20
        else
          (pv_rd s 17 60 v2).bind fun q21 =>
          (pv_rd s 18 60 v2).bind fun q23 =>
          (pv_rd s 19 60 v2).bind fun q25 =>
          (f48_carryOutMending q21 q23 q25 s).bind fun s28 =>
          some s28) : Option (pv_F)).bind fun s8 =>
      some (.inl (v2 + (1:Int32), s8))
def f44_goBack_b1_H (xs : Nat → Int32) (L d : Nat) (r : Option Value × pv_M) (T : pv_T) (v1 : Int32) (st : Int32 × pv_F) : Prop := match st with
  | (v2, s) => pv_Ev xs L (d + 5) 44 (0, 0, 14, [some (.ref 3), some (.int v1), some (.int v2)], [], pv_mm s T) r
def f44_goBack_b1_X (xs : Nat → Int32) (L d : Nat) (r : Option Value × pv_M) (T : pv_T) (v1 : Int32) (st : Int32 × pv_F) : Prop := match st with
  | (v2, s) => ∀ z2 : Option Value, pv_Ev xs L (d + 5) 44 (0, 0, 103, [some (.ref 3), some (.int v1), z2], [], pv_mm s T) r
def f44_goBack (x1 : Int32) (s : pv_F) : Option (pv_F) :=
  (f43_startOver s).bind fun s2 =>
  (pv_pf s2 15 4 x1).bind fun s3 =>
  (pv_lq (f44_goBack_b1 x1) 20000 ((0:Int32), s3)).bind fun (w29, s30) =>
  some s30
theorem f44_goBack_b1_ok {xs : Nat → Int32} {L d : Nat} {r : Option Value × pv_M} {T : pv_T} {v1 : Int32} (st : Int32 × pv_F) (o : (Int32 × pv_F) ⊕ (Int32 × pv_F)) (h : f44_goBack_b1 v1 st = some o) (hK : pv_Kq (f44_goBack_b1_H xs L d r T v1) (f44_goBack_b1_X xs L d r T v1) o) : f44_goBack_b1_H xs L d r T v1 st := by
  obtain ⟨v2, s⟩ := st
  show pv_Ev xs L (d + 5) 44 (0, 0, 14, [some (.ref 3), some (.int v1), some (.int v2)], [], pv_mm s T) r
  unfold f44_goBack_b1 at h
  dsimp only at h
  refine pv_e_bk (ps := [(14, .iload_n 2, 1), (15, .iload_n 1, 1)]) (t' := (0, 0, 16, [some (.ref 3), some (.int v1), some (.int v2)], [.int v1, .int v2], pv_mm s T)) (by decide +kernel) rfl ?_
  refine pv_e_icmpge (off := 87) (b := 103) (pc' := 19) (by decide +kernel) (by decide +kernel) rfl (fun c5 => ?_) (fun c5 => ?_)
  · rw [if_pos c5] at h
    obtain rfl := Option.some.inj h
    exact hK _
  · rw [if_neg c5] at h
    refine pv_e_bk (ps := [(19, .aload_n 0, 1)]) (t' := (0, 0, 20, [some (.ref 3), some (.int v1), some (.int v2)], [.ref 3], pv_mm s T)) (by decide +kernel) rfl ?_
    refine pv_e_gr (i := 34) (ci := 4) (j := 5) (b := 15) (pc' := 23) (by decide +kernel) rfl rfl rfl ?_
    refine pv_e_gr (i := 60) (ci := 0) (j := 2) (b := 18) (pc' := 26) (by decide +kernel) rfl rfl rfl ?_
    refine pv_e_bk (ps := [(26, .iload_n 2, 1)]) (t' := (0, 0, 27, [some (.ref 3), some (.int v1), some (.int v2)], [.int v2, .ref 18], pv_mm s T)) (by decide +kernel) rfl ?_
    obtain ⟨q6, e7, h⟩ := Option.bind_eq_some_iff.mp h
    refine pv_e_rc (pc' := 28) (by decide +kernel) (by decide) rfl e7 rfl ?_
    obtain ⟨s8, hv9, h⟩ := Option.bind_eq_some_iff.mp h
    have hJ10 : pv_Ev xs L (d + 5) 44 (0, 0, 97, [some (.ref 3), some (.int v1), some (.int v2)], [], pv_mm s8 T) r := by
      refine pv_e_bk (ps := [(97, .iinc 2 1, 3), (100, .goto (-86), 3)]) (t' := (0, 0, 14, [some (.ref 3), some (.int v1), some (.int (v2 + (1:Int32)))], [], pv_mm s8 T)) (by decide +kernel) rfl ?_
      obtain rfl := Option.some.inj h
      exact hK
    clear h
    have h := hv9
    clear hv9
    refine pv_e_ifne (off := 38) (b := 66) (pc' := 31) (by decide +kernel) (by decide +kernel) rfl (fun c11 => ?_) (fun c11 => ?_)
    · rw [if_pos c11] at h
      refine pv_e_bk (ps := [(31, .aload_n 0, 1), (32, .aload_n 0, 1)]) (t' := (0, 0, 33, [some (.ref 3), some (.int v1), some (.int v2)], [.ref 3, .ref 3], pv_mm s T)) (by decide +kernel) rfl ?_
      refine pv_e_gr (i := 34) (ci := 4) (j := 5) (b := 15) (pc' := 36) (by decide +kernel) rfl rfl rfl ?_
      refine pv_e_gr (i := 63) (ci := 0) (j := 0) (b := 16) (pc' := 39) (by decide +kernel) rfl rfl rfl ?_
      refine pv_e_bk (ps := [(39, .iload_n 2, 1)]) (t' := (0, 0, 40, [some (.ref 3), some (.int v1), some (.int v2)], [.int v2, .ref 16, .ref 3], pv_mm s T)) (by decide +kernel) rfl ?_
      obtain ⟨q12, e13, h⟩ := Option.bind_eq_some_iff.mp h
      refine pv_e_rc (pc' := 41) (by decide +kernel) (by decide) rfl e13 rfl ?_
      refine pv_e_bk (ps := [(41, .aload_n 0, 1)]) (t' := (0, 0, 42, [some (.ref 3), some (.int v1), some (.int v2)], [.ref 3, .int q12, .ref 3], pv_mm s T)) (by decide +kernel) rfl ?_
      refine pv_e_gr (i := 34) (ci := 4) (j := 5) (b := 15) (pc' := 45) (by decide +kernel) rfl rfl rfl ?_
      refine pv_e_gr (i := 66) (ci := 0) (j := 1) (b := 17) (pc' := 48) (by decide +kernel) rfl rfl rfl ?_
      refine pv_e_bk (ps := [(48, .iload_n 2, 1)]) (t' := (0, 0, 49, [some (.ref 3), some (.int v1), some (.int v2)], [.int v2, .ref 17, .int q12, .ref 3], pv_mm s T)) (by decide +kernel) rfl ?_
      obtain ⟨q14, e15, h⟩ := Option.bind_eq_some_iff.mp h
      refine pv_e_rc (pc' := 50) (by decide +kernel) (by decide) rfl e15 rfl ?_
      refine pv_e_bk (ps := [(50, .aload_n 0, 1)]) (t' := (0, 0, 51, [some (.ref 3), some (.int v1), some (.int v2)], [.ref 3, .int q14, .int q12, .ref 3], pv_mm s T)) (by decide +kernel) rfl ?_
      refine pv_e_gr (i := 34) (ci := 4) (j := 5) (b := 15) (pc' := 54) (by decide +kernel) rfl rfl rfl ?_
      refine pv_e_gr (i := 69) (ci := 0) (j := 3) (b := 19) (pc' := 57) (by decide +kernel) rfl rfl rfl ?_
      refine pv_e_bk (ps := [(57, .iload_n 2, 1)]) (t' := (0, 0, 58, [some (.ref 3), some (.int v1), some (.int v2)], [.int v2, .ref 19, .int q14, .int q12, .ref 3], pv_mm s T)) (by decide +kernel) rfl ?_
      obtain ⟨q16, e17, h⟩ := Option.bind_eq_some_iff.mp h
      refine pv_e_rc (pc' := 59) (by decide +kernel) (by decide) rfl e17 rfl ?_
      obtain ⟨⟨q19, s20⟩, e18, h⟩ := Option.bind_eq_some_iff.mp h
      dsimp only at h
      refine pv_e_cvi (d := d + 4) (i := 72) (z := 47) (np := 3) (ml := 7) (ci := 4) (As := [.int q12, .int q14, .int q16]) (rs := []) (pc' := 62) (by decide +kernel) rfl rfl rfl rfl (Nat.le_of_ble_eq_true rfl) (Nat.le_of_ble_eq_true rfl) rfl (ee47 (d + 0) q12 q14 q16 e18) ?_
      refine pv_e_bk (ps := [(62, .pop, 1), (63, .goto 34, 3)]) (t' := (0, 0, 97, [some (.ref 3), some (.int v1), some (.int v2)], [], pv_mm s20 T)) (by decide +kernel) rfl ?_
      obtain rfl := Option.some.inj h
      exact hJ10
    · rw [if_neg c11] at h
      refine pv_e_bk (ps := [(66, .aload_n 0, 1), (67, .aload_n 0, 1)]) (t' := (0, 0, 68, [some (.ref 3), some (.int v1), some (.int v2)], [.ref 3, .ref 3], pv_mm s T)) (by decide +kernel) rfl ?_
      refine pv_e_gr (i := 34) (ci := 4) (j := 5) (b := 15) (pc' := 71) (by decide +kernel) rfl rfl rfl ?_
      refine pv_e_gr (i := 66) (ci := 0) (j := 1) (b := 17) (pc' := 74) (by decide +kernel) rfl rfl rfl ?_
      refine pv_e_bk (ps := [(74, .iload_n 2, 1)]) (t' := (0, 0, 75, [some (.ref 3), some (.int v1), some (.int v2)], [.int v2, .ref 17, .ref 3], pv_mm s T)) (by decide +kernel) rfl ?_
      obtain ⟨q21, e22, h⟩ := Option.bind_eq_some_iff.mp h
      refine pv_e_rc (pc' := 76) (by decide +kernel) (by decide) rfl e22 rfl ?_
      refine pv_e_bk (ps := [(76, .aload_n 0, 1)]) (t' := (0, 0, 77, [some (.ref 3), some (.int v1), some (.int v2)], [.ref 3, .int q21, .ref 3], pv_mm s T)) (by decide +kernel) rfl ?_
      refine pv_e_gr (i := 34) (ci := 4) (j := 5) (b := 15) (pc' := 80) (by decide +kernel) rfl rfl rfl ?_
      refine pv_e_gr (i := 60) (ci := 0) (j := 2) (b := 18) (pc' := 83) (by decide +kernel) rfl rfl rfl ?_
      refine pv_e_bk (ps := [(83, .iload_n 2, 1)]) (t' := (0, 0, 84, [some (.ref 3), some (.int v1), some (.int v2)], [.int v2, .ref 18, .int q21, .ref 3], pv_mm s T)) (by decide +kernel) rfl ?_
      obtain ⟨q23, e24, h⟩ := Option.bind_eq_some_iff.mp h
      refine pv_e_rc (pc' := 85) (by decide +kernel) (by decide) rfl e24 rfl ?_
      refine pv_e_bk (ps := [(85, .aload_n 0, 1)]) (t' := (0, 0, 86, [some (.ref 3), some (.int v1), some (.int v2)], [.ref 3, .int q23, .int q21, .ref 3], pv_mm s T)) (by decide +kernel) rfl ?_
      refine pv_e_gr (i := 34) (ci := 4) (j := 5) (b := 15) (pc' := 89) (by decide +kernel) rfl rfl rfl ?_
      refine pv_e_gr (i := 69) (ci := 0) (j := 3) (b := 19) (pc' := 92) (by decide +kernel) rfl rfl rfl ?_
      refine pv_e_bk (ps := [(92, .iload_n 2, 1)]) (t' := (0, 0, 93, [some (.ref 3), some (.int v1), some (.int v2)], [.int v2, .ref 19, .int q23, .int q21, .ref 3], pv_mm s T)) (by decide +kernel) rfl ?_
      obtain ⟨q25, e26, h⟩ := Option.bind_eq_some_iff.mp h
      refine pv_e_rc (pc' := 94) (by decide +kernel) (by decide) rfl e26 rfl ?_
      obtain ⟨s28, e27, h⟩ := Option.bind_eq_some_iff.mp h
      refine pv_e_cvv (d := d + 4) (i := 76) (z := 48) (np := 3) (ml := 4) (ci := 4) (As := [.int q21, .int q23, .int q25]) (rs := []) (pc' := 97) (by decide +kernel) rfl rfl rfl rfl (Nat.le_of_ble_eq_true rfl) (Nat.le_of_ble_eq_true rfl) rfl (ee48 (d + 2) q21 q23 q25 e27) ?_
      obtain rfl := Option.some.inj h
      exact hJ10
theorem ee44 {xs : Nat → Int32} {L : Nat} (d : Nat) (x1 : Int32) {s : pv_F} {T : pv_T} {q : pv_F}  (h : f44_goBack x1 s = some q) : pv_Ev xs L (d + 5) 44 (0, 0, 0, [some (.ref 3), some (.int x1), none], [], pv_mm s T) (none, pv_mm q T) := by
  generalize hr : ((none, pv_mm q T) : Option Value × pv_M) = r
  unfold f44_goBack at h
  refine pv_e_bk (ps := [(0, .aload_n 0, 1)]) (t' := (0, 0, 1, [some (.ref 3), some (.int x1), none], [.ref 3], pv_mm s T)) (by decide +kernel) rfl ?_
  obtain ⟨s2, e1, h⟩ := Option.bind_eq_some_iff.mp h
  refine pv_e_cvv (d := d + 4) (i := 54) (z := 43) (np := 0) (ml := 2) (ci := 4) (As := []) (rs := []) (pc' := 4) (by decide +kernel) rfl rfl rfl rfl (Nat.le_of_ble_eq_true rfl) (Nat.le_of_ble_eq_true rfl) rfl (ee43 (d + 2) e1) ?_
  refine pv_e_bk (ps := [(4, .aload_n 0, 1)]) (t' := (0, 0, 5, [some (.ref 3), some (.int x1), none], [.ref 3], pv_mm s2 T)) (by decide +kernel) rfl ?_
  refine pv_e_gr (i := 34) (ci := 4) (j := 5) (b := 15) (pc' := 8) (by decide +kernel) rfl rfl rfl ?_
  refine pv_e_bk (ps := [(8, .iload_n 1, 1)]) (t' := (0, 0, 9, [some (.ref 3), some (.int x1), none], [.int x1, .ref 15], pv_mm s2 T)) (by decide +kernel) rfl ?_
  obtain ⟨s3, e4, h⟩ := Option.bind_eq_some_iff.mp h
  refine pv_e_pcs (i := 57) (ci := 0) (j := 4) (pc' := 12) (by decide +kernel) rfl rfl (by decide) rfl rfl e4 rfl ?_
  refine pv_e_bk (ps := [(12, .iconst 0, 1), (13, .istore_n 2, 1)]) (t' := (0, 0, 14, [some (.ref 3), some (.int x1), some (.int (0:Int32))], [], pv_mm s3 T)) (by decide +kernel) rfl ?_
  obtain ⟨⟨w29, s30⟩, e32, h⟩ := Option.bind_eq_some_iff.mp h
  dsimp only at h
  have hx31 : f44_goBack_b1_X xs L d r T x1 (w29, s30) := by
    show ∀ z2 : Option Value, pv_Ev xs L (d + 5) 44 (0, 0, 103, [some (.ref 3), some (.int x1), z2], [], pv_mm s30 T) r
    intro z2
    obtain rfl := Option.some.inj h
    cases hr
    exact pv_e_rv (by decide +kernel)
  exact pv_lq_ok (H := f44_goBack_b1_H xs L d r T x1) (X := f44_goBack_b1_X xs L d r T x1) (f44_goBack_b1_ok (xs := xs) (L := L) (d := d) (r := r) (T := T) (v1 := x1)) 20000 _ _ e32 hx31
def f45_callOut (x1 : Int32) (x2 : Int32) (x3 : Int32) (s : pv_F) : Option (Int32 × pv_F) :=
  (f2_add 15 x1 x2 (0:Int32) x3 s).bind fun s2 =>
  (f47_carryOutCall x1 x2 x3 s2).bind fun (q4, s5) =>
  some (q4, s5)
theorem ee45 {xs : Nat → Int32} {L : Nat} (d : Nat) (x1 : Int32) (x2 : Int32) (x3 : Int32) {s : pv_F} {T : pv_T} {q : Int32 × pv_F}  (h : f45_callOut x1 x2 x3 s = some q) : pv_Ev xs L (d + 5) 45 (0, 0, 0, [some (.ref 3), some (.int x1), some (.int x2), some (.int x3)], [], pv_mm s T) (some (.int q.1), pv_mm q.2 T) := by
  generalize hr : ((some (.int q.1), pv_mm q.2 T) : Option Value × pv_M) = r
  unfold f45_callOut at h
  refine pv_e_bk (ps := [(0, .aload_n 0, 1)]) (t' := (0, 0, 1, [some (.ref 3), some (.int x1), some (.int x2), some (.int x3)], [.ref 3], pv_mm s T)) (by decide +kernel) rfl ?_
  refine pv_e_gr (i := 34) (ci := 4) (j := 5) (b := 15) (pc' := 4) (by decide +kernel) rfl rfl rfl ?_
  refine pv_e_bk (ps := [(4, .iload_n 1, 1), (5, .iload_n 2, 1), (6, .iconst 0, 1), (7, .iload_n 3, 1)]) (t' := (0, 0, 8, [some (.ref 3), some (.int x1), some (.int x2), some (.int x3)], [.int x3, .int (0:Int32), .int x2, .int x1, .ref 15], pv_mm s T)) (by decide +kernel) rfl ?_
  obtain ⟨s2, e1, h⟩ := Option.bind_eq_some_iff.mp h
  refine pv_e_cvv (d := d + 4) (i := 80) (z := 2) (np := 4) (ml := 5) (ci := 0) (As := [.int x1, .int x2, .int (0:Int32), .int x3]) (rs := []) (pc' := 11) (by decide +kernel) rfl rfl rfl rfl (Nat.le_of_ble_eq_true rfl) (Nat.le_of_ble_eq_true rfl) rfl (ee2 (d + 3) 15 x1 x2 (0:Int32) x3 (by decide) e1) ?_
  refine pv_e_bk (ps := [(11, .aload_n 0, 1), (12, .iload_n 1, 1), (13, .iload_n 2, 1), (14, .iload_n 3, 1)]) (t' := (0, 0, 15, [some (.ref 3), some (.int x1), some (.int x2), some (.int x3)], [.int x3, .int x2, .int x1, .ref 3], pv_mm s2 T)) (by decide +kernel) rfl ?_
  obtain ⟨⟨q4, s5⟩, e3, h⟩ := Option.bind_eq_some_iff.mp h
  dsimp only at h
  refine pv_e_cvi (d := d + 4) (i := 72) (z := 47) (np := 3) (ml := 7) (ci := 4) (As := [.int x1, .int x2, .int x3]) (rs := []) (pc' := 18) (by decide +kernel) rfl rfl rfl rfl (Nat.le_of_ble_eq_true rfl) (Nat.le_of_ble_eq_true rfl) rfl (ee47 (d + 0) x1 x2 x3 e3) ?_
  obtain rfl := Option.some.inj h
  cases hr
  exact pv_e_ri (by decide +kernel)
def f46_mendName (x1 : Int32) (x2 : Int32) (x3 : Int32) (x4 : Int32) (s : pv_F) : Option (pv_F) :=
  (f2_add 15 x1 x2 x3 x4 s).bind fun s2 =>
  (f48_carryOutMending x2 x3 x4 s2).bind fun s4 =>
  some s4
theorem ee46 {xs : Nat → Int32} {L : Nat} (d : Nat) (x1 : Int32) (x2 : Int32) (x3 : Int32) (x4 : Int32) {s : pv_F} {T : pv_T} {q : pv_F}  (h : f46_mendName x1 x2 x3 x4 s = some q) : pv_Ev xs L (d + 3) 46 (0, 0, 0, [some (.ref 3), some (.int x1), some (.int x2), some (.int x3), some (.int x4)], [], pv_mm s T) (none, pv_mm q T) := by
  generalize hr : ((none, pv_mm q T) : Option Value × pv_M) = r
  unfold f46_mendName at h
  refine pv_e_bk (ps := [(0, .aload_n 0, 1)]) (t' := (0, 0, 1, [some (.ref 3), some (.int x1), some (.int x2), some (.int x3), some (.int x4)], [.ref 3], pv_mm s T)) (by decide +kernel) rfl ?_
  refine pv_e_gr (i := 34) (ci := 4) (j := 5) (b := 15) (pc' := 4) (by decide +kernel) rfl rfl rfl ?_
  refine pv_e_bk (ps := [(4, .iload_n 1, 1), (5, .iload_n 2, 1), (6, .iload_n 3, 1), (7, .iload 4, 2)]) (t' := (0, 0, 9, [some (.ref 3), some (.int x1), some (.int x2), some (.int x3), some (.int x4)], [.int x4, .int x3, .int x2, .int x1, .ref 15], pv_mm s T)) (by decide +kernel) rfl ?_
  obtain ⟨s2, e1, h⟩ := Option.bind_eq_some_iff.mp h
  refine pv_e_cvv (d := d + 2) (i := 80) (z := 2) (np := 4) (ml := 5) (ci := 0) (As := [.int x1, .int x2, .int x3, .int x4]) (rs := []) (pc' := 12) (by decide +kernel) rfl rfl rfl rfl (Nat.le_of_ble_eq_true rfl) (Nat.le_of_ble_eq_true rfl) rfl (ee2 (d + 1) 15 x1 x2 x3 x4 (by decide) e1) ?_
  refine pv_e_bk (ps := [(12, .aload_n 0, 1), (13, .iload_n 2, 1), (14, .iload_n 3, 1), (15, .iload 4, 2)]) (t' := (0, 0, 17, [some (.ref 3), some (.int x1), some (.int x2), some (.int x3), some (.int x4)], [.int x4, .int x3, .int x2, .ref 3], pv_mm s2 T)) (by decide +kernel) rfl ?_
  obtain ⟨s4, e3, h⟩ := Option.bind_eq_some_iff.mp h
  refine pv_e_cvv (d := d + 2) (i := 76) (z := 48) (np := 3) (ml := 4) (ci := 4) (As := [.int x2, .int x3, .int x4]) (rs := []) (pc' := 20) (by decide +kernel) rfl rfl rfl rfl (Nat.le_of_ble_eq_true rfl) (Nat.le_of_ble_eq_true rfl) rfl (ee48 (d + 0) x2 x3 x4 e3) ?_
  obtain rfl := Option.some.inj h
  cases hr
  exact pv_e_rv (by decide +kernel)
def f49_fact (x1 : Int32) (x2 : Int32) (s : pv_F) : Option (Int32) :=
  if x2 = (0:Int32) then
    (pv_rd s 9 7 x1).bind fun q2 =>
    some q2
  else
    if x2 = (1:Int32) then
      (pv_rd s 10 7 x1).bind fun q5 =>
      (f218_size q5).bind fun q8 =>
      some q8
    else
      if x2 = (2:Int32) then
        (pv_rd s 12 7 x1).bind fun q10 =>
        some q10
      else
        if x2 = (3:Int32) then
          (pv_rd s 13 7 x1).bind fun q13 =>
          some q13
        else
          (pv_rd s 14 7 x1).bind fun q15 =>
          some q15
theorem ee49 {xs : Nat → Int32} {L : Nat} (d : Nat) (x1 : Int32) (x2 : Int32) {s : pv_F} {T : pv_T} {q : Int32}  (h : f49_fact x1 x2 s = some q) : pv_Ev xs L (d + 1) 49 (0, 0, 0, [some (.ref 3), some (.int x1), some (.int x2)], [], pv_mm s T) (some (.int q), pv_mm s T) := by
  generalize hr : ((some (.int q), pv_mm s T) : Option Value × pv_M) = r
  unfold f49_fact at h
  refine pv_e_bk (ps := [(0, .iload_n 2, 1)]) (t' := (0, 0, 1, [some (.ref 3), some (.int x1), some (.int x2)], [.int x2], pv_mm s T)) (by decide +kernel) rfl ?_
  by_cases c1 : x2 = (0:Int32)
  · rw [if_pos c1] at h
    refine pv_e_swin (dflt := 68) (lo := 0) (hi := 3) (offs := #[31, 41, 54, 61]) (len := 31) (off := 31) (b := 32) (by decide +kernel) (by rw [c1]; decide +kernel) (by rw [c1]; decide +kernel) (by decide +kernel) ?_
    refine pv_e_bk (ps := [(32, .aload_n 0, 1)]) (t' := (0, 0, 33, [some (.ref 3), some (.int x1), some (.int x2)], [.ref 3], pv_mm s T)) (by decide +kernel) rfl ?_
    refine pv_e_gr (i := 18) (ci := 4) (j := 1) (b := 8) (pc' := 36) (by decide +kernel) rfl rfl rfl ?_
    refine pv_e_gr (i := 100) (ci := 1) (j := 0) (b := 9) (pc' := 39) (by decide +kernel) rfl rfl rfl ?_
    refine pv_e_bk (ps := [(39, .iload_n 1, 1)]) (t' := (0, 0, 40, [some (.ref 3), some (.int x1), some (.int x2)], [.int x1, .ref 9], pv_mm s T)) (by decide +kernel) rfl ?_
    obtain ⟨q2, e3, h⟩ := Option.bind_eq_some_iff.mp h
    refine pv_e_rc (pc' := 41) (by decide +kernel) (by decide) rfl e3 rfl ?_
    obtain rfl := Option.some.inj h
    cases hr
    exact pv_e_ri (by decide +kernel)
  · rw [if_neg c1] at h
    by_cases c4 : x2 = (1:Int32)
    · rw [if_pos c4] at h
      refine pv_e_swin (dflt := 68) (lo := 0) (hi := 3) (offs := #[31, 41, 54, 61]) (len := 31) (off := 41) (b := 42) (by decide +kernel) (by rw [c4]; decide +kernel) (by rw [c4]; decide +kernel) (by decide +kernel) ?_
      refine pv_e_bk (ps := [(42, .aload_n 0, 1)]) (t' := (0, 0, 43, [some (.ref 3), some (.int x1), some (.int x2)], [.ref 3], pv_mm s T)) (by decide +kernel) rfl ?_
      refine pv_e_gr (i := 18) (ci := 4) (j := 1) (b := 8) (pc' := 46) (by decide +kernel) rfl rfl rfl ?_
      refine pv_e_gr (i := 92) (ci := 1) (j := 1) (b := 10) (pc' := 49) (by decide +kernel) rfl rfl rfl ?_
      refine pv_e_bk (ps := [(49, .iload_n 1, 1)]) (t' := (0, 0, 50, [some (.ref 3), some (.int x1), some (.int x2)], [.int x1, .ref 10], pv_mm s T)) (by decide +kernel) rfl ?_
      obtain ⟨q5, e6, h⟩ := Option.bind_eq_some_iff.mp h
      refine pv_e_rc (pc' := 51) (by decide +kernel) (by decide) rfl e6 rfl ?_
      obtain ⟨q8, e7, h⟩ := Option.bind_eq_some_iff.mp h
      refine pv_e_csi (d := d + 0) (i := 103) (z := 218) (np := 1) (ml := 2) (As := [.int q5]) (rs := []) (pc' := 54) (by decide +kernel) rfl rfl rfl (Nat.le_of_ble_eq_true rfl) (Nat.le_of_ble_eq_true rfl) rfl (ee218 (d + 0) q5 e7) ?_
      obtain rfl := Option.some.inj h
      cases hr
      exact pv_e_ri (by decide +kernel)
    · rw [if_neg c4] at h
      by_cases c9 : x2 = (2:Int32)
      · rw [if_pos c9] at h
        refine pv_e_swin (dflt := 68) (lo := 0) (hi := 3) (offs := #[31, 41, 54, 61]) (len := 31) (off := 54) (b := 55) (by decide +kernel) (by rw [c9]; decide +kernel) (by rw [c9]; decide +kernel) (by decide +kernel) ?_
        refine pv_e_bk (ps := [(55, .aload_n 0, 1)]) (t' := (0, 0, 56, [some (.ref 3), some (.int x1), some (.int x2)], [.ref 3], pv_mm s T)) (by decide +kernel) rfl ?_
        refine pv_e_gr (i := 21) (ci := 4) (j := 2) (b := 12) (pc' := 59) (by decide +kernel) rfl rfl rfl ?_
        refine pv_e_bk (ps := [(59, .iload_n 1, 1)]) (t' := (0, 0, 60, [some (.ref 3), some (.int x1), some (.int x2)], [.int x1, .ref 12], pv_mm s T)) (by decide +kernel) rfl ?_
        obtain ⟨q10, e11, h⟩ := Option.bind_eq_some_iff.mp h
        refine pv_e_rc (pc' := 61) (by decide +kernel) (by decide) rfl e11 rfl ?_
        obtain rfl := Option.some.inj h
        cases hr
        exact pv_e_ri (by decide +kernel)
      · rw [if_neg c9] at h
        by_cases c12 : x2 = (3:Int32)
        · rw [if_pos c12] at h
          refine pv_e_swin (dflt := 68) (lo := 0) (hi := 3) (offs := #[31, 41, 54, 61]) (len := 31) (off := 61) (b := 62) (by decide +kernel) (by rw [c12]; decide +kernel) (by rw [c12]; decide +kernel) (by decide +kernel) ?_
          refine pv_e_bk (ps := [(62, .aload_n 0, 1)]) (t' := (0, 0, 63, [some (.ref 3), some (.int x1), some (.int x2)], [.ref 3], pv_mm s T)) (by decide +kernel) rfl ?_
          refine pv_e_gr (i := 25) (ci := 4) (j := 3) (b := 13) (pc' := 66) (by decide +kernel) rfl rfl rfl ?_
          refine pv_e_bk (ps := [(66, .iload_n 1, 1)]) (t' := (0, 0, 67, [some (.ref 3), some (.int x1), some (.int x2)], [.int x1, .ref 13], pv_mm s T)) (by decide +kernel) rfl ?_
          obtain ⟨q13, e14, h⟩ := Option.bind_eq_some_iff.mp h
          refine pv_e_rc (pc' := 68) (by decide +kernel) (by decide) rfl e14 rfl ?_
          obtain rfl := Option.some.inj h
          cases hr
          exact pv_e_ri (by decide +kernel)
        · rw [if_neg c12] at h
          refine pv_e_swout (dflt := 68) (lo := 0) (hi := 3) (offs := #[31, 41, 54, 61]) (len := 31) (b := 69) (by decide +kernel) ?_ (by decide +kernel) ?_
          · have nc1 : x2.toInt ≠ (0 : Int) := fun e9 => c1 (Int32.toInt_inj.mp (e9.trans (by decide +kernel)))
            have nc4 : x2.toInt ≠ (1 : Int) := fun e9 => c4 (Int32.toInt_inj.mp (e9.trans (by decide +kernel)))
            have nc9 : x2.toInt ≠ (2 : Int) := fun e9 => c9 (Int32.toInt_inj.mp (e9.trans (by decide +kernel)))
            have nc12 : x2.toInt ≠ (3 : Int) := fun e9 => c12 (Int32.toInt_inj.mp (e9.trans (by decide +kernel)))
            omega
          · refine pv_e_bk (ps := [(69, .aload_n 0, 1)]) (t' := (0, 0, 70, [some (.ref 3), some (.int x1), some (.int x2)], [.ref 3], pv_mm s T)) (by decide +kernel) rfl ?_
            refine pv_e_gr (i := 28) (ci := 4) (j := 4) (b := 14) (pc' := 73) (by decide +kernel) rfl rfl rfl ?_
            refine pv_e_bk (ps := [(73, .iload_n 1, 1)]) (t' := (0, 0, 74, [some (.ref 3), some (.int x1), some (.int x2)], [.int x1, .ref 14], pv_mm s T)) (by decide +kernel) rfl ?_
            obtain ⟨q15, e16, h⟩ := Option.bind_eq_some_iff.mp h
            refine pv_e_rc (pc' := 75) (by decide +kernel) (by decide) rfl e16 rfl ?_
            obtain rfl := Option.some.inj h
            cases hr
            exact pv_e_ri (by decide +kernel)
def f50_sum_b1 (v1 : Nat) (s : pv_F) (st : Int32 × Int32) : Option ((Int32 × Int32) ⊕ (Int32 × Int32)) := match st with
  | (v2, v3) =>
    if (s 8 3) ≤ v3 then
      some (.inr (v2, v3))
    else
      (pv_rd s v1 (pv_an v1) v3).bind fun q2 =>
      some (.inl (v2 + q2, v3 + (1:Int32)))
def f50_sum_b1_H (xs : Nat → Int32) (L d : Nat) (r : Option Value × pv_M) (T : pv_T) (v1 : Nat) (s : pv_F) (st : Int32 × Int32) : Prop := match st with
  | (v2, v3) => pv_Ev xs L (d + 0) 50 (0, 0, 4, [some (.ref 3), some (.ref v1), some (.int v2), some (.int v3)], [], pv_mm s T) r
def f50_sum_b1_X (xs : Nat → Int32) (L d : Nat) (r : Option Value × pv_M) (T : pv_T) (v1 : Nat) (s : pv_F) (st : Int32 × Int32) : Prop := match st with
  | (v2, v3) => ∀ z3 : Option Value, pv_Ev xs L (d + 0) 50 (0, 0, 27, [some (.ref 3), some (.ref v1), some (.int v2), z3], [], pv_mm s T) r
def f50_sum (x1 : Nat) (s : pv_F) : Option (Int32) :=
  (pv_lq (f50_sum_b1 x1 s) 20000 ((0:Int32), (0:Int32))).bind fun (w4, w5) =>
  some w4
theorem f50_sum_b1_ok {xs : Nat → Int32} {L d : Nat} {r : Option Value × pv_M} {T : pv_T} {v1 : Nat} {s : pv_F} (g1 : v1 ∈ pv_ias) (st : Int32 × Int32) (o : (Int32 × Int32) ⊕ (Int32 × Int32)) (h : f50_sum_b1 v1 s st = some o) (hK : pv_Kq (f50_sum_b1_H xs L d r T v1 s) (f50_sum_b1_X xs L d r T v1 s) o) : f50_sum_b1_H xs L d r T v1 s st := by
  obtain ⟨v2, v3⟩ := st
  show pv_Ev xs L (d + 0) 50 (0, 0, 4, [some (.ref 3), some (.ref v1), some (.int v2), some (.int v3)], [], pv_mm s T) r
  unfold f50_sum_b1 at h
  dsimp only at h
  refine pv_e_bk (ps := [(4, .iload_n 3, 1), (5, .aload_n 0, 1)]) (t' := (0, 0, 6, [some (.ref 3), some (.ref v1), some (.int v2), some (.int v3)], [.ref 3, .int v3], pv_mm s T)) (by decide +kernel) rfl ?_
  refine pv_e_gr (i := 18) (ci := 4) (j := 1) (b := 8) (pc' := 9) (by decide +kernel) rfl rfl rfl ?_
  refine pv_e_gc (i := 91) (ci := 1) (j := 3) (pc' := 12) (by decide +kernel) (by decide) rfl rfl rfl ?_
  refine pv_e_icmpge (off := 15) (b := 27) (pc' := 15) (by decide +kernel) (by decide +kernel) rfl (fun c1 => ?_) (fun c1 => ?_)
  · rw [if_pos c1] at h
    obtain rfl := Option.some.inj h
    exact hK _
  · rw [if_neg c1] at h
    refine pv_e_bk (ps := [(15, .iload_n 2, 1), (16, .aload_n 1, 1), (17, .iload_n 3, 1)]) (t' := (0, 0, 18, [some (.ref 3), some (.ref v1), some (.int v2), some (.int v3)], [.int v3, .ref v1, .int v2], pv_mm s T)) (by decide +kernel) rfl ?_
    obtain ⟨q2, e3, h⟩ := Option.bind_eq_some_iff.mp h
    refine pv_e_rc (pc' := 19) (by decide +kernel) (ia g1).2 (ia g1).1 e3 rfl ?_
    refine pv_e_bk (ps := [(19, .iadd, 1), (20, .istore_n 2, 1), (21, .iinc 3 1, 3), (24, .goto (-20), 3)]) (t' := (0, 0, 4, [some (.ref 3), some (.ref v1), some (.int (v2 + q2)), some (.int (v3 + (1:Int32)))], [], pv_mm s T)) (by decide +kernel) rfl ?_
    obtain rfl := Option.some.inj h
    exact hK
theorem ee50 {xs : Nat → Int32} {L : Nat} (d : Nat) (x1 : Nat) {s : pv_F} {T : pv_T} {q : Int32} (g1 : x1 ∈ pv_ias) (h : f50_sum x1 s = some q) : pv_Ev xs L (d + 0) 50 (0, 0, 0, [some (.ref 3), some (.ref x1), none, none], [], pv_mm s T) (some (.int q), pv_mm s T) := by
  generalize hr : ((some (.int q), pv_mm s T) : Option Value × pv_M) = r
  unfold f50_sum at h
  refine pv_e_bk (ps := [(0, .iconst 0, 1), (1, .istore_n 2, 1), (2, .iconst 0, 1), (3, .istore_n 3, 1)]) (t' := (0, 0, 4, [some (.ref 3), some (.ref x1), some (.int (0:Int32)), some (.int (0:Int32))], [], pv_mm s T)) (by decide +kernel) rfl ?_
  obtain ⟨⟨w4, w5⟩, e7, h⟩ := Option.bind_eq_some_iff.mp h
  dsimp only at h
  have hx6 : f50_sum_b1_X xs L d r T x1 s (w4, w5) := by
    show ∀ z3 : Option Value, pv_Ev xs L (d + 0) 50 (0, 0, 27, [some (.ref 3), some (.ref x1), some (.int w4), z3], [], pv_mm s T) r
    intro z3
    refine pv_e_bk (ps := [(27, .iload_n 2, 1)]) (t' := (0, 0, 28, [some (.ref 3), some (.ref x1), some (.int w4), z3], [.int w4], pv_mm s T)) (by decide +kernel) rfl ?_
    obtain rfl := Option.some.inj h
    cases hr
    exact pv_e_ri (by decide +kernel)
  exact pv_lq_ok (H := f50_sum_b1_H xs L d r T x1 s) (X := f50_sum_b1_X xs L d r T x1 s) (f50_sum_b1_ok (xs := xs) (L := L) (d := d) (r := r) (T := T) (v1 := x1) (s := s) g1) 20000 _ _ e7 hx6
def f51_keptTowns_b1 (s : pv_F) (st : Int32 × Int32) : Option ((Int32 × Int32) ⊕ (Int32 × Int32)) := match st with
  | (v1, v2) =>
    if (3:Int32) ≤ v2 then
      some (.inr (v1, v2))
    else
      (pv_ra 20 3 v2).bind fun o2 =>
      ((
        if (s o2 5) = 0 then
          some (0:Int32)
        else
          some (1:Int32)) : Option (Int32)).bind fun t5 =>
      some (.inl (v1 + t5, v2 + (1:Int32)))
def f51_keptTowns_b1_H (xs : Nat → Int32) (L d : Nat) (r : Option Value × pv_M) (T : pv_T) (s : pv_F) (st : Int32 × Int32) : Prop := match st with
  | (v1, v2) => pv_Ev xs L (d + 0) 51 (0, 0, 4, [some (.ref 3), some (.int v1), some (.int v2)], [], pv_mm s T) r
def f51_keptTowns_b1_X (xs : Nat → Int32) (L d : Nat) (r : Option Value × pv_M) (T : pv_T) (s : pv_F) (st : Int32 × Int32) : Prop := match st with
  | (v1, v2) => ∀ z2 : Option Value, pv_Ev xs L (d + 0) 51 (0, 0, 35, [some (.ref 3), some (.int v1), z2], [], pv_mm s T) r
def f51_keptTowns (s : pv_F) : Option (Int32) :=
  (pv_lq (f51_keptTowns_b1 s) 20000 ((0:Int32), (0:Int32))).bind fun (w9, w10) =>
  some w9
theorem f51_keptTowns_b1_ok {xs : Nat → Int32} {L d : Nat} {r : Option Value × pv_M} {T : pv_T} {s : pv_F} (st : Int32 × Int32) (o : (Int32 × Int32) ⊕ (Int32 × Int32)) (h : f51_keptTowns_b1 s st = some o) (hK : pv_Kq (f51_keptTowns_b1_H xs L d r T s) (f51_keptTowns_b1_X xs L d r T s) o) : f51_keptTowns_b1_H xs L d r T s st := by
  obtain ⟨v1, v2⟩ := st
  show pv_Ev xs L (d + 0) 51 (0, 0, 4, [some (.ref 3), some (.int v1), some (.int v2)], [], pv_mm s T) r
  unfold f51_keptTowns_b1 at h
  dsimp only at h
  refine pv_e_bk (ps := [(4, .iload_n 2, 1), (5, .iconst 3, 1)]) (t' := (0, 0, 6, [some (.ref 3), some (.int v1), some (.int v2)], [.int (3:Int32), .int v2], pv_mm s T)) (by decide +kernel) rfl ?_
  refine pv_e_icmpge (off := 29) (b := 35) (pc' := 9) (by decide +kernel) (by decide +kernel) rfl (fun c1 => ?_) (fun c1 => ?_)
  · rw [if_pos c1] at h
    obtain rfl := Option.some.inj h
    exact hK _
  · rw [if_neg c1] at h
    refine pv_e_bk (ps := [(9, .iload_n 1, 1), (10, .aload_n 0, 1)]) (t' := (0, 0, 11, [some (.ref 3), some (.int v1), some (.int v2)], [.ref 3, .int v1], pv_mm s T)) (by decide +kernel) rfl ?_
    refine pv_e_gr (i := 38) (ci := 4) (j := 6) (b := 20) (pc' := 14) (by decide +kernel) rfl rfl rfl ?_
    refine pv_e_bk (ps := [(14, .iload_n 2, 1)]) (t' := (0, 0, 15, [some (.ref 3), some (.int v1), some (.int v2)], [.int v2, .ref 20, .int v1], pv_mm s T)) (by decide +kernel) rfl ?_
    obtain ⟨o2, e3, h⟩ := Option.bind_eq_some_iff.mp h
    have g4 := ra_kept e3
    refine pv_e_ra (zz := 3) (pc' := 16) (by decide +kernel) rfl (by decide) e3 rfl ?_
    refine pv_e_gc (i := 50) (ci := 0) (j := 5) (pc' := 19) (by decide +kernel) (by have := (dd g4).2.2.2.2.2; omega) (dd g4).1 rfl rfl ?_
    obtain ⟨t5, hv6, h⟩ := Option.bind_eq_some_iff.mp h
    have hJ7 : pv_Ev xs L (d + 0) 51 (0, 0, 27, [some (.ref 3), some (.int v1), some (.int v2)], [.int t5, .int v1], pv_mm s T) r := by
      refine pv_e_bk (ps := [(27, .iadd, 1), (28, .istore_n 1, 1), (29, .iinc 2 1, 3), (32, .goto (-28), 3)]) (t' := (0, 0, 4, [some (.ref 3), some (.int (v1 + t5)), some (.int (v2 + (1:Int32)))], [], pv_mm s T)) (by decide +kernel) rfl ?_
      obtain rfl := Option.some.inj h
      exact hK
    clear h
    have h := hv6
    clear hv6
    refine pv_e_ifeq (off := 7) (b := 26) (pc' := 22) (by decide +kernel) (by decide +kernel) rfl (fun c8 => ?_) (fun c8 => ?_)
    · rw [if_pos c8] at h
      refine pv_e_bk (ps := [(26, .iconst 0, 1)]) (t' := (0, 0, 27, [some (.ref 3), some (.int v1), some (.int v2)], [.int (0:Int32), .int v1], pv_mm s T)) (by decide +kernel) rfl ?_
      obtain rfl := Option.some.inj h
      exact hJ7
    · rw [if_neg c8] at h
      refine pv_e_bk (ps := [(22, .iconst 1, 1), (23, .goto 4, 3)]) (t' := (0, 0, 27, [some (.ref 3), some (.int v1), some (.int v2)], [.int (1:Int32), .int v1], pv_mm s T)) (by decide +kernel) rfl ?_
      obtain rfl := Option.some.inj h
      exact hJ7
theorem ee51 {xs : Nat → Int32} {L : Nat} (d : Nat)  {s : pv_F} {T : pv_T} {q : Int32}  (h : f51_keptTowns s = some q) : pv_Ev xs L (d + 0) 51 (0, 0, 0, [some (.ref 3), none, none], [], pv_mm s T) (some (.int q), pv_mm s T) := by
  generalize hr : ((some (.int q), pv_mm s T) : Option Value × pv_M) = r
  unfold f51_keptTowns at h
  refine pv_e_bk (ps := [(0, .iconst 0, 1), (1, .istore_n 1, 1), (2, .iconst 0, 1), (3, .istore_n 2, 1)]) (t' := (0, 0, 4, [some (.ref 3), some (.int (0:Int32)), some (.int (0:Int32))], [], pv_mm s T)) (by decide +kernel) rfl ?_
  obtain ⟨⟨w9, w10⟩, e12, h⟩ := Option.bind_eq_some_iff.mp h
  dsimp only at h
  have hx11 : f51_keptTowns_b1_X xs L d r T s (w9, w10) := by
    show ∀ z2 : Option Value, pv_Ev xs L (d + 0) 51 (0, 0, 35, [some (.ref 3), some (.int w9), z2], [], pv_mm s T) r
    intro z2
    refine pv_e_bk (ps := [(35, .iload_n 1, 1)]) (t' := (0, 0, 36, [some (.ref 3), some (.int w9), z2], [.int w9], pv_mm s T)) (by decide +kernel) rfl ?_
    obtain rfl := Option.some.inj h
    cases hr
    exact pv_e_ri (by decide +kernel)
  exact pv_lq_ok (H := f51_keptTowns_b1_H xs L d r T s) (X := f51_keptTowns_b1_X xs L d r T s) (f51_keptTowns_b1_ok (xs := xs) (L := L) (d := d) (r := r) (T := T) (s := s)) 20000 _ _ e12 hx11
def f52_mixedInto_b2 (v5 : Int32) (s : pv_F) (st : Int64 × Int32) : Option ((Int64 × Int32) ⊕ (Int64 × Int32)) := match st with
  | (v3, v6) =>
    if (5:Int32) ≤ v6 then
      some (.inr (v3, v6))
    else
      (f49_fact v5 v6 s).bind fun q4 =>
      some (.inl (((31:Int64) * v3) + q4.toInt64, v6 + (1:Int32)))
def f52_mixedInto_b2_H (xs : Nat → Int32) (L d : Nat) (r : Option Value × pv_M) (T : pv_T) (v5 : Int32) (s : pv_F) (v1 : Int64) (st : Int64 × Int32) : Prop := match st with
  | (v3, v6) => pv_Ev xs L (d + 2) 52 (0, 0, 20, [some (.ref 3), some (.long v1), none, some (.long v3), none, some (.int v5), some (.int v6)], [], pv_mm s T) r
def f52_mixedInto_b2_X (xs : Nat → Int32) (L d : Nat) (r : Option Value × pv_M) (T : pv_T) (v5 : Int32) (s : pv_F) (v1 : Int64) (st : Int64 × Int32) : Prop := match st with
  | (v3, v6) => ∀ z6 : Option Value, pv_Ev xs L (d + 2) 52 (0, 0, 48, [some (.ref 3), some (.long v1), none, some (.long v3), none, some (.int v5), z6], [], pv_mm s T) r
def f52_mixedInto_b3 (v5 : Int32) (s : pv_F) (st : Int64 × Int32) : Option ((Int64 × Int32) ⊕ (Int64 × Int32)) := match st with
  | (v3, v6) =>
    (pv_rd s 10 7 v5).bind fun q7 =>
    (f218_size q7).bind fun q10 =>
    if q10 ≤ v6 then
      some (.inr (v3, v6))
    else
      (pv_rd s 10 7 v5).bind fun q12 =>
      (f219_letterAt q12 v6).bind fun q15 =>
      some (.inl ((((31:Int64) * v3) + (96:Int64)) + q15.toInt64, v6 + (1:Int32)))
def f52_mixedInto_b3_H (xs : Nat → Int32) (L d : Nat) (r : Option Value × pv_M) (T : pv_T) (v5 : Int32) (s : pv_F) (v1 : Int64) (st : Int64 × Int32) : Prop := match st with
  | (v3, v6) => pv_Ev xs L (d + 2) 52 (0, 0, 51, [some (.ref 3), some (.long v1), none, some (.long v3), none, some (.int v5), some (.int v6)], [], pv_mm s T) r
def f52_mixedInto_b3_X (xs : Nat → Int32) (L d : Nat) (r : Option Value × pv_M) (T : pv_T) (v5 : Int32) (s : pv_F) (v1 : Int64) (st : Int64 × Int32) : Prop := match st with
  | (v3, v6) => ∀ z6 : Option Value, pv_Ev xs L (d + 2) 52 (0, 0, 102, [some (.ref 3), some (.long v1), none, some (.long v3), none, some (.int v5), z6], [], pv_mm s T) r
def f52_mixedInto_b1 (s : pv_F) (st : Int64 × Int32) : Option ((Int64 × Int32) ⊕ (Int64 × Int32)) := match st with
  | (v3, v5) =>
    if (s 8 3) ≤ v5 then
      some (.inr (v3, v5))
    else
      (pv_lq (f52_mixedInto_b2 v5 s) 20000 (v3, (0:Int32))).bind fun (w5, w6) =>
      (pv_lq (f52_mixedInto_b3 v5 s) 20000 (w5, (0:Int32))).bind fun (w16, w17) =>
      (pv_rd s 11 7 v5).bind fun q18 =>
      some (.inl (((31:Int64) * w16) + q18.toInt64, v5 + (1:Int32)))
def f52_mixedInto_b1_H (xs : Nat → Int32) (L d : Nat) (r : Option Value × pv_M) (T : pv_T) (s : pv_F) (v1 : Int64) (st : Int64 × Int32) : Prop := match st with
  | (v3, v5) => ∀ z6 : Option Value, pv_Ev xs L (d + 2) 52 (0, 0, 5, [some (.ref 3), some (.long v1), none, some (.long v3), none, some (.int v5), z6], [], pv_mm s T) r
def f52_mixedInto_b1_X (xs : Nat → Int32) (L d : Nat) (r : Option Value × pv_M) (T : pv_T) (s : pv_F) (v1 : Int64) (st : Int64 × Int32) : Prop := match st with
  | (v3, v5) => ∀ z5 : Option Value, ∀ z6 : Option Value, pv_Ev xs L (d + 2) 52 (0, 0, 126, [some (.ref 3), some (.long v1), none, some (.long v3), none, z5, z6], [], pv_mm s T) r
def f52_mixedInto_b4 (s : pv_F) (st : Int64 × Int32) : Option ((Int64 × Int32) ⊕ (Int64 × Int32)) := match st with
  | (v3, v5) =>
    if (3:Int32) ≤ v5 then
      some (.inr (v3, v5))
    else
      (pv_ra 20 3 v5).bind fun o27 =>
      ((
        if (s o27 5) = 0 then
          some (-1:Int32)
        else
          (pv_ra 20 3 v5).bind fun o34 =>
          some (s o34 4)) : Option (Int32)).bind fun t30 =>
      some (.inl (((31:Int64) * v3) + t30.toInt64, v5 + (1:Int32)))
def f52_mixedInto_b4_H (xs : Nat → Int32) (L d : Nat) (r : Option Value × pv_M) (T : pv_T) (s : pv_F) (v1 : Int64) (z6 : Option Value) (st : Int64 × Int32) : Prop := match st with
  | (v3, v5) => pv_Ev xs L (d + 2) 52 (0, 0, 129, [some (.ref 3), some (.long v1), none, some (.long v3), none, some (.int v5), z6], [], pv_mm s T) r
def f52_mixedInto_b4_X (xs : Nat → Int32) (L d : Nat) (r : Option Value × pv_M) (T : pv_T) (s : pv_F) (v1 : Int64) (z6 : Option Value) (st : Int64 × Int32) : Prop := match st with
  | (v3, v5) => ∀ z5 : Option Value, pv_Ev xs L (d + 2) 52 (0, 0, 176, [some (.ref 3), some (.long v1), none, some (.long v3), none, z5, z6], [], pv_mm s T) r
def f52_mixedInto (x1 : Int64) (s : pv_F) : Option (Int64) :=
  (pv_lq (f52_mixedInto_b1 s) 20000 (x1, (0:Int32))).bind fun (w24, w25) =>
  (pv_lq (f52_mixedInto_b4 s) 20000 (w24, (0:Int32))).bind fun (w37, w38) =>
  some w37
theorem f52_mixedInto_b2_ok {xs : Nat → Int32} {L d : Nat} {r : Option Value × pv_M} {T : pv_T} {v5 : Int32} {s : pv_F} {v1 : Int64} (st : Int64 × Int32) (o : (Int64 × Int32) ⊕ (Int64 × Int32)) (h : f52_mixedInto_b2 v5 s st = some o) (hK : pv_Kq (f52_mixedInto_b2_H xs L d r T v5 s v1) (f52_mixedInto_b2_X xs L d r T v5 s v1) o) : f52_mixedInto_b2_H xs L d r T v5 s v1 st := by
  obtain ⟨v3, v6⟩ := st
  show pv_Ev xs L (d + 2) 52 (0, 0, 20, [some (.ref 3), some (.long v1), none, some (.long v3), none, some (.int v5), some (.int v6)], [], pv_mm s T) r
  unfold f52_mixedInto_b2 at h
  dsimp only at h
  refine pv_e_bk (ps := [(20, .iload 6, 2), (22, .iconst 5, 1)]) (t' := (0, 0, 23, [some (.ref 3), some (.long v1), none, some (.long v3), none, some (.int v5), some (.int v6)], [.int (5:Int32), .int v6], pv_mm s T)) (by decide +kernel) rfl ?_
  refine pv_e_icmpge (off := 25) (b := 48) (pc' := 26) (by decide +kernel) (by decide +kernel) rfl (fun c2 => ?_) (fun c2 => ?_)
  · rw [if_pos c2] at h
    obtain rfl := Option.some.inj h
    exact hK _
  · rw [if_neg c2] at h
    refine pv_e_bk (ps := [(26, .ldc2_w 106, 3), (29, .lload_n 3, 1), (30, .lmul, 1), (31, .aload_n 0, 1), (32, .iload 5, 2), (34, .iload 6, 2)]) (t' := (0, 0, 36, [some (.ref 3), some (.long v1), none, some (.long v3), none, some (.int v5), some (.int v6)], [.int v6, .int v5, .ref 3, .long ((31:Int64) * v3)], pv_mm s T)) (by decide +kernel) rfl ?_
    obtain ⟨q4, e3, h⟩ := Option.bind_eq_some_iff.mp h
    refine pv_e_cvi (d := d + 1) (i := 108) (z := 49) (np := 2) (ml := 3) (ci := 4) (As := [.int v5, .int v6]) (rs := [.long ((31:Int64) * v3)]) (pc' := 39) (by decide +kernel) rfl rfl rfl rfl (Nat.le_of_ble_eq_true rfl) (Nat.le_of_ble_eq_true rfl) rfl (ee49 (d + 0) v5 v6 e3) ?_
    refine pv_e_bk (ps := [(39, .i2l, 1), (40, .ladd, 1), (41, .lstore_n 3, 1), (42, .iinc 6 1, 3), (45, .goto (-25), 3)]) (t' := (0, 0, 20, [some (.ref 3), some (.long v1), none, some (.long (((31:Int64) * v3) + q4.toInt64)), none, some (.int v5), some (.int (v6 + (1:Int32)))], [], pv_mm s T)) (by decide +kernel) rfl ?_
    obtain rfl := Option.some.inj h
    exact hK
theorem f52_mixedInto_b3_ok {xs : Nat → Int32} {L d : Nat} {r : Option Value × pv_M} {T : pv_T} {v5 : Int32} {s : pv_F} {v1 : Int64} (st : Int64 × Int32) (o : (Int64 × Int32) ⊕ (Int64 × Int32)) (h : f52_mixedInto_b3 v5 s st = some o) (hK : pv_Kq (f52_mixedInto_b3_H xs L d r T v5 s v1) (f52_mixedInto_b3_X xs L d r T v5 s v1) o) : f52_mixedInto_b3_H xs L d r T v5 s v1 st := by
  obtain ⟨v3, v6⟩ := st
  show pv_Ev xs L (d + 2) 52 (0, 0, 51, [some (.ref 3), some (.long v1), none, some (.long v3), none, some (.int v5), some (.int v6)], [], pv_mm s T) r
  unfold f52_mixedInto_b3 at h
  dsimp only at h
  refine pv_e_bk (ps := [(51, .iload 6, 2), (53, .aload_n 0, 1)]) (t' := (0, 0, 54, [some (.ref 3), some (.long v1), none, some (.long v3), none, some (.int v5), some (.int v6)], [.ref 3, .int v6], pv_mm s T)) (by decide +kernel) rfl ?_
  refine pv_e_gr (i := 18) (ci := 4) (j := 1) (b := 8) (pc' := 57) (by decide +kernel) rfl rfl rfl ?_
  refine pv_e_gr (i := 92) (ci := 1) (j := 1) (b := 10) (pc' := 60) (by decide +kernel) rfl rfl rfl ?_
  refine pv_e_bk (ps := [(60, .iload 5, 2)]) (t' := (0, 0, 62, [some (.ref 3), some (.long v1), none, some (.long v3), none, some (.int v5), some (.int v6)], [.int v5, .ref 10, .int v6], pv_mm s T)) (by decide +kernel) rfl ?_
  obtain ⟨q7, e8, h⟩ := Option.bind_eq_some_iff.mp h
  refine pv_e_rc (pc' := 63) (by decide +kernel) (by decide) rfl e8 rfl ?_
  obtain ⟨q10, e9, h⟩ := Option.bind_eq_some_iff.mp h
  refine pv_e_csi (d := d + 1) (i := 103) (z := 218) (np := 1) (ml := 2) (As := [.int q7]) (rs := [.int v6]) (pc' := 66) (by decide +kernel) rfl rfl rfl (Nat.le_of_ble_eq_true rfl) (Nat.le_of_ble_eq_true rfl) rfl (ee218 (d + 1) q7 e9) ?_
  refine pv_e_icmpge (off := 36) (b := 102) (pc' := 69) (by decide +kernel) (by decide +kernel) rfl (fun c11 => ?_) (fun c11 => ?_)
  · rw [if_pos c11] at h
    obtain rfl := Option.some.inj h
    exact hK _
  · rw [if_neg c11] at h
    refine pv_e_bk (ps := [(69, .ldc2_w 106, 3), (72, .lload_n 3, 1), (73, .lmul, 1), (74, .ldc2_w 111, 3), (77, .ladd, 1), (78, .aload_n 0, 1)]) (t' := (0, 0, 79, [some (.ref 3), some (.long v1), none, some (.long v3), none, some (.int v5), some (.int v6)], [.ref 3, .long (((31:Int64) * v3) + (96:Int64))], pv_mm s T)) (by decide +kernel) rfl ?_
    refine pv_e_gr (i := 18) (ci := 4) (j := 1) (b := 8) (pc' := 82) (by decide +kernel) rfl rfl rfl ?_
    refine pv_e_gr (i := 92) (ci := 1) (j := 1) (b := 10) (pc' := 85) (by decide +kernel) rfl rfl rfl ?_
    refine pv_e_bk (ps := [(85, .iload 5, 2)]) (t' := (0, 0, 87, [some (.ref 3), some (.long v1), none, some (.long v3), none, some (.int v5), some (.int v6)], [.int v5, .ref 10, .long (((31:Int64) * v3) + (96:Int64))], pv_mm s T)) (by decide +kernel) rfl ?_
    obtain ⟨q12, e13, h⟩ := Option.bind_eq_some_iff.mp h
    refine pv_e_rc (pc' := 88) (by decide +kernel) (by decide) rfl e13 rfl ?_
    refine pv_e_bk (ps := [(88, .iload 6, 2)]) (t' := (0, 0, 90, [some (.ref 3), some (.long v1), none, some (.long v3), none, some (.int v5), some (.int v6)], [.int v6, .int q12, .long (((31:Int64) * v3) + (96:Int64))], pv_mm s T)) (by decide +kernel) rfl ?_
    obtain ⟨q15, e14, h⟩ := Option.bind_eq_some_iff.mp h
    refine pv_e_csi (d := d + 1) (i := 113) (z := 219) (np := 2) (ml := 2) (As := [.int q12, .int v6]) (rs := [.long (((31:Int64) * v3) + (96:Int64))]) (pc' := 93) (by decide +kernel) rfl rfl rfl (Nat.le_of_ble_eq_true rfl) (Nat.le_of_ble_eq_true rfl) rfl (ee219 (d + 1) q12 v6 e14) ?_
    refine pv_e_bk (ps := [(93, .i2l, 1), (94, .ladd, 1), (95, .lstore_n 3, 1), (96, .iinc 6 1, 3), (99, .goto (-48), 3)]) (t' := (0, 0, 51, [some (.ref 3), some (.long v1), none, some (.long ((((31:Int64) * v3) + (96:Int64)) + q15.toInt64)), none, some (.int v5), some (.int (v6 + (1:Int32)))], [], pv_mm s T)) (by decide +kernel) rfl ?_
    obtain rfl := Option.some.inj h
    exact hK
theorem f52_mixedInto_b1_ok {xs : Nat → Int32} {L d : Nat} {r : Option Value × pv_M} {T : pv_T} {s : pv_F} {v1 : Int64} (st : Int64 × Int32) (o : (Int64 × Int32) ⊕ (Int64 × Int32)) (h : f52_mixedInto_b1 s st = some o) (hK : pv_Kq (f52_mixedInto_b1_H xs L d r T s v1) (f52_mixedInto_b1_X xs L d r T s v1) o) : f52_mixedInto_b1_H xs L d r T s v1 st := by
  obtain ⟨v3, v5⟩ := st
  show ∀ z6 : Option Value, pv_Ev xs L (d + 2) 52 (0, 0, 5, [some (.ref 3), some (.long v1), none, some (.long v3), none, some (.int v5), z6], [], pv_mm s T) r
  intro z6
  unfold f52_mixedInto_b1 at h
  dsimp only at h
  refine pv_e_bk (ps := [(5, .iload 5, 2), (7, .aload_n 0, 1)]) (t' := (0, 0, 8, [some (.ref 3), some (.long v1), none, some (.long v3), none, some (.int v5), z6], [.ref 3, .int v5], pv_mm s T)) (by decide +kernel) rfl ?_
  refine pv_e_gr (i := 18) (ci := 4) (j := 1) (b := 8) (pc' := 11) (by decide +kernel) rfl rfl rfl ?_
  refine pv_e_gc (i := 91) (ci := 1) (j := 3) (pc' := 14) (by decide +kernel) (by decide) rfl rfl rfl ?_
  refine pv_e_icmpge (off := 112) (b := 126) (pc' := 17) (by decide +kernel) (by decide +kernel) rfl (fun c1 => ?_) (fun c1 => ?_)
  · rw [if_pos c1] at h
    obtain rfl := Option.some.inj h
    exact hK _ _
  · rw [if_neg c1] at h
    refine pv_e_bk (ps := [(17, .iconst 0, 1), (18, .istore 6, 2)]) (t' := (0, 0, 20, [some (.ref 3), some (.long v1), none, some (.long v3), none, some (.int v5), some (.int (0:Int32))], [], pv_mm s T)) (by decide +kernel) rfl ?_
    obtain ⟨⟨w5, w6⟩, e23, h⟩ := Option.bind_eq_some_iff.mp h
    dsimp only at h
    have hx22 : f52_mixedInto_b2_X xs L d r T v5 s v1 (w5, w6) := by
      show ∀ z6 : Option Value, pv_Ev xs L (d + 2) 52 (0, 0, 48, [some (.ref 3), some (.long v1), none, some (.long w5), none, some (.int v5), z6], [], pv_mm s T) r
      intro z6
      refine pv_e_bk (ps := [(48, .iconst 0, 1), (49, .istore 6, 2)]) (t' := (0, 0, 51, [some (.ref 3), some (.long v1), none, some (.long w5), none, some (.int v5), some (.int (0:Int32))], [], pv_mm s T)) (by decide +kernel) rfl ?_
      obtain ⟨⟨w16, w17⟩, e21, h⟩ := Option.bind_eq_some_iff.mp h
      dsimp only at h
      have hx20 : f52_mixedInto_b3_X xs L d r T v5 s v1 (w16, w17) := by
        show ∀ z6 : Option Value, pv_Ev xs L (d + 2) 52 (0, 0, 102, [some (.ref 3), some (.long v1), none, some (.long w16), none, some (.int v5), z6], [], pv_mm s T) r
        intro z6
        refine pv_e_bk (ps := [(102, .ldc2_w 106, 3), (105, .lload_n 3, 1), (106, .lmul, 1), (107, .aload_n 0, 1)]) (t' := (0, 0, 108, [some (.ref 3), some (.long v1), none, some (.long w16), none, some (.int v5), z6], [.ref 3, .long ((31:Int64) * w16)], pv_mm s T)) (by decide +kernel) rfl ?_
        refine pv_e_gr (i := 18) (ci := 4) (j := 1) (b := 8) (pc' := 111) (by decide +kernel) rfl rfl rfl ?_
        refine pv_e_gr (i := 116) (ci := 1) (j := 2) (b := 11) (pc' := 114) (by decide +kernel) rfl rfl rfl ?_
        refine pv_e_bk (ps := [(114, .iload 5, 2)]) (t' := (0, 0, 116, [some (.ref 3), some (.long v1), none, some (.long w16), none, some (.int v5), z6], [.int v5, .ref 11, .long ((31:Int64) * w16)], pv_mm s T)) (by decide +kernel) rfl ?_
        obtain ⟨q18, e19, h⟩ := Option.bind_eq_some_iff.mp h
        refine pv_e_rc (pc' := 117) (by decide +kernel) (by decide) rfl e19 rfl ?_
        refine pv_e_bk (ps := [(117, .i2l, 1), (118, .ladd, 1), (119, .lstore_n 3, 1), (120, .iinc 5 1, 3), (123, .goto (-118), 3)]) (t' := (0, 0, 5, [some (.ref 3), some (.long v1), none, some (.long (((31:Int64) * w16) + q18.toInt64)), none, some (.int (v5 + (1:Int32))), z6], [], pv_mm s T)) (by decide +kernel) rfl ?_
        obtain rfl := Option.some.inj h
        exact hK _
      exact pv_lq_ok (H := f52_mixedInto_b3_H xs L d r T v5 s v1) (X := f52_mixedInto_b3_X xs L d r T v5 s v1) (f52_mixedInto_b3_ok (xs := xs) (L := L) (d := d) (r := r) (T := T) (v5 := v5) (s := s) (v1 := v1)) 20000 _ _ e21 hx20
    exact pv_lq_ok (H := f52_mixedInto_b2_H xs L d r T v5 s v1) (X := f52_mixedInto_b2_X xs L d r T v5 s v1) (f52_mixedInto_b2_ok (xs := xs) (L := L) (d := d) (r := r) (T := T) (v5 := v5) (s := s) (v1 := v1)) 20000 _ _ e23 hx22
theorem f52_mixedInto_b4_ok {xs : Nat → Int32} {L d : Nat} {r : Option Value × pv_M} {T : pv_T} {s : pv_F} {v1 : Int64} {z6 : Option Value} (st : Int64 × Int32) (o : (Int64 × Int32) ⊕ (Int64 × Int32)) (h : f52_mixedInto_b4 s st = some o) (hK : pv_Kq (f52_mixedInto_b4_H xs L d r T s v1 z6) (f52_mixedInto_b4_X xs L d r T s v1 z6) o) : f52_mixedInto_b4_H xs L d r T s v1 z6 st := by
  obtain ⟨v3, v5⟩ := st
  show pv_Ev xs L (d + 2) 52 (0, 0, 129, [some (.ref 3), some (.long v1), none, some (.long v3), none, some (.int v5), z6], [], pv_mm s T) r
  unfold f52_mixedInto_b4 at h
  dsimp only at h
  refine pv_e_bk (ps := [(129, .iload 5, 2), (131, .iconst 3, 1)]) (t' := (0, 0, 132, [some (.ref 3), some (.long v1), none, some (.long v3), none, some (.int v5), z6], [.int (3:Int32), .int v5], pv_mm s T)) (by decide +kernel) rfl ?_
  refine pv_e_icmpge (off := 44) (b := 176) (pc' := 135) (by decide +kernel) (by decide +kernel) rfl (fun c26 => ?_) (fun c26 => ?_)
  · rw [if_pos c26] at h
    obtain rfl := Option.some.inj h
    exact hK _
  · rw [if_neg c26] at h
    refine pv_e_bk (ps := [(135, .ldc2_w 106, 3), (138, .lload_n 3, 1), (139, .lmul, 1), (140, .aload_n 0, 1)]) (t' := (0, 0, 141, [some (.ref 3), some (.long v1), none, some (.long v3), none, some (.int v5), z6], [.ref 3, .long ((31:Int64) * v3)], pv_mm s T)) (by decide +kernel) rfl ?_
    refine pv_e_gr (i := 38) (ci := 4) (j := 6) (b := 20) (pc' := 144) (by decide +kernel) rfl rfl rfl ?_
    refine pv_e_bk (ps := [(144, .iload 5, 2)]) (t' := (0, 0, 146, [some (.ref 3), some (.long v1), none, some (.long v3), none, some (.int v5), z6], [.int v5, .ref 20, .long ((31:Int64) * v3)], pv_mm s T)) (by decide +kernel) rfl ?_
    obtain ⟨o27, e28, h⟩ := Option.bind_eq_some_iff.mp h
    have g29 := ra_kept e28
    refine pv_e_ra (zz := 3) (pc' := 147) (by decide +kernel) rfl (by decide) e28 rfl ?_
    refine pv_e_gc (i := 50) (ci := 0) (j := 5) (pc' := 150) (by decide +kernel) (by have := (dd g29).2.2.2.2.2; omega) (dd g29).1 rfl rfl ?_
    obtain ⟨t30, hv31, h⟩ := Option.bind_eq_some_iff.mp h
    have hJ32 : pv_Ev xs L (d + 2) 52 (0, 0, 167, [some (.ref 3), some (.long v1), none, some (.long v3), none, some (.int v5), z6], [.int t30, .long ((31:Int64) * v3)], pv_mm s T) r := by
      refine pv_e_bk (ps := [(167, .i2l, 1), (168, .ladd, 1), (169, .lstore_n 3, 1), (170, .iinc 5 1, 3), (173, .goto (-44), 3)]) (t' := (0, 0, 129, [some (.ref 3), some (.long v1), none, some (.long (((31:Int64) * v3) + t30.toInt64)), none, some (.int (v5 + (1:Int32))), z6], [], pv_mm s T)) (by decide +kernel) rfl ?_
      obtain rfl := Option.some.inj h
      exact hK
    clear h
    have h := hv31
    clear hv31
    refine pv_e_ifeq (off := 16) (b := 166) (pc' := 153) (by decide +kernel) (by decide +kernel) rfl (fun c33 => ?_) (fun c33 => ?_)
    · rw [if_pos c33] at h
      refine pv_e_bk (ps := [(166, .iconst (-1), 1)]) (t' := (0, 0, 167, [some (.ref 3), some (.long v1), none, some (.long v3), none, some (.int v5), z6], [.int (-1:Int32), .long ((31:Int64) * v3)], pv_mm s T)) (by decide +kernel) rfl ?_
      obtain rfl := Option.some.inj h
      exact hJ32
    · rw [if_neg c33] at h
      refine pv_e_bk (ps := [(153, .aload_n 0, 1)]) (t' := (0, 0, 154, [some (.ref 3), some (.long v1), none, some (.long v3), none, some (.int v5), z6], [.ref 3, .long ((31:Int64) * v3)], pv_mm s T)) (by decide +kernel) rfl ?_
      refine pv_e_gr (i := 38) (ci := 4) (j := 6) (b := 20) (pc' := 157) (by decide +kernel) rfl rfl rfl ?_
      refine pv_e_bk (ps := [(157, .iload 5, 2)]) (t' := (0, 0, 159, [some (.ref 3), some (.long v1), none, some (.long v3), none, some (.int v5), z6], [.int v5, .ref 20, .long ((31:Int64) * v3)], pv_mm s T)) (by decide +kernel) rfl ?_
      obtain ⟨o34, e35, h⟩ := Option.bind_eq_some_iff.mp h
      have g36 := ra_kept e35
      refine pv_e_ra (zz := 3) (pc' := 160) (by decide +kernel) rfl (by decide) e35 rfl ?_
      refine pv_e_gc (i := 57) (ci := 0) (j := 4) (pc' := 163) (by decide +kernel) (by have := (dd g36).2.2.2.2.2; omega) (dd g36).1 rfl rfl ?_
      refine pv_e_bk (ps := [(163, .goto 4, 3)]) (t' := (0, 0, 167, [some (.ref 3), some (.long v1), none, some (.long v3), none, some (.int v5), z6], [.int (s o34 4), .long ((31:Int64) * v3)], pv_mm s T)) (by decide +kernel) rfl ?_
      obtain rfl := Option.some.inj h
      exact hJ32
theorem ee52 {xs : Nat → Int32} {L : Nat} (d : Nat) (x1 : Int64) {s : pv_F} {T : pv_T} {q : Int64}  (h : f52_mixedInto x1 s = some q) : pv_Ev xs L (d + 2) 52 (0, 0, 0, [some (.ref 3), some (.long x1), none, none, none, none, none], [], pv_mm s T) (some (.long q), pv_mm s T) := by
  generalize hr : ((some (.long q), pv_mm s T) : Option Value × pv_M) = r
  unfold f52_mixedInto at h
  refine pv_e_bk (ps := [(0, .lload_n 1, 1), (1, .lstore_n 3, 1), (2, .iconst 0, 1), (3, .istore 5, 2)]) (t' := (0, 0, 5, [some (.ref 3), some (.long x1), none, some (.long x1), none, some (.int (0:Int32)), none], [], pv_mm s T)) (by decide +kernel) rfl ?_
  obtain ⟨⟨w24, w25⟩, e42, h⟩ := Option.bind_eq_some_iff.mp h
  dsimp only at h
  have hx41 : f52_mixedInto_b1_X xs L d r T s x1 (w24, w25) := by
    show ∀ z5 : Option Value, ∀ z6 : Option Value, pv_Ev xs L (d + 2) 52 (0, 0, 126, [some (.ref 3), some (.long x1), none, some (.long w24), none, z5, z6], [], pv_mm s T) r
    intro z5 z6
    refine pv_e_bk (ps := [(126, .iconst 0, 1), (127, .istore 5, 2)]) (t' := (0, 0, 129, [some (.ref 3), some (.long x1), none, some (.long w24), none, some (.int (0:Int32)), z6], [], pv_mm s T)) (by decide +kernel) rfl ?_
    obtain ⟨⟨w37, w38⟩, e40, h⟩ := Option.bind_eq_some_iff.mp h
    dsimp only at h
    have hx39 : f52_mixedInto_b4_X xs L d r T s x1 z6 (w37, w38) := by
      show ∀ z5 : Option Value, pv_Ev xs L (d + 2) 52 (0, 0, 176, [some (.ref 3), some (.long x1), none, some (.long w37), none, z5, z6], [], pv_mm s T) r
      intro z5
      refine pv_e_bk (ps := [(176, .lload_n 3, 1)]) (t' := (0, 0, 177, [some (.ref 3), some (.long x1), none, some (.long w37), none, z5, z6], [.long w37], pv_mm s T)) (by decide +kernel) rfl ?_
      obtain rfl := Option.some.inj h
      cases hr
      exact pv_e_rl (by decide +kernel)
    exact pv_lq_ok (H := f52_mixedInto_b4_H xs L d r T s x1 z6) (X := f52_mixedInto_b4_X xs L d r T s x1 z6) (f52_mixedInto_b4_ok (xs := xs) (L := L) (d := d) (r := r) (T := T) (s := s) (v1 := x1) (z6 := z6)) 20000 _ _ e40 hx39
  exact pv_lq_ok (H := f52_mixedInto_b1_H xs L d r T s x1) (X := f52_mixedInto_b1_X xs L d r T s x1) (f52_mixedInto_b1_ok (xs := xs) (L := L) (d := d) (r := r) (T := T) (s := s) (v1 := x1)) 20000 _ _ e42 hx41 _
def f99_isRow (x0 : Int32) : Option (Int32) :=
  ((
    if x0 < 0 then
      some (0:Int32)
    else
      if (6:Int32) ≤ x0 then
        some (0:Int32)
      else
        some (1:Int32)) : Option (Int32)).bind fun t1 =>
  (pv_bl t1).bind fun q2 => some q2
theorem ee99 {xs : Nat → Int32} {L : Nat} (d : Nat) (x0 : Int32) {M : pv_M} {q : Int32}  (h : f99_isRow x0 = some q) : pv_Ev xs L (d + 0) 99 (0, 0, 0, [some (.int x0)], [], M) (some (.int q), M) := by
  generalize hr : ((some (.int q), M) : Option Value × pv_M) = r
  unfold f99_isRow at h
  refine pv_e_bk (ps := [(0, .iload_n 0, 1)]) (t' := (0, 0, 1, [some (.int x0)], [.int x0], M)) (by decide +kernel) rfl ?_
  obtain ⟨t1, hv4, h⟩ := Option.bind_eq_some_iff.mp h
  have hJ5 : pv_Ev xs L (d + 0) 99 (0, 0, 15, [some (.int x0)], [.int t1], M) r := by
    obtain ⟨q2, e3, h⟩ := Option.bind_eq_some_iff.mp h
    obtain rfl := Option.some.inj h
    cases hr
    exact pv_e_rz (by decide +kernel) e3
  clear h
  have h := hv4
  clear hv4
  refine pv_e_iflt (off := 13) (b := 14) (pc' := 4) (by decide +kernel) (by decide +kernel) rfl (fun c6 => ?_) (fun c6 => ?_)
  · rw [if_pos c6] at h
    refine pv_e_bk (ps := [(14, .iconst 0, 1)]) (t' := (0, 0, 15, [some (.int x0)], [.int (0:Int32)], M)) (by decide +kernel) rfl ?_
    obtain rfl := Option.some.inj h
    exact hJ5
  · rw [if_neg c6] at h
    refine pv_e_bk (ps := [(4, .iload_n 0, 1), (5, .bipush 6, 2)]) (t' := (0, 0, 7, [some (.int x0)], [.int (6:Int32), .int x0], M)) (by decide +kernel) rfl ?_
    refine pv_e_icmpge (off := 7) (b := 14) (pc' := 10) (by decide +kernel) (by decide +kernel) rfl (fun c7 => ?_) (fun c7 => ?_)
    · rw [if_pos c7] at h
      refine pv_e_bk (ps := [(14, .iconst 0, 1)]) (t' := (0, 0, 15, [some (.int x0)], [.int (0:Int32)], M)) (by decide +kernel) rfl ?_
      obtain rfl := Option.some.inj h
      exact hJ5
    · rw [if_neg c7] at h
      refine pv_e_bk (ps := [(10, .iconst 1, 1), (11, .goto 4, 3)]) (t' := (0, 0, 15, [some (.int x0)], [.int (1:Int32)], M)) (by decide +kernel) rfl ?_
      obtain rfl := Option.some.inj h
      exact hJ5
def f104_find (x1 : Int32) (s : pv_F) : Option (Int32 × pv_F) :=
  (pv_pf s 0 9 x1).bind fun s1 =>
  (pv_rd s1 73 6 x1).bind fun q3 =>
  (pv_wr s1 73 6 x1 (q3 + (1:Int32))).bind fun s5 =>
  some ((-3:Int32), s5)
theorem ee104 {xs : Nat → Int32} {L : Nat} (d : Nat) (x1 : Int32) {s : pv_F} {T : pv_T} {q : Int32 × pv_F}  (h : f104_find x1 s = some q) : pv_Ev xs L (d + 0) 104 (0, 0, 0, [some (.ref 0), some (.int x1)], [], pv_mm s T) (some (.int q.1), pv_mm q.2 T) := by
  generalize hr : ((some (.int q.1), pv_mm q.2 T) : Option Value × pv_M) = r
  unfold f104_find at h
  refine pv_e_bk (ps := [(0, .aload_n 0, 1), (1, .iload_n 1, 1)]) (t' := (0, 0, 2, [some (.ref 0), some (.int x1)], [.int x1, .ref 0], pv_mm s T)) (by decide +kernel) rfl ?_
  obtain ⟨s1, e2, h⟩ := Option.bind_eq_some_iff.mp h
  refine pv_e_pcs (i := 53) (ci := 5) (j := 9) (pc' := 5) (by decide +kernel) rfl rfl (by decide) rfl rfl e2 rfl ?_
  refine pv_e_bk (ps := [(5, .aload_n 0, 1)]) (t' := (0, 0, 6, [some (.ref 0), some (.int x1)], [.ref 0], pv_mm s1 T)) (by decide +kernel) rfl ?_
  refine pv_e_gr (i := 39) (ci := 5) (j := 5) (b := 73) (pc' := 9) (by decide +kernel) rfl rfl rfl ?_
  refine pv_e_bk (ps := [(9, .iload_n 1, 1), (10, .dup2, 1)]) (t' := (0, 0, 11, [some (.ref 0), some (.int x1)], [.int x1, .ref 73, .int x1, .ref 73], pv_mm s1 T)) (by decide +kernel) rfl ?_
  obtain ⟨q3, e4, h⟩ := Option.bind_eq_some_iff.mp h
  refine pv_e_rc (pc' := 12) (by decide +kernel) (by decide) rfl e4 rfl ?_
  refine pv_e_bk (ps := [(12, .iconst 1, 1), (13, .iadd, 1)]) (t' := (0, 0, 14, [some (.ref 0), some (.int x1)], [.int (q3 + (1:Int32)), .int x1, .ref 73], pv_mm s1 T)) (by decide +kernel) rfl ?_
  obtain ⟨s5, e6, h⟩ := Option.bind_eq_some_iff.mp h
  refine pv_e_wc (pc' := 15) (by decide +kernel) (by decide) rfl e6 rfl ?_
  refine pv_e_bk (ps := [(15, .bipush (-3), 2)]) (t' := (0, 0, 17, [some (.ref 0), some (.int x1)], [.int (-3:Int32)], pv_mm s5 T)) (by decide +kernel) rfl ?_
  obtain rfl := Option.some.inj h
  cases hr
  exact pv_e_ri (by decide +kernel)
def f54_row (x1 : Int32) (x2 : Int32) (s : pv_F) : Option (Int32 × pv_F) :=
  (f99_isRow x1).bind fun q2 =>
  if q2 = 0 then
    some ((-1:Int32), s)
  else
    if x2 ≤ (40:Int32) then
      if 0 ≤ x2 then
        (pv_ra 1 6 x1).bind fun o6 =>
        (f26_renew o6 x2 (0:Int32) s).bind fun s10 =>
        some (x2, s10)
      else
        (f104_find (5:Int32) s).bind fun (q12, s13) =>
        some (q12, s13)
    else
      some ((-1:Int32), s)
theorem ee54 {xs : Nat → Int32} {L : Nat} (d : Nat) (x1 : Int32) (x2 : Int32) {s : pv_F} {T : pv_T} {q : Int32 × pv_F}  (h : f54_row x1 x2 s = some q) : pv_Ev xs L (d + 1) 54 (0, 0, 0, [some (.ref 0), some (.int x1), some (.int x2)], [], pv_mm s T) (some (.int q.1), pv_mm q.2 T) := by
  generalize hr : ((some (.int q.1), pv_mm q.2 T) : Option Value × pv_M) = r
  unfold f54_row at h
  refine pv_e_bk (ps := [(0, .iload_n 1, 1)]) (t' := (0, 0, 1, [some (.ref 0), some (.int x1), some (.int x2)], [.int x1], pv_mm s T)) (by decide +kernel) rfl ?_
  obtain ⟨q2, e1, h⟩ := Option.bind_eq_some_iff.mp h
  refine pv_e_csi (d := d + 0) (i := 59) (z := 99) (np := 1) (ml := 1) (As := [.int x1]) (rs := []) (pc' := 4) (by decide +kernel) rfl rfl rfl (Nat.le_of_ble_eq_true rfl) (Nat.le_of_ble_eq_true rfl) rfl (ee99 (d + 0) x1 e1) ?_
  refine pv_e_ifeq (off := 9) (b := 13) (pc' := 7) (by decide +kernel) (by decide +kernel) rfl (fun c3 => ?_) (fun c3 => ?_)
  · rw [if_pos c3] at h
    refine pv_e_bk (ps := [(13, .iconst (-1), 1)]) (t' := (0, 0, 14, [some (.ref 0), some (.int x1), some (.int x2)], [.int (-1:Int32)], pv_mm s T)) (by decide +kernel) rfl ?_
    obtain rfl := Option.some.inj h
    cases hr
    exact pv_e_ri (by decide +kernel)
  · rw [if_neg c3] at h
    refine pv_e_bk (ps := [(7, .iload_n 2, 1), (8, .bipush 40, 2)]) (t' := (0, 0, 10, [some (.ref 0), some (.int x1), some (.int x2)], [.int (40:Int32), .int x2], pv_mm s T)) (by decide +kernel) rfl ?_
    refine pv_e_icmple (off := 5) (b := 15) (pc' := 13) (by decide +kernel) (by decide +kernel) rfl (fun c4 => ?_) (fun c4 => ?_)
    · rw [if_pos c4] at h
      refine pv_e_bk (ps := [(15, .iload_n 2, 1)]) (t' := (0, 0, 16, [some (.ref 0), some (.int x1), some (.int x2)], [.int x2], pv_mm s T)) (by decide +kernel) rfl ?_
      refine pv_e_ifge (off := 9) (b := 25) (pc' := 19) (by decide +kernel) (by decide +kernel) rfl (fun c5 => ?_) (fun c5 => ?_)
      · rw [if_pos c5] at h
        refine pv_e_bk (ps := [(25, .aload_n 0, 1)]) (t' := (0, 0, 26, [some (.ref 0), some (.int x1), some (.int x2)], [.ref 0], pv_mm s T)) (by decide +kernel) rfl ?_
        refine pv_e_gr (i := 11) (ci := 5) (j := 0) (b := 1) (pc' := 29) (by decide +kernel) rfl rfl rfl ?_
        refine pv_e_bk (ps := [(29, .iload_n 1, 1)]) (t' := (0, 0, 30, [some (.ref 0), some (.int x1), some (.int x2)], [.int x1, .ref 1], pv_mm s T)) (by decide +kernel) rfl ?_
        obtain ⟨o6, e7, h⟩ := Option.bind_eq_some_iff.mp h
        have g8 := ra_rows e7
        refine pv_e_ra (zz := 6) (pc' := 31) (by decide +kernel) rfl (by decide) e7 rfl ?_
        refine pv_e_bk (ps := [(31, .iload_n 2, 1), (32, .iconst 0, 1)]) (t' := (0, 0, 33, [some (.ref 0), some (.int x1), some (.int x2)], [.int (0:Int32), .int x2, .ref o6], pv_mm s T)) (by decide +kernel) rfl ?_
        obtain ⟨s10, e9, h⟩ := Option.bind_eq_some_iff.mp h
        refine pv_e_cvv (d := d + 0) (i := 67) (z := 26) (np := 2) (ml := 4) (ci := 2) (As := [.int x2, .int (0:Int32)]) (rs := []) (pc' := 36) (by decide +kernel) (rw_ g8).1 rfl rfl rfl (Nat.le_of_ble_eq_true rfl) (Nat.le_of_ble_eq_true rfl) rfl (ee26 (d + 0) o6 x2 (0:Int32) g8 e9) ?_
        refine pv_e_bk (ps := [(36, .iload_n 2, 1)]) (t' := (0, 0, 37, [some (.ref 0), some (.int x1), some (.int x2)], [.int x2], pv_mm s10 T)) (by decide +kernel) rfl ?_
        obtain rfl := Option.some.inj h
        cases hr
        exact pv_e_ri (by decide +kernel)
      · rw [if_neg c5] at h
        refine pv_e_bk (ps := [(19, .aload_n 0, 1), (20, .iconst 5, 1)]) (t' := (0, 0, 21, [some (.ref 0), some (.int x1), some (.int x2)], [.int (5:Int32), .ref 0], pv_mm s T)) (by decide +kernel) rfl ?_
        obtain ⟨⟨q12, s13⟩, e11, h⟩ := Option.bind_eq_some_iff.mp h
        dsimp only at h
        refine pv_e_cvi (d := d + 0) (i := 63) (z := 104) (np := 1) (ml := 2) (ci := 5) (As := [.int (5:Int32)]) (rs := []) (pc' := 24) (by decide +kernel) rfl rfl rfl rfl (Nat.le_of_ble_eq_true rfl) (Nat.le_of_ble_eq_true rfl) rfl (ee104 (d + 0) (5:Int32) e11) ?_
        obtain rfl := Option.some.inj h
        cases hr
        exact pv_e_ri (by decide +kernel)
    · rw [if_neg c4] at h
      refine pv_e_bk (ps := [(13, .iconst (-1), 1)]) (t' := (0, 0, 14, [some (.ref 0), some (.int x1), some (.int x2)], [.int (-1:Int32)], pv_mm s T)) (by decide +kernel) rfl ?_
      obtain rfl := Option.some.inj h
      cases hr
      exact pv_e_ri (by decide +kernel)
def f105_placeFinding (x0 : Nat) (x1 : Int32) (s : pv_F) : Option (Int32) :=
  if (s x0 1) = 0 then
    some (1:Int32)
  else
    (f27_has x0 x1 s).bind fun q3 =>
    ((
      if q3 = 0 then
        some (2:Int32)
      else
        some (0:Int32)) : Option (Int32)).bind fun t4 =>
    some t4
theorem ee105 {xs : Nat → Int32} {L : Nat} (d : Nat) (x0 : Nat) (x1 : Int32) {s : pv_F} {T : pv_T} {q : Int32} (g0 : x0 ∈ pv_rows) (h : f105_placeFinding x0 x1 s = some q) : pv_Ev xs L (d + 1) 105 (0, 0, 0, [some (.ref x0), some (.int x1)], [], pv_mm s T) (some (.int q), pv_mm s T) := by
  generalize hr : ((some (.int q), pv_mm s T) : Option Value × pv_M) = r
  unfold f105_placeFinding at h
  refine pv_e_bk (ps := [(0, .aload_n 0, 1)]) (t' := (0, 0, 1, [some (.ref x0), some (.int x1)], [.ref x0], pv_mm s T)) (by decide +kernel) rfl ?_
  refine pv_e_gc (i := 78) (ci := 2) (j := 1) (pc' := 4) (by decide +kernel) (by have := (rw_ g0).2.2; omega) (rw_ g0).1 rfl rfl ?_
  refine pv_e_ifne (off := 5) (b := 9) (pc' := 7) (by decide +kernel) (by decide +kernel) rfl (fun c1 => ?_) (fun c1 => ?_)
  · rw [if_pos c1] at h
    refine pv_e_bk (ps := [(7, .iconst 1, 1)]) (t' := (0, 0, 8, [some (.ref x0), some (.int x1)], [.int (1:Int32)], pv_mm s T)) (by decide +kernel) rfl ?_
    obtain rfl := Option.some.inj h
    cases hr
    exact pv_e_ri (by decide +kernel)
  · rw [if_neg c1] at h
    refine pv_e_bk (ps := [(9, .aload_n 0, 1), (10, .iload_n 1, 1)]) (t' := (0, 0, 11, [some (.ref x0), some (.int x1)], [.int x1, .ref x0], pv_mm s T)) (by decide +kernel) rfl ?_
    obtain ⟨q3, e2, h⟩ := Option.bind_eq_some_iff.mp h
    refine pv_e_cvi (d := d + 0) (i := 276) (z := 27) (np := 1) (ml := 2) (ci := 2) (As := [.int x1]) (rs := []) (pc' := 14) (by decide +kernel) (rw_ g0).1 rfl rfl rfl (Nat.le_of_ble_eq_true rfl) (Nat.le_of_ble_eq_true rfl) rfl (ee27 (d + 0) x0 x1 g0 e2) ?_
    obtain ⟨t4, hv5, h⟩ := Option.bind_eq_some_iff.mp h
    have hJ6 : pv_Ev xs L (d + 1) 105 (0, 0, 22, [some (.ref x0), some (.int x1)], [.int t4], pv_mm s T) r := by
      obtain rfl := Option.some.inj h
      cases hr
      exact pv_e_ri (by decide +kernel)
    clear h
    have h := hv5
    clear hv5
    refine pv_e_ifeq (off := 7) (b := 21) (pc' := 17) (by decide +kernel) (by decide +kernel) rfl (fun c7 => ?_) (fun c7 => ?_)
    · rw [if_pos c7] at h
      refine pv_e_bk (ps := [(21, .iconst 2, 1)]) (t' := (0, 0, 22, [some (.ref x0), some (.int x1)], [.int (2:Int32)], pv_mm s T)) (by decide +kernel) rfl ?_
      obtain rfl := Option.some.inj h
      exact hJ6
    · rw [if_neg c7] at h
      refine pv_e_bk (ps := [(17, .iconst 0, 1), (18, .goto 4, 3)]) (t' := (0, 0, 22, [some (.ref x0), some (.int x1)], [.int (0:Int32)], pv_mm s T)) (by decide +kernel) rfl ?_
      obtain rfl := Option.some.inj h
      exact hJ6
