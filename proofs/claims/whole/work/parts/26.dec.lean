-- printed by wip/whole/gen/parts.py: methods as functions over the ints of the memory, and that the pure machine runs so
def f55_lay (x1 : Int32) (x2 : Int32) (x3 : Int32) (s : pv_F) : Option (Int32 × pv_F) :=
  (f99_isRow x1).bind fun q2 =>
  if q2 = 0 then
    some ((-1:Int32), s)
  else
    (pv_ra 1 6 x1).bind fun o4 =>
    (f105_placeFinding o4 x2 s).bind fun q8 =>
    if q8 = 0 then
      (pv_ra 1 6 x1).bind fun o10 =>
      (pv_rd s (o10 + 1) (pv_an (o10 + 1)) x2).bind fun q13 =>
      (pv_pf s 0 8 q13).bind fun s15 =>
      (pv_ra 1 6 x1).bind fun o17 =>
      (pv_wr s15 (o17 + 1) (pv_an (o17 + 1)) x2 x3).bind fun s20 =>
      some ((1:Int32), s20)
    else
      (f104_find q8 s).bind fun (q23, s24) =>
      some (q23, s24)
theorem ee55 {xs : Nat → Int32} {L : Nat} (d : Nat) (x1 : Int32) (x2 : Int32) (x3 : Int32) {s : pv_F} {T : pv_T} {q : Int32 × pv_F}  (h : f55_lay x1 x2 x3 s = some q) : pv_Ev xs L (d + 2) 55 (0, 0, 0, [some (.ref 0), some (.int x1), some (.int x2), some (.int x3), none], [], pv_mm s T) (some (.int q.1), pv_mm q.2 T) := by
  generalize hr : ((some (.int q.1), pv_mm q.2 T) : Option Value × pv_M) = r
  unfold f55_lay at h
  refine pv_e_bk (ps := [(0, .iload_n 1, 1)]) (t' := (0, 0, 1, [some (.ref 0), some (.int x1), some (.int x2), some (.int x3), none], [.int x1], pv_mm s T)) (by decide +kernel) rfl ?_
  obtain ⟨q2, e1, h⟩ := Option.bind_eq_some_iff.mp h
  refine pv_e_csi (d := d + 1) (i := 59) (z := 99) (np := 1) (ml := 1) (As := [.int x1]) (rs := []) (pc' := 4) (by decide +kernel) rfl rfl rfl (Nat.le_of_ble_eq_true rfl) (Nat.le_of_ble_eq_true rfl) rfl (ee99 (d + 1) x1 e1) ?_
  refine pv_e_ifne (off := 5) (b := 9) (pc' := 7) (by decide +kernel) (by decide +kernel) rfl (fun c3 => ?_) (fun c3 => ?_)
  · rw [if_pos c3] at h
    refine pv_e_bk (ps := [(7, .iconst (-1), 1)]) (t' := (0, 0, 8, [some (.ref 0), some (.int x1), some (.int x2), some (.int x3), none], [.int (-1:Int32)], pv_mm s T)) (by decide +kernel) rfl ?_
    obtain rfl := Option.some.inj h
    cases hr
    exact pv_e_ri (by decide +kernel)
  · rw [if_neg c3] at h
    refine pv_e_bk (ps := [(9, .aload_n 0, 1)]) (t' := (0, 0, 10, [some (.ref 0), some (.int x1), some (.int x2), some (.int x3), none], [.ref 0], pv_mm s T)) (by decide +kernel) rfl ?_
    refine pv_e_gr (i := 11) (ci := 5) (j := 0) (b := 1) (pc' := 13) (by decide +kernel) rfl rfl rfl ?_
    refine pv_e_bk (ps := [(13, .iload_n 1, 1)]) (t' := (0, 0, 14, [some (.ref 0), some (.int x1), some (.int x2), some (.int x3), none], [.int x1, .ref 1], pv_mm s T)) (by decide +kernel) rfl ?_
    obtain ⟨o4, e5, h⟩ := Option.bind_eq_some_iff.mp h
    have g6 := ra_rows e5
    refine pv_e_ra (zz := 6) (pc' := 15) (by decide +kernel) rfl (by decide) e5 rfl ?_
    refine pv_e_bk (ps := [(15, .iload_n 2, 1)]) (t' := (0, 0, 16, [some (.ref 0), some (.int x1), some (.int x2), some (.int x3), none], [.int x2, .ref o4], pv_mm s T)) (by decide +kernel) rfl ?_
    obtain ⟨q8, e7, h⟩ := Option.bind_eq_some_iff.mp h
    refine pv_e_csi (d := d + 1) (i := 71) (z := 105) (np := 2) (ml := 2) (As := [.ref o4, .int x2]) (rs := []) (pc' := 19) (by decide +kernel) rfl rfl rfl (Nat.le_of_ble_eq_true rfl) (Nat.le_of_ble_eq_true rfl) rfl (ee105 (d + 0) o4 x2 g6 e7) ?_
    refine pv_e_bk (ps := [(19, .istore 4, 2), (21, .iload 4, 2)]) (t' := (0, 0, 23, [some (.ref 0), some (.int x1), some (.int x2), some (.int x3), some (.int q8)], [.int q8], pv_mm s T)) (by decide +kernel) rfl ?_
    refine pv_e_ifeq (off := 10) (b := 33) (pc' := 26) (by decide +kernel) (by decide +kernel) rfl (fun c9 => ?_) (fun c9 => ?_)
    · rw [if_pos c9] at h
      refine pv_e_bk (ps := [(33, .aload_n 0, 1), (34, .aload_n 0, 1)]) (t' := (0, 0, 35, [some (.ref 0), some (.int x1), some (.int x2), some (.int x3), some (.int q8)], [.ref 0, .ref 0], pv_mm s T)) (by decide +kernel) rfl ?_
      refine pv_e_gr (i := 11) (ci := 5) (j := 0) (b := 1) (pc' := 38) (by decide +kernel) rfl rfl rfl ?_
      refine pv_e_bk (ps := [(38, .iload_n 1, 1)]) (t' := (0, 0, 39, [some (.ref 0), some (.int x1), some (.int x2), some (.int x3), some (.int q8)], [.int x1, .ref 1, .ref 0], pv_mm s T)) (by decide +kernel) rfl ?_
      obtain ⟨o10, e11, h⟩ := Option.bind_eq_some_iff.mp h
      have g12 := ra_rows e11
      refine pv_e_ra (zz := 6) (pc' := 40) (by decide +kernel) rfl (by decide) e11 rfl ?_
      refine pv_e_gr (i := 75) (ci := 2) (j := 0) (b := o10 + 1) (pc' := 43) (by decide +kernel) (rw_ g12).1 rfl rfl ?_
      refine pv_e_bk (ps := [(43, .iload_n 2, 1)]) (t' := (0, 0, 44, [some (.ref 0), some (.int x1), some (.int x2), some (.int x3), some (.int q8)], [.int x2, .ref (o10 + 1), .ref 0], pv_mm s T)) (by decide +kernel) rfl ?_
      obtain ⟨q13, e14, h⟩ := Option.bind_eq_some_iff.mp h
      refine pv_e_rc (pc' := 45) (by decide +kernel) (rw_ g12).2.2 (rw_ g12).2.1 e14 rfl ?_
      obtain ⟨s15, e16, h⟩ := Option.bind_eq_some_iff.mp h
      refine pv_e_pcs (i := 50) (ci := 5) (j := 8) (pc' := 48) (by decide +kernel) rfl rfl (by decide) rfl rfl e16 rfl ?_
      refine pv_e_bk (ps := [(48, .aload_n 0, 1)]) (t' := (0, 0, 49, [some (.ref 0), some (.int x1), some (.int x2), some (.int x3), some (.int q8)], [.ref 0], pv_mm s15 T)) (by decide +kernel) rfl ?_
      refine pv_e_gr (i := 11) (ci := 5) (j := 0) (b := 1) (pc' := 52) (by decide +kernel) rfl rfl rfl ?_
      refine pv_e_bk (ps := [(52, .iload_n 1, 1)]) (t' := (0, 0, 53, [some (.ref 0), some (.int x1), some (.int x2), some (.int x3), some (.int q8)], [.int x1, .ref 1], pv_mm s15 T)) (by decide +kernel) rfl ?_
      obtain ⟨o17, e18, h⟩ := Option.bind_eq_some_iff.mp h
      have g19 := ra_rows e18
      refine pv_e_ra (zz := 6) (pc' := 54) (by decide +kernel) rfl (by decide) e18 rfl ?_
      refine pv_e_gr (i := 75) (ci := 2) (j := 0) (b := o17 + 1) (pc' := 57) (by decide +kernel) (rw_ g19).1 rfl rfl ?_
      refine pv_e_bk (ps := [(57, .iload_n 2, 1), (58, .iload_n 3, 1)]) (t' := (0, 0, 59, [some (.ref 0), some (.int x1), some (.int x2), some (.int x3), some (.int q8)], [.int x3, .int x2, .ref (o17 + 1)], pv_mm s15 T)) (by decide +kernel) rfl ?_
      obtain ⟨s20, e21, h⟩ := Option.bind_eq_some_iff.mp h
      refine pv_e_wc (pc' := 60) (by decide +kernel) (rw_ g19).2.2 (rw_ g19).2.1 e21 rfl ?_
      refine pv_e_bk (ps := [(60, .iconst 1, 1)]) (t' := (0, 0, 61, [some (.ref 0), some (.int x1), some (.int x2), some (.int x3), some (.int q8)], [.int (1:Int32)], pv_mm s20 T)) (by decide +kernel) rfl ?_
      obtain rfl := Option.some.inj h
      cases hr
      exact pv_e_ri (by decide +kernel)
    · rw [if_neg c9] at h
      refine pv_e_bk (ps := [(26, .aload_n 0, 1), (27, .iload 4, 2)]) (t' := (0, 0, 29, [some (.ref 0), some (.int x1), some (.int x2), some (.int x3), some (.int q8)], [.int q8, .ref 0], pv_mm s T)) (by decide +kernel) rfl ?_
      obtain ⟨⟨q23, s24⟩, e22, h⟩ := Option.bind_eq_some_iff.mp h
      dsimp only at h
      refine pv_e_cvi (d := d + 1) (i := 63) (z := 104) (np := 1) (ml := 2) (ci := 5) (As := [.int q8]) (rs := []) (pc' := 32) (by decide +kernel) rfl rfl rfl rfl (Nat.le_of_ble_eq_true rfl) (Nat.le_of_ble_eq_true rfl) rfl (ee104 (d + 1) q8 e22) ?_
      obtain rfl := Option.some.inj h
      cases hr
      exact pv_e_ri (by decide +kernel)
def f56_at (x1 : Int32) (x2 : Int32) (s : pv_F) : Option (Int32 × pv_F) :=
  (f99_isRow x1).bind fun q2 =>
  if q2 = 0 then
    some ((-1:Int32), s)
  else
    (pv_ra 1 6 x1).bind fun o4 =>
    (f105_placeFinding o4 x2 s).bind fun q8 =>
    if q8 = 0 then
      (pv_ra 1 6 x1).bind fun o10 =>
      (pv_rd s (o10 + 1) (pv_an (o10 + 1)) x2).bind fun q13 =>
      (pv_pf s 0 8 q13).bind fun s15 =>
      some ((1:Int32), s15)
    else
      (f104_find q8 s).bind fun (q18, s19) =>
      some (q18, s19)
theorem ee56 {xs : Nat → Int32} {L : Nat} (d : Nat) (x1 : Int32) (x2 : Int32) {s : pv_F} {T : pv_T} {q : Int32 × pv_F}  (h : f56_at x1 x2 s = some q) : pv_Ev xs L (d + 2) 56 (0, 0, 0, [some (.ref 0), some (.int x1), some (.int x2), none], [], pv_mm s T) (some (.int q.1), pv_mm q.2 T) := by
  generalize hr : ((some (.int q.1), pv_mm q.2 T) : Option Value × pv_M) = r
  unfold f56_at at h
  refine pv_e_bk (ps := [(0, .iload_n 1, 1)]) (t' := (0, 0, 1, [some (.ref 0), some (.int x1), some (.int x2), none], [.int x1], pv_mm s T)) (by decide +kernel) rfl ?_
  obtain ⟨q2, e1, h⟩ := Option.bind_eq_some_iff.mp h
  refine pv_e_csi (d := d + 1) (i := 59) (z := 99) (np := 1) (ml := 1) (As := [.int x1]) (rs := []) (pc' := 4) (by decide +kernel) rfl rfl rfl (Nat.le_of_ble_eq_true rfl) (Nat.le_of_ble_eq_true rfl) rfl (ee99 (d + 1) x1 e1) ?_
  refine pv_e_ifne (off := 5) (b := 9) (pc' := 7) (by decide +kernel) (by decide +kernel) rfl (fun c3 => ?_) (fun c3 => ?_)
  · rw [if_pos c3] at h
    refine pv_e_bk (ps := [(7, .iconst (-1), 1)]) (t' := (0, 0, 8, [some (.ref 0), some (.int x1), some (.int x2), none], [.int (-1:Int32)], pv_mm s T)) (by decide +kernel) rfl ?_
    obtain rfl := Option.some.inj h
    cases hr
    exact pv_e_ri (by decide +kernel)
  · rw [if_neg c3] at h
    refine pv_e_bk (ps := [(9, .aload_n 0, 1)]) (t' := (0, 0, 10, [some (.ref 0), some (.int x1), some (.int x2), none], [.ref 0], pv_mm s T)) (by decide +kernel) rfl ?_
    refine pv_e_gr (i := 11) (ci := 5) (j := 0) (b := 1) (pc' := 13) (by decide +kernel) rfl rfl rfl ?_
    refine pv_e_bk (ps := [(13, .iload_n 1, 1)]) (t' := (0, 0, 14, [some (.ref 0), some (.int x1), some (.int x2), none], [.int x1, .ref 1], pv_mm s T)) (by decide +kernel) rfl ?_
    obtain ⟨o4, e5, h⟩ := Option.bind_eq_some_iff.mp h
    have g6 := ra_rows e5
    refine pv_e_ra (zz := 6) (pc' := 15) (by decide +kernel) rfl (by decide) e5 rfl ?_
    refine pv_e_bk (ps := [(15, .iload_n 2, 1)]) (t' := (0, 0, 16, [some (.ref 0), some (.int x1), some (.int x2), none], [.int x2, .ref o4], pv_mm s T)) (by decide +kernel) rfl ?_
    obtain ⟨q8, e7, h⟩ := Option.bind_eq_some_iff.mp h
    refine pv_e_csi (d := d + 1) (i := 71) (z := 105) (np := 2) (ml := 2) (As := [.ref o4, .int x2]) (rs := []) (pc' := 19) (by decide +kernel) rfl rfl rfl (Nat.le_of_ble_eq_true rfl) (Nat.le_of_ble_eq_true rfl) rfl (ee105 (d + 0) o4 x2 g6 e7) ?_
    refine pv_e_bk (ps := [(19, .istore_n 3, 1), (20, .iload_n 3, 1)]) (t' := (0, 0, 21, [some (.ref 0), some (.int x1), some (.int x2), some (.int q8)], [.int q8], pv_mm s T)) (by decide +kernel) rfl ?_
    refine pv_e_ifeq (off := 9) (b := 30) (pc' := 24) (by decide +kernel) (by decide +kernel) rfl (fun c9 => ?_) (fun c9 => ?_)
    · rw [if_pos c9] at h
      refine pv_e_bk (ps := [(30, .aload_n 0, 1), (31, .aload_n 0, 1)]) (t' := (0, 0, 32, [some (.ref 0), some (.int x1), some (.int x2), some (.int q8)], [.ref 0, .ref 0], pv_mm s T)) (by decide +kernel) rfl ?_
      refine pv_e_gr (i := 11) (ci := 5) (j := 0) (b := 1) (pc' := 35) (by decide +kernel) rfl rfl rfl ?_
      refine pv_e_bk (ps := [(35, .iload_n 1, 1)]) (t' := (0, 0, 36, [some (.ref 0), some (.int x1), some (.int x2), some (.int q8)], [.int x1, .ref 1, .ref 0], pv_mm s T)) (by decide +kernel) rfl ?_
      obtain ⟨o10, e11, h⟩ := Option.bind_eq_some_iff.mp h
      have g12 := ra_rows e11
      refine pv_e_ra (zz := 6) (pc' := 37) (by decide +kernel) rfl (by decide) e11 rfl ?_
      refine pv_e_gr (i := 75) (ci := 2) (j := 0) (b := o10 + 1) (pc' := 40) (by decide +kernel) (rw_ g12).1 rfl rfl ?_
      refine pv_e_bk (ps := [(40, .iload_n 2, 1)]) (t' := (0, 0, 41, [some (.ref 0), some (.int x1), some (.int x2), some (.int q8)], [.int x2, .ref (o10 + 1), .ref 0], pv_mm s T)) (by decide +kernel) rfl ?_
      obtain ⟨q13, e14, h⟩ := Option.bind_eq_some_iff.mp h
      refine pv_e_rc (pc' := 42) (by decide +kernel) (rw_ g12).2.2 (rw_ g12).2.1 e14 rfl ?_
      obtain ⟨s15, e16, h⟩ := Option.bind_eq_some_iff.mp h
      refine pv_e_pcs (i := 50) (ci := 5) (j := 8) (pc' := 45) (by decide +kernel) rfl rfl (by decide) rfl rfl e16 rfl ?_
      refine pv_e_bk (ps := [(45, .iconst 1, 1)]) (t' := (0, 0, 46, [some (.ref 0), some (.int x1), some (.int x2), some (.int q8)], [.int (1:Int32)], pv_mm s15 T)) (by decide +kernel) rfl ?_
      obtain rfl := Option.some.inj h
      cases hr
      exact pv_e_ri (by decide +kernel)
    · rw [if_neg c9] at h
      refine pv_e_bk (ps := [(24, .aload_n 0, 1), (25, .iload_n 3, 1)]) (t' := (0, 0, 26, [some (.ref 0), some (.int x1), some (.int x2), some (.int q8)], [.int q8, .ref 0], pv_mm s T)) (by decide +kernel) rfl ?_
      obtain ⟨⟨q18, s19⟩, e17, h⟩ := Option.bind_eq_some_iff.mp h
      dsimp only at h
      refine pv_e_cvi (d := d + 1) (i := 63) (z := 104) (np := 1) (ml := 2) (ci := 5) (As := [.int q8]) (rs := []) (pc' := 29) (by decide +kernel) rfl rfl rfl rfl (Nat.le_of_ble_eq_true rfl) (Nat.le_of_ble_eq_true rfl) rfl (ee104 (d + 1) q8 e17) ?_
      obtain rfl := Option.some.inj h
      cases hr
      exact pv_e_ri (by decide +kernel)
def f57_tear (x1 : Int32) (s : pv_F) : Option (Int32 × pv_F) :=
  (f99_isRow x1).bind fun q2 =>
  if q2 = 0 then
    some ((-1:Int32), s)
  else
    (pv_ra 1 6 x1).bind fun o4 =>
    if (s o4 1) = 0 then
      (f104_find (1:Int32) s).bind fun (q9, s10) =>
      some (q9, s10)
    else
      (pv_ra 1 6 x1).bind fun o11 =>
      (pv_pf s o11 1 (0:Int32)).bind fun s14 =>
      some ((1:Int32), s14)
theorem ee57 {xs : Nat → Int32} {L : Nat} (d : Nat) (x1 : Int32) {s : pv_F} {T : pv_T} {q : Int32 × pv_F}  (h : f57_tear x1 s = some q) : pv_Ev xs L (d + 1) 57 (0, 0, 0, [some (.ref 0), some (.int x1)], [], pv_mm s T) (some (.int q.1), pv_mm q.2 T) := by
  generalize hr : ((some (.int q.1), pv_mm q.2 T) : Option Value × pv_M) = r
  unfold f57_tear at h
  refine pv_e_bk (ps := [(0, .iload_n 1, 1)]) (t' := (0, 0, 1, [some (.ref 0), some (.int x1)], [.int x1], pv_mm s T)) (by decide +kernel) rfl ?_
  obtain ⟨q2, e1, h⟩ := Option.bind_eq_some_iff.mp h
  refine pv_e_csi (d := d + 0) (i := 59) (z := 99) (np := 1) (ml := 1) (As := [.int x1]) (rs := []) (pc' := 4) (by decide +kernel) rfl rfl rfl (Nat.le_of_ble_eq_true rfl) (Nat.le_of_ble_eq_true rfl) rfl (ee99 (d + 0) x1 e1) ?_
  refine pv_e_ifne (off := 5) (b := 9) (pc' := 7) (by decide +kernel) (by decide +kernel) rfl (fun c3 => ?_) (fun c3 => ?_)
  · rw [if_pos c3] at h
    refine pv_e_bk (ps := [(7, .iconst (-1), 1)]) (t' := (0, 0, 8, [some (.ref 0), some (.int x1)], [.int (-1:Int32)], pv_mm s T)) (by decide +kernel) rfl ?_
    obtain rfl := Option.some.inj h
    cases hr
    exact pv_e_ri (by decide +kernel)
  · rw [if_neg c3] at h
    refine pv_e_bk (ps := [(9, .aload_n 0, 1)]) (t' := (0, 0, 10, [some (.ref 0), some (.int x1)], [.ref 0], pv_mm s T)) (by decide +kernel) rfl ?_
    refine pv_e_gr (i := 11) (ci := 5) (j := 0) (b := 1) (pc' := 13) (by decide +kernel) rfl rfl rfl ?_
    refine pv_e_bk (ps := [(13, .iload_n 1, 1)]) (t' := (0, 0, 14, [some (.ref 0), some (.int x1)], [.int x1, .ref 1], pv_mm s T)) (by decide +kernel) rfl ?_
    obtain ⟨o4, e5, h⟩ := Option.bind_eq_some_iff.mp h
    have g6 := ra_rows e5
    refine pv_e_ra (zz := 6) (pc' := 15) (by decide +kernel) rfl (by decide) e5 rfl ?_
    refine pv_e_gc (i := 78) (ci := 2) (j := 1) (pc' := 18) (by decide +kernel) (by have := (rw_ g6).2.2; omega) (rw_ g6).1 rfl rfl ?_
    refine pv_e_ifne (off := 9) (b := 27) (pc' := 21) (by decide +kernel) (by decide +kernel) rfl (fun c7 => ?_) (fun c7 => ?_)
    · rw [if_pos c7] at h
      refine pv_e_bk (ps := [(21, .aload_n 0, 1), (22, .iconst 1, 1)]) (t' := (0, 0, 23, [some (.ref 0), some (.int x1)], [.int (1:Int32), .ref 0], pv_mm s T)) (by decide +kernel) rfl ?_
      obtain ⟨⟨q9, s10⟩, e8, h⟩ := Option.bind_eq_some_iff.mp h
      dsimp only at h
      refine pv_e_cvi (d := d + 0) (i := 63) (z := 104) (np := 1) (ml := 2) (ci := 5) (As := [.int (1:Int32)]) (rs := []) (pc' := 26) (by decide +kernel) rfl rfl rfl rfl (Nat.le_of_ble_eq_true rfl) (Nat.le_of_ble_eq_true rfl) rfl (ee104 (d + 0) (1:Int32) e8) ?_
      obtain rfl := Option.some.inj h
      cases hr
      exact pv_e_ri (by decide +kernel)
    · rw [if_neg c7] at h
      refine pv_e_bk (ps := [(27, .aload_n 0, 1)]) (t' := (0, 0, 28, [some (.ref 0), some (.int x1)], [.ref 0], pv_mm s T)) (by decide +kernel) rfl ?_
      refine pv_e_gr (i := 11) (ci := 5) (j := 0) (b := 1) (pc' := 31) (by decide +kernel) rfl rfl rfl ?_
      refine pv_e_bk (ps := [(31, .iload_n 1, 1)]) (t' := (0, 0, 32, [some (.ref 0), some (.int x1)], [.int x1, .ref 1], pv_mm s T)) (by decide +kernel) rfl ?_
      obtain ⟨o11, e12, h⟩ := Option.bind_eq_some_iff.mp h
      have g13 := ra_rows e12
      refine pv_e_ra (zz := 6) (pc' := 33) (by decide +kernel) rfl (by decide) e12 rfl ?_
      refine pv_e_bk (ps := [(33, .iconst 0, 1)]) (t' := (0, 0, 34, [some (.ref 0), some (.int x1)], [.int (0:Int32), .ref o11], pv_mm s T)) (by decide +kernel) rfl ?_
      obtain ⟨s14, e15, h⟩ := Option.bind_eq_some_iff.mp h
      refine pv_e_pcs (i := 78) (ci := 2) (j := 1) (pc' := 37) (by decide +kernel) (by decide +kernel) (by decide +kernel) (by have := (rw_ g13).2.2; omega) (rw_ g13).1 rfl e15 rfl ?_
      refine pv_e_bk (ps := [(37, .iconst 1, 1)]) (t' := (0, 0, 38, [some (.ref 0), some (.int x1)], [.int (1:Int32)], pv_mm s14 T)) (by decide +kernel) rfl ?_
      obtain rfl := Option.some.inj h
      cases hr
      exact pv_e_ri (by decide +kernel)
def f58_copy (x1 : Int32) (x2 : Int32) (x3 : Int32) (x4 : Int32) (x5 : Int32) (s : pv_F) : Option (Int32 × pv_F) :=
  (f99_isRow x1).bind fun q2 =>
  if q2 = 0 then
    some ((-1:Int32), s)
  else
    (f99_isRow x3).bind fun q5 =>
    if q5 = 0 then
      some ((-1:Int32), s)
    else
      if 0 ≤ x5 then
        (pv_ra 1 6 x1).bind fun o8 =>
        if (s o8 1) = 0 then
          (f104_find (1:Int32) s).bind fun (q13, s14) =>
          some (q13, s14)
        else
          (pv_ra 1 6 x3).bind fun o15 =>
          if (s o15 1) = 0 then
            (f104_find (1:Int32) s).bind fun (q20, s21) =>
            some (q20, s21)
          else
            (pv_ra 1 6 x1).bind fun o22 =>
            (f28_hasRun o22 x2 x5 s).bind fun q26 =>
            if q26 = 0 then
              (f104_find (2:Int32) s).bind fun (q29, s30) =>
              some (q29, s30)
            else
              (pv_ra 1 6 x3).bind fun o31 =>
              (f28_hasRun o31 x4 x5 s).bind fun q35 =>
              if q35 = 0 then
                (f104_find (2:Int32) s).bind fun (q38, s39) =>
                some (q38, s39)
              else
                (pv_ra 1 6 x1).bind fun o40 =>
                (pv_ra 1 6 x3).bind fun o43 =>
                (pv_cy s (o40 + 1) (pv_an (o40 + 1)) (o43 + 1) (pv_an (o43 + 1)) x2 x4 x5).bind fun s46 =>
                some ((1:Int32), s46)
      else
        (f104_find (5:Int32) s).bind fun (q49, s50) =>
        some (q49, s50)
theorem ee58 {xs : Nat → Int32} {L : Nat} (d : Nat) (x1 : Int32) (x2 : Int32) (x3 : Int32) (x4 : Int32) (x5 : Int32) {s : pv_F} {T : pv_T} {q : Int32 × pv_F}  (h : f58_copy x1 x2 x3 x4 x5 s = some q) : pv_Ev xs L (d + 1) 58 (0, 0, 0, [some (.ref 0), some (.int x1), some (.int x2), some (.int x3), some (.int x4), some (.int x5)], [], pv_mm s T) (some (.int q.1), pv_mm q.2 T) := by
  generalize hr : ((some (.int q.1), pv_mm q.2 T) : Option Value × pv_M) = r
  unfold f58_copy at h
  refine pv_e_bk (ps := [(0, .iload_n 1, 1)]) (t' := (0, 0, 1, [some (.ref 0), some (.int x1), some (.int x2), some (.int x3), some (.int x4), some (.int x5)], [.int x1], pv_mm s T)) (by decide +kernel) rfl ?_
  obtain ⟨q2, e1, h⟩ := Option.bind_eq_some_iff.mp h
  refine pv_e_csi (d := d + 0) (i := 59) (z := 99) (np := 1) (ml := 1) (As := [.int x1]) (rs := []) (pc' := 4) (by decide +kernel) rfl rfl rfl (Nat.le_of_ble_eq_true rfl) (Nat.le_of_ble_eq_true rfl) rfl (ee99 (d + 0) x1 e1) ?_
  refine pv_e_ifeq (off := 10) (b := 14) (pc' := 7) (by decide +kernel) (by decide +kernel) rfl (fun c3 => ?_) (fun c3 => ?_)
  · rw [if_pos c3] at h
    refine pv_e_bk (ps := [(14, .iconst (-1), 1)]) (t' := (0, 0, 15, [some (.ref 0), some (.int x1), some (.int x2), some (.int x3), some (.int x4), some (.int x5)], [.int (-1:Int32)], pv_mm s T)) (by decide +kernel) rfl ?_
    obtain rfl := Option.some.inj h
    cases hr
    exact pv_e_ri (by decide +kernel)
  · rw [if_neg c3] at h
    refine pv_e_bk (ps := [(7, .iload_n 3, 1)]) (t' := (0, 0, 8, [some (.ref 0), some (.int x1), some (.int x2), some (.int x3), some (.int x4), some (.int x5)], [.int x3], pv_mm s T)) (by decide +kernel) rfl ?_
    obtain ⟨q5, e4, h⟩ := Option.bind_eq_some_iff.mp h
    refine pv_e_csi (d := d + 0) (i := 59) (z := 99) (np := 1) (ml := 1) (As := [.int x3]) (rs := []) (pc' := 11) (by decide +kernel) rfl rfl rfl (Nat.le_of_ble_eq_true rfl) (Nat.le_of_ble_eq_true rfl) rfl (ee99 (d + 0) x3 e4) ?_
    refine pv_e_ifne (off := 5) (b := 16) (pc' := 14) (by decide +kernel) (by decide +kernel) rfl (fun c6 => ?_) (fun c6 => ?_)
    · rw [if_pos c6] at h
      refine pv_e_bk (ps := [(14, .iconst (-1), 1)]) (t' := (0, 0, 15, [some (.ref 0), some (.int x1), some (.int x2), some (.int x3), some (.int x4), some (.int x5)], [.int (-1:Int32)], pv_mm s T)) (by decide +kernel) rfl ?_
      obtain rfl := Option.some.inj h
      cases hr
      exact pv_e_ri (by decide +kernel)
    · rw [if_neg c6] at h
      refine pv_e_bk (ps := [(16, .iload 5, 2)]) (t' := (0, 0, 18, [some (.ref 0), some (.int x1), some (.int x2), some (.int x3), some (.int x4), some (.int x5)], [.int x5], pv_mm s T)) (by decide +kernel) rfl ?_
      refine pv_e_ifge (off := 9) (b := 27) (pc' := 21) (by decide +kernel) (by decide +kernel) rfl (fun c7 => ?_) (fun c7 => ?_)
      · rw [if_pos c7] at h
        refine pv_e_bk (ps := [(27, .aload_n 0, 1)]) (t' := (0, 0, 28, [some (.ref 0), some (.int x1), some (.int x2), some (.int x3), some (.int x4), some (.int x5)], [.ref 0], pv_mm s T)) (by decide +kernel) rfl ?_
        refine pv_e_gr (i := 11) (ci := 5) (j := 0) (b := 1) (pc' := 31) (by decide +kernel) rfl rfl rfl ?_
        refine pv_e_bk (ps := [(31, .iload_n 1, 1)]) (t' := (0, 0, 32, [some (.ref 0), some (.int x1), some (.int x2), some (.int x3), some (.int x4), some (.int x5)], [.int x1, .ref 1], pv_mm s T)) (by decide +kernel) rfl ?_
        obtain ⟨o8, e9, h⟩ := Option.bind_eq_some_iff.mp h
        have g10 := ra_rows e9
        refine pv_e_ra (zz := 6) (pc' := 33) (by decide +kernel) rfl (by decide) e9 rfl ?_
        refine pv_e_gc (i := 78) (ci := 2) (j := 1) (pc' := 36) (by decide +kernel) (by have := (rw_ g10).2.2; omega) (rw_ g10).1 rfl rfl ?_
        refine pv_e_ifeq (off := 15) (b := 51) (pc' := 39) (by decide +kernel) (by decide +kernel) rfl (fun c11 => ?_) (fun c11 => ?_)
        · rw [if_pos c11] at h
          refine pv_e_bk (ps := [(51, .aload_n 0, 1), (52, .iconst 1, 1)]) (t' := (0, 0, 53, [some (.ref 0), some (.int x1), some (.int x2), some (.int x3), some (.int x4), some (.int x5)], [.int (1:Int32), .ref 0], pv_mm s T)) (by decide +kernel) rfl ?_
          obtain ⟨⟨q13, s14⟩, e12, h⟩ := Option.bind_eq_some_iff.mp h
          dsimp only at h
          refine pv_e_cvi (d := d + 0) (i := 63) (z := 104) (np := 1) (ml := 2) (ci := 5) (As := [.int (1:Int32)]) (rs := []) (pc' := 56) (by decide +kernel) rfl rfl rfl rfl (Nat.le_of_ble_eq_true rfl) (Nat.le_of_ble_eq_true rfl) rfl (ee104 (d + 0) (1:Int32) e12) ?_
          obtain rfl := Option.some.inj h
          cases hr
          exact pv_e_ri (by decide +kernel)
        · rw [if_neg c11] at h
          refine pv_e_bk (ps := [(39, .aload_n 0, 1)]) (t' := (0, 0, 40, [some (.ref 0), some (.int x1), some (.int x2), some (.int x3), some (.int x4), some (.int x5)], [.ref 0], pv_mm s T)) (by decide +kernel) rfl ?_
          refine pv_e_gr (i := 11) (ci := 5) (j := 0) (b := 1) (pc' := 43) (by decide +kernel) rfl rfl rfl ?_
          refine pv_e_bk (ps := [(43, .iload_n 3, 1)]) (t' := (0, 0, 44, [some (.ref 0), some (.int x1), some (.int x2), some (.int x3), some (.int x4), some (.int x5)], [.int x3, .ref 1], pv_mm s T)) (by decide +kernel) rfl ?_
          obtain ⟨o15, e16, h⟩ := Option.bind_eq_some_iff.mp h
          have g17 := ra_rows e16
          refine pv_e_ra (zz := 6) (pc' := 45) (by decide +kernel) rfl (by decide) e16 rfl ?_
          refine pv_e_gc (i := 78) (ci := 2) (j := 1) (pc' := 48) (by decide +kernel) (by have := (rw_ g17).2.2; omega) (rw_ g17).1 rfl rfl ?_
          refine pv_e_ifne (off := 9) (b := 57) (pc' := 51) (by decide +kernel) (by decide +kernel) rfl (fun c18 => ?_) (fun c18 => ?_)
          · rw [if_pos c18] at h
            refine pv_e_bk (ps := [(51, .aload_n 0, 1), (52, .iconst 1, 1)]) (t' := (0, 0, 53, [some (.ref 0), some (.int x1), some (.int x2), some (.int x3), some (.int x4), some (.int x5)], [.int (1:Int32), .ref 0], pv_mm s T)) (by decide +kernel) rfl ?_
            obtain ⟨⟨q20, s21⟩, e19, h⟩ := Option.bind_eq_some_iff.mp h
            dsimp only at h
            refine pv_e_cvi (d := d + 0) (i := 63) (z := 104) (np := 1) (ml := 2) (ci := 5) (As := [.int (1:Int32)]) (rs := []) (pc' := 56) (by decide +kernel) rfl rfl rfl rfl (Nat.le_of_ble_eq_true rfl) (Nat.le_of_ble_eq_true rfl) rfl (ee104 (d + 0) (1:Int32) e19) ?_
            obtain rfl := Option.some.inj h
            cases hr
            exact pv_e_ri (by decide +kernel)
          · rw [if_neg c18] at h
            refine pv_e_bk (ps := [(57, .aload_n 0, 1)]) (t' := (0, 0, 58, [some (.ref 0), some (.int x1), some (.int x2), some (.int x3), some (.int x4), some (.int x5)], [.ref 0], pv_mm s T)) (by decide +kernel) rfl ?_
            refine pv_e_gr (i := 11) (ci := 5) (j := 0) (b := 1) (pc' := 61) (by decide +kernel) rfl rfl rfl ?_
            refine pv_e_bk (ps := [(61, .iload_n 1, 1)]) (t' := (0, 0, 62, [some (.ref 0), some (.int x1), some (.int x2), some (.int x3), some (.int x4), some (.int x5)], [.int x1, .ref 1], pv_mm s T)) (by decide +kernel) rfl ?_
            obtain ⟨o22, e23, h⟩ := Option.bind_eq_some_iff.mp h
            have g24 := ra_rows e23
            refine pv_e_ra (zz := 6) (pc' := 63) (by decide +kernel) rfl (by decide) e23 rfl ?_
            refine pv_e_bk (ps := [(63, .iload_n 2, 1), (64, .iload 5, 2)]) (t' := (0, 0, 66, [some (.ref 0), some (.int x1), some (.int x2), some (.int x3), some (.int x4), some (.int x5)], [.int x5, .int x2, .ref o22], pv_mm s T)) (by decide +kernel) rfl ?_
            obtain ⟨q26, e25, h⟩ := Option.bind_eq_some_iff.mp h
            refine pv_e_cvi (d := d + 0) (i := 82) (z := 28) (np := 2) (ml := 3) (ci := 2) (As := [.int x2, .int x5]) (rs := []) (pc' := 69) (by decide +kernel) (rw_ g24).1 rfl rfl rfl (Nat.le_of_ble_eq_true rfl) (Nat.le_of_ble_eq_true rfl) rfl (ee28 (d + 0) o22 x2 x5 g24 e25) ?_
            refine pv_e_ifeq (off := 19) (b := 88) (pc' := 72) (by decide +kernel) (by decide +kernel) rfl (fun c27 => ?_) (fun c27 => ?_)
            · rw [if_pos c27] at h
              refine pv_e_bk (ps := [(88, .aload_n 0, 1), (89, .iconst 2, 1)]) (t' := (0, 0, 90, [some (.ref 0), some (.int x1), some (.int x2), some (.int x3), some (.int x4), some (.int x5)], [.int (2:Int32), .ref 0], pv_mm s T)) (by decide +kernel) rfl ?_
              obtain ⟨⟨q29, s30⟩, e28, h⟩ := Option.bind_eq_some_iff.mp h
              dsimp only at h
              refine pv_e_cvi (d := d + 0) (i := 63) (z := 104) (np := 1) (ml := 2) (ci := 5) (As := [.int (2:Int32)]) (rs := []) (pc' := 93) (by decide +kernel) rfl rfl rfl rfl (Nat.le_of_ble_eq_true rfl) (Nat.le_of_ble_eq_true rfl) rfl (ee104 (d + 0) (2:Int32) e28) ?_
              obtain rfl := Option.some.inj h
              cases hr
              exact pv_e_ri (by decide +kernel)
            · rw [if_neg c27] at h
              refine pv_e_bk (ps := [(72, .aload_n 0, 1)]) (t' := (0, 0, 73, [some (.ref 0), some (.int x1), some (.int x2), some (.int x3), some (.int x4), some (.int x5)], [.ref 0], pv_mm s T)) (by decide +kernel) rfl ?_
              refine pv_e_gr (i := 11) (ci := 5) (j := 0) (b := 1) (pc' := 76) (by decide +kernel) rfl rfl rfl ?_
              refine pv_e_bk (ps := [(76, .iload_n 3, 1)]) (t' := (0, 0, 77, [some (.ref 0), some (.int x1), some (.int x2), some (.int x3), some (.int x4), some (.int x5)], [.int x3, .ref 1], pv_mm s T)) (by decide +kernel) rfl ?_
              obtain ⟨o31, e32, h⟩ := Option.bind_eq_some_iff.mp h
              have g33 := ra_rows e32
              refine pv_e_ra (zz := 6) (pc' := 78) (by decide +kernel) rfl (by decide) e32 rfl ?_
              refine pv_e_bk (ps := [(78, .iload 4, 2), (80, .iload 5, 2)]) (t' := (0, 0, 82, [some (.ref 0), some (.int x1), some (.int x2), some (.int x3), some (.int x4), some (.int x5)], [.int x5, .int x4, .ref o31], pv_mm s T)) (by decide +kernel) rfl ?_
              obtain ⟨q35, e34, h⟩ := Option.bind_eq_some_iff.mp h
              refine pv_e_cvi (d := d + 0) (i := 82) (z := 28) (np := 2) (ml := 3) (ci := 2) (As := [.int x4, .int x5]) (rs := []) (pc' := 85) (by decide +kernel) (rw_ g33).1 rfl rfl rfl (Nat.le_of_ble_eq_true rfl) (Nat.le_of_ble_eq_true rfl) rfl (ee28 (d + 0) o31 x4 x5 g33 e34) ?_
              refine pv_e_ifne (off := 9) (b := 94) (pc' := 88) (by decide +kernel) (by decide +kernel) rfl (fun c36 => ?_) (fun c36 => ?_)
              · rw [if_pos c36] at h
                refine pv_e_bk (ps := [(88, .aload_n 0, 1), (89, .iconst 2, 1)]) (t' := (0, 0, 90, [some (.ref 0), some (.int x1), some (.int x2), some (.int x3), some (.int x4), some (.int x5)], [.int (2:Int32), .ref 0], pv_mm s T)) (by decide +kernel) rfl ?_
                obtain ⟨⟨q38, s39⟩, e37, h⟩ := Option.bind_eq_some_iff.mp h
                dsimp only at h
                refine pv_e_cvi (d := d + 0) (i := 63) (z := 104) (np := 1) (ml := 2) (ci := 5) (As := [.int (2:Int32)]) (rs := []) (pc' := 93) (by decide +kernel) rfl rfl rfl rfl (Nat.le_of_ble_eq_true rfl) (Nat.le_of_ble_eq_true rfl) rfl (ee104 (d + 0) (2:Int32) e37) ?_
                obtain rfl := Option.some.inj h
                cases hr
                exact pv_e_ri (by decide +kernel)
              · rw [if_neg c36] at h
                refine pv_e_bk (ps := [(94, .aload_n 0, 1)]) (t' := (0, 0, 95, [some (.ref 0), some (.int x1), some (.int x2), some (.int x3), some (.int x4), some (.int x5)], [.ref 0], pv_mm s T)) (by decide +kernel) rfl ?_
                refine pv_e_gr (i := 11) (ci := 5) (j := 0) (b := 1) (pc' := 98) (by decide +kernel) rfl rfl rfl ?_
                refine pv_e_bk (ps := [(98, .iload_n 1, 1)]) (t' := (0, 0, 99, [some (.ref 0), some (.int x1), some (.int x2), some (.int x3), some (.int x4), some (.int x5)], [.int x1, .ref 1], pv_mm s T)) (by decide +kernel) rfl ?_
                obtain ⟨o40, e41, h⟩ := Option.bind_eq_some_iff.mp h
                have g42 := ra_rows e41
                refine pv_e_ra (zz := 6) (pc' := 100) (by decide +kernel) rfl (by decide) e41 rfl ?_
                refine pv_e_gr (i := 75) (ci := 2) (j := 0) (b := o40 + 1) (pc' := 103) (by decide +kernel) (rw_ g42).1 rfl rfl ?_
                refine pv_e_bk (ps := [(103, .iload_n 2, 1), (104, .aload_n 0, 1)]) (t' := (0, 0, 105, [some (.ref 0), some (.int x1), some (.int x2), some (.int x3), some (.int x4), some (.int x5)], [.ref 0, .int x2, .ref (o40 + 1)], pv_mm s T)) (by decide +kernel) rfl ?_
                refine pv_e_gr (i := 11) (ci := 5) (j := 0) (b := 1) (pc' := 108) (by decide +kernel) rfl rfl rfl ?_
                refine pv_e_bk (ps := [(108, .iload_n 3, 1)]) (t' := (0, 0, 109, [some (.ref 0), some (.int x1), some (.int x2), some (.int x3), some (.int x4), some (.int x5)], [.int x3, .ref 1, .int x2, .ref (o40 + 1)], pv_mm s T)) (by decide +kernel) rfl ?_
                obtain ⟨o43, e44, h⟩ := Option.bind_eq_some_iff.mp h
                have g45 := ra_rows e44
                refine pv_e_ra (zz := 6) (pc' := 110) (by decide +kernel) rfl (by decide) e44 rfl ?_
                refine pv_e_gr (i := 75) (ci := 2) (j := 0) (b := o43 + 1) (pc' := 113) (by decide +kernel) (rw_ g45).1 rfl rfl ?_
                refine pv_e_bk (ps := [(113, .iload 4, 2), (115, .iload 5, 2)]) (t' := (0, 0, 117, [some (.ref 0), some (.int x1), some (.int x2), some (.int x3), some (.int x4), some (.int x5)], [.int x5, .int x4, .ref (o43 + 1), .int x2, .ref (o40 + 1)], pv_mm s T)) (by decide +kernel) rfl ?_
                obtain ⟨s46, e47, h⟩ := Option.bind_eq_some_iff.mp h
                refine pv_e_cy (i := 86) (pc' := 120) (by decide +kernel) (Nat.le_add_left 1 _) (rw_ g42).2.2 (rw_ g45).2.2 (rw_ g42).2.1 (rw_ g45).2.1 (Nat.le_of_ble_eq_true rfl) e47 rfl ?_
                refine pv_e_bk (ps := [(120, .iconst 1, 1)]) (t' := (0, 0, 121, [some (.ref 0), some (.int x1), some (.int x2), some (.int x3), some (.int x4), some (.int x5)], [.int (1:Int32)], pv_mm s46 T)) (by decide +kernel) rfl ?_
                obtain rfl := Option.some.inj h
                cases hr
                exact pv_e_ri (by decide +kernel)
      · rw [if_neg c7] at h
        refine pv_e_bk (ps := [(21, .aload_n 0, 1), (22, .iconst 5, 1)]) (t' := (0, 0, 23, [some (.ref 0), some (.int x1), some (.int x2), some (.int x3), some (.int x4), some (.int x5)], [.int (5:Int32), .ref 0], pv_mm s T)) (by decide +kernel) rfl ?_
        obtain ⟨⟨q49, s50⟩, e48, h⟩ := Option.bind_eq_some_iff.mp h
        dsimp only at h
        refine pv_e_cvi (d := d + 0) (i := 63) (z := 104) (np := 1) (ml := 2) (ci := 5) (As := [.int (5:Int32)]) (rs := []) (pc' := 26) (by decide +kernel) rfl rfl rfl rfl (Nat.le_of_ble_eq_true rfl) (Nat.le_of_ble_eq_true rfl) rfl (ee104 (d + 0) (5:Int32) e48) ?_
        obtain rfl := Option.some.inj h
        cases hr
        exact pv_e_ri (by decide +kernel)
def f59_mean (x1 : Int32) (s : pv_F) : Option (Int32 × pv_F) :=
  (f99_isRow x1).bind fun q2 =>
  if q2 = 0 then
    some ((-1:Int32), s)
  else
    (pv_ra 1 6 x1).bind fun o4 =>
    if (s o4 1) = 0 then
      (f104_find (1:Int32) s).bind fun (q9, s10) =>
      some (q9, s10)
    else
      (pv_ra 1 6 x1).bind fun o11 =>
      if (1:Int32) ≤ (s o11 2) then
        (pv_ra 1 6 x1).bind fun o15 =>
        (f29_sum o15 s).bind fun q19 =>
        (pv_ra 1 6 x1).bind fun o20 =>
        (pv_ldv q19 ((s o20 2).toInt64)).bind fun q23 =>
        (pv_pf s 0 8 q23.toInt32).bind fun s25 =>
        some ((1:Int32), s25)
      else
        (f104_find (4:Int32) s).bind fun (q28, s29) =>
        some (q28, s29)
theorem ee59 {xs : Nat → Int32} {L : Nat} (d : Nat) (x1 : Int32) {s : pv_F} {T : pv_T} {q : Int32 × pv_F}  (h : f59_mean x1 s = some q) : pv_Ev xs L (d + 1) 59 (0, 0, 0, [some (.ref 0), some (.int x1)], [], pv_mm s T) (some (.int q.1), pv_mm q.2 T) := by
  generalize hr : ((some (.int q.1), pv_mm q.2 T) : Option Value × pv_M) = r
  unfold f59_mean at h
  refine pv_e_bk (ps := [(0, .iload_n 1, 1)]) (t' := (0, 0, 1, [some (.ref 0), some (.int x1)], [.int x1], pv_mm s T)) (by decide +kernel) rfl ?_
  obtain ⟨q2, e1, h⟩ := Option.bind_eq_some_iff.mp h
  refine pv_e_csi (d := d + 0) (i := 59) (z := 99) (np := 1) (ml := 1) (As := [.int x1]) (rs := []) (pc' := 4) (by decide +kernel) rfl rfl rfl (Nat.le_of_ble_eq_true rfl) (Nat.le_of_ble_eq_true rfl) rfl (ee99 (d + 0) x1 e1) ?_
  refine pv_e_ifne (off := 5) (b := 9) (pc' := 7) (by decide +kernel) (by decide +kernel) rfl (fun c3 => ?_) (fun c3 => ?_)
  · rw [if_pos c3] at h
    refine pv_e_bk (ps := [(7, .iconst (-1), 1)]) (t' := (0, 0, 8, [some (.ref 0), some (.int x1)], [.int (-1:Int32)], pv_mm s T)) (by decide +kernel) rfl ?_
    obtain rfl := Option.some.inj h
    cases hr
    exact pv_e_ri (by decide +kernel)
  · rw [if_neg c3] at h
    refine pv_e_bk (ps := [(9, .aload_n 0, 1)]) (t' := (0, 0, 10, [some (.ref 0), some (.int x1)], [.ref 0], pv_mm s T)) (by decide +kernel) rfl ?_
    refine pv_e_gr (i := 11) (ci := 5) (j := 0) (b := 1) (pc' := 13) (by decide +kernel) rfl rfl rfl ?_
    refine pv_e_bk (ps := [(13, .iload_n 1, 1)]) (t' := (0, 0, 14, [some (.ref 0), some (.int x1)], [.int x1, .ref 1], pv_mm s T)) (by decide +kernel) rfl ?_
    obtain ⟨o4, e5, h⟩ := Option.bind_eq_some_iff.mp h
    have g6 := ra_rows e5
    refine pv_e_ra (zz := 6) (pc' := 15) (by decide +kernel) rfl (by decide) e5 rfl ?_
    refine pv_e_gc (i := 78) (ci := 2) (j := 1) (pc' := 18) (by decide +kernel) (by have := (rw_ g6).2.2; omega) (rw_ g6).1 rfl rfl ?_
    refine pv_e_ifne (off := 9) (b := 27) (pc' := 21) (by decide +kernel) (by decide +kernel) rfl (fun c7 => ?_) (fun c7 => ?_)
    · rw [if_pos c7] at h
      refine pv_e_bk (ps := [(21, .aload_n 0, 1), (22, .iconst 1, 1)]) (t' := (0, 0, 23, [some (.ref 0), some (.int x1)], [.int (1:Int32), .ref 0], pv_mm s T)) (by decide +kernel) rfl ?_
      obtain ⟨⟨q9, s10⟩, e8, h⟩ := Option.bind_eq_some_iff.mp h
      dsimp only at h
      refine pv_e_cvi (d := d + 0) (i := 63) (z := 104) (np := 1) (ml := 2) (ci := 5) (As := [.int (1:Int32)]) (rs := []) (pc' := 26) (by decide +kernel) rfl rfl rfl rfl (Nat.le_of_ble_eq_true rfl) (Nat.le_of_ble_eq_true rfl) rfl (ee104 (d + 0) (1:Int32) e8) ?_
      obtain rfl := Option.some.inj h
      cases hr
      exact pv_e_ri (by decide +kernel)
    · rw [if_neg c7] at h
      refine pv_e_bk (ps := [(27, .aload_n 0, 1)]) (t' := (0, 0, 28, [some (.ref 0), some (.int x1)], [.ref 0], pv_mm s T)) (by decide +kernel) rfl ?_
      refine pv_e_gr (i := 11) (ci := 5) (j := 0) (b := 1) (pc' := 31) (by decide +kernel) rfl rfl rfl ?_
      refine pv_e_bk (ps := [(31, .iload_n 1, 1)]) (t' := (0, 0, 32, [some (.ref 0), some (.int x1)], [.int x1, .ref 1], pv_mm s T)) (by decide +kernel) rfl ?_
      obtain ⟨o11, e12, h⟩ := Option.bind_eq_some_iff.mp h
      have g13 := ra_rows e12
      refine pv_e_ra (zz := 6) (pc' := 33) (by decide +kernel) rfl (by decide) e12 rfl ?_
      refine pv_e_gc (i := 92) (ci := 2) (j := 2) (pc' := 36) (by decide +kernel) (by have := (rw_ g13).2.2; omega) (rw_ g13).1 rfl rfl ?_
      refine pv_e_bk (ps := [(36, .iconst 1, 1)]) (t' := (0, 0, 37, [some (.ref 0), some (.int x1)], [.int (1:Int32), .int (s o11 2)], pv_mm s T)) (by decide +kernel) rfl ?_
      refine pv_e_icmpge (off := 9) (b := 46) (pc' := 40) (by decide +kernel) (by decide +kernel) rfl (fun c14 => ?_) (fun c14 => ?_)
      · rw [if_pos c14] at h
        refine pv_e_bk (ps := [(46, .aload_n 0, 1), (47, .aload_n 0, 1)]) (t' := (0, 0, 48, [some (.ref 0), some (.int x1)], [.ref 0, .ref 0], pv_mm s T)) (by decide +kernel) rfl ?_
        refine pv_e_gr (i := 11) (ci := 5) (j := 0) (b := 1) (pc' := 51) (by decide +kernel) rfl rfl rfl ?_
        refine pv_e_bk (ps := [(51, .iload_n 1, 1)]) (t' := (0, 0, 52, [some (.ref 0), some (.int x1)], [.int x1, .ref 1, .ref 0], pv_mm s T)) (by decide +kernel) rfl ?_
        obtain ⟨o15, e16, h⟩ := Option.bind_eq_some_iff.mp h
        have g17 := ra_rows e16
        refine pv_e_ra (zz := 6) (pc' := 53) (by decide +kernel) rfl (by decide) e16 rfl ?_
        obtain ⟨q19, e18, h⟩ := Option.bind_eq_some_iff.mp h
        refine pv_e_cvl (d := d + 0) (i := 95) (z := 29) (np := 0) (ml := 4) (ci := 2) (As := []) (rs := [.ref 0]) (pc' := 56) (by decide +kernel) (rw_ g17).1 rfl rfl rfl (Nat.le_of_ble_eq_true rfl) (Nat.le_of_ble_eq_true rfl) rfl (ee29 (d + 0) o15 g17 e18) ?_
        refine pv_e_bk (ps := [(56, .aload_n 0, 1)]) (t' := (0, 0, 57, [some (.ref 0), some (.int x1)], [.ref 0, .long q19, .ref 0], pv_mm s T)) (by decide +kernel) rfl ?_
        refine pv_e_gr (i := 11) (ci := 5) (j := 0) (b := 1) (pc' := 60) (by decide +kernel) rfl rfl rfl ?_
        refine pv_e_bk (ps := [(60, .iload_n 1, 1)]) (t' := (0, 0, 61, [some (.ref 0), some (.int x1)], [.int x1, .ref 1, .long q19, .ref 0], pv_mm s T)) (by decide +kernel) rfl ?_
        obtain ⟨o20, e21, h⟩ := Option.bind_eq_some_iff.mp h
        have g22 := ra_rows e21
        refine pv_e_ra (zz := 6) (pc' := 62) (by decide +kernel) rfl (by decide) e21 rfl ?_
        refine pv_e_gc (i := 92) (ci := 2) (j := 2) (pc' := 65) (by decide +kernel) (by have := (rw_ g22).2.2; omega) (rw_ g22).1 rfl rfl ?_
        refine pv_e_bk (ps := [(65, .i2l, 1)]) (t' := (0, 0, 66, [some (.ref 0), some (.int x1)], [.long ((s o20 2).toInt64), .long q19, .ref 0], pv_mm s T)) (by decide +kernel) rfl ?_
        obtain ⟨q23, e24, h⟩ := Option.bind_eq_some_iff.mp h
        refine pv_e_ldv (pc' := 67) (by decide +kernel) e24 rfl ?_
        refine pv_e_bk (ps := [(67, .l2i, 1)]) (t' := (0, 0, 68, [some (.ref 0), some (.int x1)], [.int q23.toInt32, .ref 0], pv_mm s T)) (by decide +kernel) rfl ?_
        obtain ⟨s25, e26, h⟩ := Option.bind_eq_some_iff.mp h
        refine pv_e_pcs (i := 50) (ci := 5) (j := 8) (pc' := 71) (by decide +kernel) rfl rfl (by decide) rfl rfl e26 rfl ?_
        refine pv_e_bk (ps := [(71, .iconst 1, 1)]) (t' := (0, 0, 72, [some (.ref 0), some (.int x1)], [.int (1:Int32)], pv_mm s25 T)) (by decide +kernel) rfl ?_
        obtain rfl := Option.some.inj h
        cases hr
        exact pv_e_ri (by decide +kernel)
      · rw [if_neg c14] at h
        refine pv_e_bk (ps := [(40, .aload_n 0, 1), (41, .iconst 4, 1)]) (t' := (0, 0, 42, [some (.ref 0), some (.int x1)], [.int (4:Int32), .ref 0], pv_mm s T)) (by decide +kernel) rfl ?_
        obtain ⟨⟨q28, s29⟩, e27, h⟩ := Option.bind_eq_some_iff.mp h
        dsimp only at h
        refine pv_e_cvi (d := d + 0) (i := 63) (z := 104) (np := 1) (ml := 2) (ci := 5) (As := [.int (4:Int32)]) (rs := []) (pc' := 45) (by decide +kernel) rfl rfl rfl rfl (Nat.le_of_ble_eq_true rfl) (Nat.le_of_ble_eq_true rfl) rfl (ee104 (d + 0) (4:Int32) e27) ?_
        obtain rfl := Option.some.inj h
        cases hr
        exact pv_e_ri (by decide +kernel)
def f100_isText (x0 : Int32) : Option (Int32) :=
  ((
    if x0 < 0 then
      some (0:Int32)
    else
      if (4:Int32) ≤ x0 then
        some (0:Int32)
      else
        some (1:Int32)) : Option (Int32)).bind fun t1 =>
  (pv_bl t1).bind fun q2 => some q2
theorem ee100 {xs : Nat → Int32} {L : Nat} (d : Nat) (x0 : Int32) {M : pv_M} {q : Int32}  (h : f100_isText x0 = some q) : pv_Ev xs L (d + 0) 100 (0, 0, 0, [some (.int x0)], [], M) (some (.int q), M) := by
  generalize hr : ((some (.int q), M) : Option Value × pv_M) = r
  unfold f100_isText at h
  refine pv_e_bk (ps := [(0, .iload_n 0, 1)]) (t' := (0, 0, 1, [some (.int x0)], [.int x0], M)) (by decide +kernel) rfl ?_
  obtain ⟨t1, hv4, h⟩ := Option.bind_eq_some_iff.mp h
  have hJ5 : pv_Ev xs L (d + 0) 100 (0, 0, 14, [some (.int x0)], [.int t1], M) r := by
    obtain ⟨q2, e3, h⟩ := Option.bind_eq_some_iff.mp h
    obtain rfl := Option.some.inj h
    cases hr
    exact pv_e_rz (by decide +kernel) e3
  clear h
  have h := hv4
  clear hv4
  refine pv_e_iflt (off := 12) (b := 13) (pc' := 4) (by decide +kernel) (by decide +kernel) rfl (fun c6 => ?_) (fun c6 => ?_)
  · rw [if_pos c6] at h
    refine pv_e_bk (ps := [(13, .iconst 0, 1)]) (t' := (0, 0, 14, [some (.int x0)], [.int (0:Int32)], M)) (by decide +kernel) rfl ?_
    obtain rfl := Option.some.inj h
    exact hJ5
  · rw [if_neg c6] at h
    refine pv_e_bk (ps := [(4, .iload_n 0, 1), (5, .iconst 4, 1)]) (t' := (0, 0, 6, [some (.int x0)], [.int (4:Int32), .int x0], M)) (by decide +kernel) rfl ?_
    refine pv_e_icmpge (off := 7) (b := 13) (pc' := 9) (by decide +kernel) (by decide +kernel) rfl (fun c7 => ?_) (fun c7 => ?_)
    · rw [if_pos c7] at h
      refine pv_e_bk (ps := [(13, .iconst 0, 1)]) (t' := (0, 0, 14, [some (.int x0)], [.int (0:Int32)], M)) (by decide +kernel) rfl ?_
      obtain rfl := Option.some.inj h
      exact hJ5
    · rw [if_neg c7] at h
      refine pv_e_bk (ps := [(9, .iconst 1, 1), (10, .goto 4, 3)]) (t' := (0, 0, 14, [some (.int x0)], [.int (1:Int32)], M)) (by decide +kernel) rfl ?_
      obtain rfl := Option.some.inj h
      exact hJ5
def f60_text (x1 : Int32) (x2 : Int32) (s : pv_F) : Option (Int32 × pv_F) :=
  (f100_isText x1).bind fun q2 =>
  if q2 = 0 then
    some ((-1:Int32), s)
  else
    if x2 ≤ (80:Int32) then
      if 0 ≤ x2 then
        (pv_ra 2 4 x1).bind fun o6 =>
        (f26_renew o6 x2 (32:Int32) s).bind fun s10 =>
        some (x2, s10)
      else
        (f104_find (5:Int32) s).bind fun (q12, s13) =>
        some (q12, s13)
    else
      some ((-1:Int32), s)
theorem ee60 {xs : Nat → Int32} {L : Nat} (d : Nat) (x1 : Int32) (x2 : Int32) {s : pv_F} {T : pv_T} {q : Int32 × pv_F}  (h : f60_text x1 x2 s = some q) : pv_Ev xs L (d + 1) 60 (0, 0, 0, [some (.ref 0), some (.int x1), some (.int x2)], [], pv_mm s T) (some (.int q.1), pv_mm q.2 T) := by
  generalize hr : ((some (.int q.1), pv_mm q.2 T) : Option Value × pv_M) = r
  unfold f60_text at h
  refine pv_e_bk (ps := [(0, .iload_n 1, 1)]) (t' := (0, 0, 1, [some (.ref 0), some (.int x1), some (.int x2)], [.int x1], pv_mm s T)) (by decide +kernel) rfl ?_
  obtain ⟨q2, e1, h⟩ := Option.bind_eq_some_iff.mp h
  refine pv_e_csi (d := d + 0) (i := 99) (z := 100) (np := 1) (ml := 1) (As := [.int x1]) (rs := []) (pc' := 4) (by decide +kernel) rfl rfl rfl (Nat.le_of_ble_eq_true rfl) (Nat.le_of_ble_eq_true rfl) rfl (ee100 (d + 0) x1 e1) ?_
  refine pv_e_ifeq (off := 9) (b := 13) (pc' := 7) (by decide +kernel) (by decide +kernel) rfl (fun c3 => ?_) (fun c3 => ?_)
  · rw [if_pos c3] at h
    refine pv_e_bk (ps := [(13, .iconst (-1), 1)]) (t' := (0, 0, 14, [some (.ref 0), some (.int x1), some (.int x2)], [.int (-1:Int32)], pv_mm s T)) (by decide +kernel) rfl ?_
    obtain rfl := Option.some.inj h
    cases hr
    exact pv_e_ri (by decide +kernel)
  · rw [if_neg c3] at h
    refine pv_e_bk (ps := [(7, .iload_n 2, 1), (8, .bipush 80, 2)]) (t' := (0, 0, 10, [some (.ref 0), some (.int x1), some (.int x2)], [.int (80:Int32), .int x2], pv_mm s T)) (by decide +kernel) rfl ?_
    refine pv_e_icmple (off := 5) (b := 15) (pc' := 13) (by decide +kernel) (by decide +kernel) rfl (fun c4 => ?_) (fun c4 => ?_)
    · rw [if_pos c4] at h
      refine pv_e_bk (ps := [(15, .iload_n 2, 1)]) (t' := (0, 0, 16, [some (.ref 0), some (.int x1), some (.int x2)], [.int x2], pv_mm s T)) (by decide +kernel) rfl ?_
      refine pv_e_ifge (off := 9) (b := 25) (pc' := 19) (by decide +kernel) (by decide +kernel) rfl (fun c5 => ?_) (fun c5 => ?_)
      · rw [if_pos c5] at h
        refine pv_e_bk (ps := [(25, .aload_n 0, 1)]) (t' := (0, 0, 26, [some (.ref 0), some (.int x1), some (.int x2)], [.ref 0], pv_mm s T)) (by decide +kernel) rfl ?_
        refine pv_e_gr (i := 15) (ci := 5) (j := 1) (b := 2) (pc' := 29) (by decide +kernel) rfl rfl rfl ?_
        refine pv_e_bk (ps := [(29, .iload_n 1, 1)]) (t' := (0, 0, 30, [some (.ref 0), some (.int x1), some (.int x2)], [.int x1, .ref 2], pv_mm s T)) (by decide +kernel) rfl ?_
        obtain ⟨o6, e7, h⟩ := Option.bind_eq_some_iff.mp h
        have g8 := ra_texts e7
        refine pv_e_ra (zz := 4) (pc' := 31) (by decide +kernel) rfl (by decide) e7 rfl ?_
        refine pv_e_bk (ps := [(31, .iload_n 2, 1), (32, .bipush 32, 2)]) (t' := (0, 0, 34, [some (.ref 0), some (.int x1), some (.int x2)], [.int (32:Int32), .int x2, .ref o6], pv_mm s T)) (by decide +kernel) rfl ?_
        obtain ⟨s10, e9, h⟩ := Option.bind_eq_some_iff.mp h
        refine pv_e_cvv (d := d + 0) (i := 67) (z := 26) (np := 2) (ml := 4) (ci := 2) (As := [.int x2, .int (32:Int32)]) (rs := []) (pc' := 37) (by decide +kernel) (rw_ g8).1 rfl rfl rfl (Nat.le_of_ble_eq_true rfl) (Nat.le_of_ble_eq_true rfl) rfl (ee26 (d + 0) o6 x2 (32:Int32) g8 e9) ?_
        refine pv_e_bk (ps := [(37, .iload_n 2, 1)]) (t' := (0, 0, 38, [some (.ref 0), some (.int x1), some (.int x2)], [.int x2], pv_mm s10 T)) (by decide +kernel) rfl ?_
        obtain rfl := Option.some.inj h
        cases hr
        exact pv_e_ri (by decide +kernel)
      · rw [if_neg c5] at h
        refine pv_e_bk (ps := [(19, .aload_n 0, 1), (20, .iconst 5, 1)]) (t' := (0, 0, 21, [some (.ref 0), some (.int x1), some (.int x2)], [.int (5:Int32), .ref 0], pv_mm s T)) (by decide +kernel) rfl ?_
        obtain ⟨⟨q12, s13⟩, e11, h⟩ := Option.bind_eq_some_iff.mp h
        dsimp only at h
        refine pv_e_cvi (d := d + 0) (i := 63) (z := 104) (np := 1) (ml := 2) (ci := 5) (As := [.int (5:Int32)]) (rs := []) (pc' := 24) (by decide +kernel) rfl rfl rfl rfl (Nat.le_of_ble_eq_true rfl) (Nat.le_of_ble_eq_true rfl) rfl (ee104 (d + 0) (5:Int32) e11) ?_
        obtain rfl := Option.some.inj h
        cases hr
        exact pv_e_ri (by decide +kernel)
    · rw [if_neg c4] at h
      refine pv_e_bk (ps := [(13, .iconst (-1), 1)]) (t' := (0, 0, 14, [some (.ref 0), some (.int x1), some (.int x2)], [.int (-1:Int32)], pv_mm s T)) (by decide +kernel) rfl ?_
      obtain rfl := Option.some.inj h
      cases hr
      exact pv_e_ri (by decide +kernel)
def f61_put (x1 : Int32) (x2 : Int32) (x3 : Int32) (s : pv_F) : Option (Int32 × pv_F) :=
  (f100_isText x1).bind fun q2 =>
  if q2 = 0 then
    some ((-1:Int32), s)
  else
    (pv_ra 2 4 x1).bind fun o4 =>
    (f105_placeFinding o4 x2 s).bind fun q8 =>
    if q8 = 0 then
      (pv_ra 2 4 x1).bind fun o10 =>
      (pv_rd s (o10 + 1) (pv_an (o10 + 1)) x2).bind fun q13 =>
      (pv_ra 2 4 x1).bind fun o15 =>
      (pv_wr s (o15 + 1) (pv_an (o15 + 1)) x2 x3.toInt8.toInt32).bind fun s18 =>
      some ((1000:Int32) + q13, s18)
    else
      (f104_find q8 s).bind fun (q21, s22) =>
      some (q21, s22)
theorem ee61 {xs : Nat → Int32} {L : Nat} (d : Nat) (x1 : Int32) (x2 : Int32) (x3 : Int32) {s : pv_F} {T : pv_T} {q : Int32 × pv_F}  (h : f61_put x1 x2 x3 s = some q) : pv_Ev xs L (d + 2) 61 (0, 0, 0, [some (.ref 0), some (.int x1), some (.int x2), some (.int x3), none, none], [], pv_mm s T) (some (.int q.1), pv_mm q.2 T) := by
  generalize hr : ((some (.int q.1), pv_mm q.2 T) : Option Value × pv_M) = r
  unfold f61_put at h
  refine pv_e_bk (ps := [(0, .iload_n 1, 1)]) (t' := (0, 0, 1, [some (.ref 0), some (.int x1), some (.int x2), some (.int x3), none, none], [.int x1], pv_mm s T)) (by decide +kernel) rfl ?_
  obtain ⟨q2, e1, h⟩ := Option.bind_eq_some_iff.mp h
  refine pv_e_csi (d := d + 1) (i := 99) (z := 100) (np := 1) (ml := 1) (As := [.int x1]) (rs := []) (pc' := 4) (by decide +kernel) rfl rfl rfl (Nat.le_of_ble_eq_true rfl) (Nat.le_of_ble_eq_true rfl) rfl (ee100 (d + 1) x1 e1) ?_
  refine pv_e_ifne (off := 5) (b := 9) (pc' := 7) (by decide +kernel) (by decide +kernel) rfl (fun c3 => ?_) (fun c3 => ?_)
  · rw [if_pos c3] at h
    refine pv_e_bk (ps := [(7, .iconst (-1), 1)]) (t' := (0, 0, 8, [some (.ref 0), some (.int x1), some (.int x2), some (.int x3), none, none], [.int (-1:Int32)], pv_mm s T)) (by decide +kernel) rfl ?_
    obtain rfl := Option.some.inj h
    cases hr
    exact pv_e_ri (by decide +kernel)
  · rw [if_neg c3] at h
    refine pv_e_bk (ps := [(9, .aload_n 0, 1)]) (t' := (0, 0, 10, [some (.ref 0), some (.int x1), some (.int x2), some (.int x3), none, none], [.ref 0], pv_mm s T)) (by decide +kernel) rfl ?_
    refine pv_e_gr (i := 15) (ci := 5) (j := 1) (b := 2) (pc' := 13) (by decide +kernel) rfl rfl rfl ?_
    refine pv_e_bk (ps := [(13, .iload_n 1, 1)]) (t' := (0, 0, 14, [some (.ref 0), some (.int x1), some (.int x2), some (.int x3), none, none], [.int x1, .ref 2], pv_mm s T)) (by decide +kernel) rfl ?_
    obtain ⟨o4, e5, h⟩ := Option.bind_eq_some_iff.mp h
    have g6 := ra_texts e5
    refine pv_e_ra (zz := 4) (pc' := 15) (by decide +kernel) rfl (by decide) e5 rfl ?_
    refine pv_e_bk (ps := [(15, .iload_n 2, 1)]) (t' := (0, 0, 16, [some (.ref 0), some (.int x1), some (.int x2), some (.int x3), none, none], [.int x2, .ref o4], pv_mm s T)) (by decide +kernel) rfl ?_
    obtain ⟨q8, e7, h⟩ := Option.bind_eq_some_iff.mp h
    refine pv_e_csi (d := d + 1) (i := 71) (z := 105) (np := 2) (ml := 2) (As := [.ref o4, .int x2]) (rs := []) (pc' := 19) (by decide +kernel) rfl rfl rfl (Nat.le_of_ble_eq_true rfl) (Nat.le_of_ble_eq_true rfl) rfl (ee105 (d + 0) o4 x2 g6 e7) ?_
    refine pv_e_bk (ps := [(19, .istore 4, 2), (21, .iload 4, 2)]) (t' := (0, 0, 23, [some (.ref 0), some (.int x1), some (.int x2), some (.int x3), some (.int q8), none], [.int q8], pv_mm s T)) (by decide +kernel) rfl ?_
    refine pv_e_ifeq (off := 10) (b := 33) (pc' := 26) (by decide +kernel) (by decide +kernel) rfl (fun c9 => ?_) (fun c9 => ?_)
    · rw [if_pos c9] at h
      refine pv_e_bk (ps := [(33, .aload_n 0, 1)]) (t' := (0, 0, 34, [some (.ref 0), some (.int x1), some (.int x2), some (.int x3), some (.int q8), none], [.ref 0], pv_mm s T)) (by decide +kernel) rfl ?_
      refine pv_e_gr (i := 15) (ci := 5) (j := 1) (b := 2) (pc' := 37) (by decide +kernel) rfl rfl rfl ?_
      refine pv_e_bk (ps := [(37, .iload_n 1, 1)]) (t' := (0, 0, 38, [some (.ref 0), some (.int x1), some (.int x2), some (.int x3), some (.int q8), none], [.int x1, .ref 2], pv_mm s T)) (by decide +kernel) rfl ?_
      obtain ⟨o10, e11, h⟩ := Option.bind_eq_some_iff.mp h
      have g12 := ra_texts e11
      refine pv_e_ra (zz := 4) (pc' := 39) (by decide +kernel) rfl (by decide) e11 rfl ?_
      refine pv_e_gr (i := 75) (ci := 2) (j := 0) (b := o10 + 1) (pc' := 42) (by decide +kernel) (rw_ g12).1 rfl rfl ?_
      refine pv_e_bk (ps := [(42, .iload_n 2, 1)]) (t' := (0, 0, 43, [some (.ref 0), some (.int x1), some (.int x2), some (.int x3), some (.int q8), none], [.int x2, .ref (o10 + 1)], pv_mm s T)) (by decide +kernel) rfl ?_
      obtain ⟨q13, e14, h⟩ := Option.bind_eq_some_iff.mp h
      refine pv_e_rc (pc' := 44) (by decide +kernel) (rw_ g12).2.2 (rw_ g12).2.1 e14 rfl ?_
      refine pv_e_bk (ps := [(44, .istore 5, 2), (46, .aload_n 0, 1)]) (t' := (0, 0, 47, [some (.ref 0), some (.int x1), some (.int x2), some (.int x3), some (.int q8), some (.int q13)], [.ref 0], pv_mm s T)) (by decide +kernel) rfl ?_
      refine pv_e_gr (i := 15) (ci := 5) (j := 1) (b := 2) (pc' := 50) (by decide +kernel) rfl rfl rfl ?_
      refine pv_e_bk (ps := [(50, .iload_n 1, 1)]) (t' := (0, 0, 51, [some (.ref 0), some (.int x1), some (.int x2), some (.int x3), some (.int q8), some (.int q13)], [.int x1, .ref 2], pv_mm s T)) (by decide +kernel) rfl ?_
      obtain ⟨o15, e16, h⟩ := Option.bind_eq_some_iff.mp h
      have g17 := ra_texts e16
      refine pv_e_ra (zz := 4) (pc' := 52) (by decide +kernel) rfl (by decide) e16 rfl ?_
      refine pv_e_gr (i := 75) (ci := 2) (j := 0) (b := o15 + 1) (pc' := 55) (by decide +kernel) (rw_ g17).1 rfl rfl ?_
      refine pv_e_bk (ps := [(55, .iload_n 2, 1), (56, .iload_n 3, 1), (57, .i2b, 1)]) (t' := (0, 0, 58, [some (.ref 0), some (.int x1), some (.int x2), some (.int x3), some (.int q8), some (.int q13)], [.int x3.toInt8.toInt32, .int x2, .ref (o15 + 1)], pv_mm s T)) (by decide +kernel) rfl ?_
      obtain ⟨s18, e19, h⟩ := Option.bind_eq_some_iff.mp h
      refine pv_e_wc (pc' := 59) (by decide +kernel) (rw_ g17).2.2 (rw_ g17).2.1 e19 rfl ?_
      refine pv_e_bk (ps := [(59, .sipush 1000, 3), (62, .iload 5, 2), (64, .iadd, 1)]) (t' := (0, 0, 65, [some (.ref 0), some (.int x1), some (.int x2), some (.int x3), some (.int q8), some (.int q13)], [.int ((1000:Int32) + q13)], pv_mm s18 T)) (by decide +kernel) rfl ?_
      obtain rfl := Option.some.inj h
      cases hr
      exact pv_e_ri (by decide +kernel)
    · rw [if_neg c9] at h
      refine pv_e_bk (ps := [(26, .aload_n 0, 1), (27, .iload 4, 2)]) (t' := (0, 0, 29, [some (.ref 0), some (.int x1), some (.int x2), some (.int x3), some (.int q8), none], [.int q8, .ref 0], pv_mm s T)) (by decide +kernel) rfl ?_
      obtain ⟨⟨q21, s22⟩, e20, h⟩ := Option.bind_eq_some_iff.mp h
      dsimp only at h
      refine pv_e_cvi (d := d + 1) (i := 63) (z := 104) (np := 1) (ml := 2) (ci := 5) (As := [.int q8]) (rs := []) (pc' := 32) (by decide +kernel) rfl rfl rfl rfl (Nat.le_of_ble_eq_true rfl) (Nat.le_of_ble_eq_true rfl) rfl (ee104 (d + 1) q8 e20) ?_
      obtain rfl := Option.some.inj h
      cases hr
      exact pv_e_ri (by decide +kernel)
def f62_fault (x1 : Int32) (s : pv_F) : Option (Int32 × pv_F) :=
  (f100_isText x1).bind fun q2 =>
  if q2 = 0 then
    some ((-1:Int32), s)
  else
    (pv_ra 2 4 x1).bind fun o4 =>
    if (s o4 1) = 0 then
      (f104_find (1:Int32) s).bind fun (q9, s10) =>
      some (q9, s10)
    else
      (pv_ra 2 4 x1).bind fun o11 =>
      (f6_read 36 o11 s).bind fun (q15, s16) =>
      some (q15, s16)
theorem ee62 {xs : Nat → Int32} {L : Nat} (d : Nat) (x1 : Int32) {s : pv_F} {T : pv_T} {q : Int32 × pv_F}  (h : f62_fault x1 s = some q) : pv_Ev xs L (d + 3) 62 (0, 0, 0, [some (.ref 0), some (.int x1)], [], pv_mm s T) (some (.int q.1), pv_mm q.2 T) := by
  generalize hr : ((some (.int q.1), pv_mm q.2 T) : Option Value × pv_M) = r
  unfold f62_fault at h
  refine pv_e_bk (ps := [(0, .iload_n 1, 1)]) (t' := (0, 0, 1, [some (.ref 0), some (.int x1)], [.int x1], pv_mm s T)) (by decide +kernel) rfl ?_
  obtain ⟨q2, e1, h⟩ := Option.bind_eq_some_iff.mp h
  refine pv_e_csi (d := d + 2) (i := 99) (z := 100) (np := 1) (ml := 1) (As := [.int x1]) (rs := []) (pc' := 4) (by decide +kernel) rfl rfl rfl (Nat.le_of_ble_eq_true rfl) (Nat.le_of_ble_eq_true rfl) rfl (ee100 (d + 2) x1 e1) ?_
  refine pv_e_ifne (off := 5) (b := 9) (pc' := 7) (by decide +kernel) (by decide +kernel) rfl (fun c3 => ?_) (fun c3 => ?_)
  · rw [if_pos c3] at h
    refine pv_e_bk (ps := [(7, .iconst (-1), 1)]) (t' := (0, 0, 8, [some (.ref 0), some (.int x1)], [.int (-1:Int32)], pv_mm s T)) (by decide +kernel) rfl ?_
    obtain rfl := Option.some.inj h
    cases hr
    exact pv_e_ri (by decide +kernel)
  · rw [if_neg c3] at h
    refine pv_e_bk (ps := [(9, .aload_n 0, 1)]) (t' := (0, 0, 10, [some (.ref 0), some (.int x1)], [.ref 0], pv_mm s T)) (by decide +kernel) rfl ?_
    refine pv_e_gr (i := 15) (ci := 5) (j := 1) (b := 2) (pc' := 13) (by decide +kernel) rfl rfl rfl ?_
    refine pv_e_bk (ps := [(13, .iload_n 1, 1)]) (t' := (0, 0, 14, [some (.ref 0), some (.int x1)], [.int x1, .ref 2], pv_mm s T)) (by decide +kernel) rfl ?_
    obtain ⟨o4, e5, h⟩ := Option.bind_eq_some_iff.mp h
    have g6 := ra_texts e5
    refine pv_e_ra (zz := 4) (pc' := 15) (by decide +kernel) rfl (by decide) e5 rfl ?_
    refine pv_e_gc (i := 78) (ci := 2) (j := 1) (pc' := 18) (by decide +kernel) (by have := (rw_ g6).2.2; omega) (rw_ g6).1 rfl rfl ?_
    refine pv_e_ifne (off := 9) (b := 27) (pc' := 21) (by decide +kernel) (by decide +kernel) rfl (fun c7 => ?_) (fun c7 => ?_)
    · rw [if_pos c7] at h
      refine pv_e_bk (ps := [(21, .aload_n 0, 1), (22, .iconst 1, 1)]) (t' := (0, 0, 23, [some (.ref 0), some (.int x1)], [.int (1:Int32), .ref 0], pv_mm s T)) (by decide +kernel) rfl ?_
      obtain ⟨⟨q9, s10⟩, e8, h⟩ := Option.bind_eq_some_iff.mp h
      dsimp only at h
      refine pv_e_cvi (d := d + 2) (i := 63) (z := 104) (np := 1) (ml := 2) (ci := 5) (As := [.int (1:Int32)]) (rs := []) (pc' := 26) (by decide +kernel) rfl rfl rfl rfl (Nat.le_of_ble_eq_true rfl) (Nat.le_of_ble_eq_true rfl) rfl (ee104 (d + 2) (1:Int32) e8) ?_
      obtain rfl := Option.some.inj h
      cases hr
      exact pv_e_ri (by decide +kernel)
    · rw [if_neg c7] at h
      refine pv_e_bk (ps := [(27, .aload_n 0, 1)]) (t' := (0, 0, 28, [some (.ref 0), some (.int x1)], [.ref 0], pv_mm s T)) (by decide +kernel) rfl ?_
      refine pv_e_gr (i := 28) (ci := 5) (j := 3) (b := 36) (pc' := 31) (by decide +kernel) rfl rfl rfl ?_
      refine pv_e_bk (ps := [(31, .aload_n 0, 1)]) (t' := (0, 0, 32, [some (.ref 0), some (.int x1)], [.ref 0, .ref 36], pv_mm s T)) (by decide +kernel) rfl ?_
      refine pv_e_gr (i := 15) (ci := 5) (j := 1) (b := 2) (pc' := 35) (by decide +kernel) rfl rfl rfl ?_
      refine pv_e_bk (ps := [(35, .iload_n 1, 1)]) (t' := (0, 0, 36, [some (.ref 0), some (.int x1)], [.int x1, .ref 2, .ref 36], pv_mm s T)) (by decide +kernel) rfl ?_
      obtain ⟨o11, e12, h⟩ := Option.bind_eq_some_iff.mp h
      have g13 := ra_texts e12
      refine pv_e_ra (zz := 4) (pc' := 37) (by decide +kernel) rfl (by decide) e12 rfl ?_
      obtain ⟨⟨q15, s16⟩, e14, h⟩ := Option.bind_eq_some_iff.mp h
      dsimp only at h
      refine pv_e_cvi (d := d + 2) (i := 102) (z := 6) (np := 1) (ml := 6) (ci := 1) (As := [.ref o11]) (rs := []) (pc' := 40) (by decide +kernel) rfl rfl rfl rfl (Nat.le_of_ble_eq_true rfl) (Nat.le_of_ble_eq_true rfl) rfl (ee6 (d + 0) 36 o11 (by decide) g13 e14) ?_
      obtain rfl := Option.some.inj h
      cases hr
      exact pv_e_ri (by decide +kernel)
def f63_town (x1 : Int32) (s : pv_F) : Option (Int32 × pv_F) :=
  (f100_isText x1).bind fun q2 =>
  if q2 = 0 then
    some ((-1:Int32), s)
  else
    (pv_ra 2 4 x1).bind fun o4 =>
    if (s o4 1) = 0 then
      (f104_find (1:Int32) s).bind fun (q9, s10) =>
      some (q9, s10)
    else
      (pv_ra 2 4 x1).bind fun o11 =>
      (f6_read 36 o11 s).bind fun (q15, s16) =>
      if q15 = (-9:Int32) then
        (f42_found 36 s16).bind fun s19 =>
        some (s19 8 3, s19)
      else
        some ((-4:Int32), s16)
theorem ee63 {xs : Nat → Int32} {L : Nat} (d : Nat) (x1 : Int32) {s : pv_F} {T : pv_T} {q : Int32 × pv_F}  (h : f63_town x1 s = some q) : pv_Ev xs L (d + 4) 63 (0, 0, 0, [some (.ref 0), some (.int x1)], [], pv_mm s T) (some (.int q.1), pv_mm q.2 T) := by
  generalize hr : ((some (.int q.1), pv_mm q.2 T) : Option Value × pv_M) = r
  unfold f63_town at h
  refine pv_e_bk (ps := [(0, .iload_n 1, 1)]) (t' := (0, 0, 1, [some (.ref 0), some (.int x1)], [.int x1], pv_mm s T)) (by decide +kernel) rfl ?_
  obtain ⟨q2, e1, h⟩ := Option.bind_eq_some_iff.mp h
  refine pv_e_csi (d := d + 3) (i := 99) (z := 100) (np := 1) (ml := 1) (As := [.int x1]) (rs := []) (pc' := 4) (by decide +kernel) rfl rfl rfl (Nat.le_of_ble_eq_true rfl) (Nat.le_of_ble_eq_true rfl) rfl (ee100 (d + 3) x1 e1) ?_
  refine pv_e_ifne (off := 5) (b := 9) (pc' := 7) (by decide +kernel) (by decide +kernel) rfl (fun c3 => ?_) (fun c3 => ?_)
  · rw [if_pos c3] at h
    refine pv_e_bk (ps := [(7, .iconst (-1), 1)]) (t' := (0, 0, 8, [some (.ref 0), some (.int x1)], [.int (-1:Int32)], pv_mm s T)) (by decide +kernel) rfl ?_
    obtain rfl := Option.some.inj h
    cases hr
    exact pv_e_ri (by decide +kernel)
  · rw [if_neg c3] at h
    refine pv_e_bk (ps := [(9, .aload_n 0, 1)]) (t' := (0, 0, 10, [some (.ref 0), some (.int x1)], [.ref 0], pv_mm s T)) (by decide +kernel) rfl ?_
    refine pv_e_gr (i := 15) (ci := 5) (j := 1) (b := 2) (pc' := 13) (by decide +kernel) rfl rfl rfl ?_
    refine pv_e_bk (ps := [(13, .iload_n 1, 1)]) (t' := (0, 0, 14, [some (.ref 0), some (.int x1)], [.int x1, .ref 2], pv_mm s T)) (by decide +kernel) rfl ?_
    obtain ⟨o4, e5, h⟩ := Option.bind_eq_some_iff.mp h
    have g6 := ra_texts e5
    refine pv_e_ra (zz := 4) (pc' := 15) (by decide +kernel) rfl (by decide) e5 rfl ?_
    refine pv_e_gc (i := 78) (ci := 2) (j := 1) (pc' := 18) (by decide +kernel) (by have := (rw_ g6).2.2; omega) (rw_ g6).1 rfl rfl ?_
    refine pv_e_ifne (off := 9) (b := 27) (pc' := 21) (by decide +kernel) (by decide +kernel) rfl (fun c7 => ?_) (fun c7 => ?_)
    · rw [if_pos c7] at h
      refine pv_e_bk (ps := [(21, .aload_n 0, 1), (22, .iconst 1, 1)]) (t' := (0, 0, 23, [some (.ref 0), some (.int x1)], [.int (1:Int32), .ref 0], pv_mm s T)) (by decide +kernel) rfl ?_
      obtain ⟨⟨q9, s10⟩, e8, h⟩ := Option.bind_eq_some_iff.mp h
      dsimp only at h
      refine pv_e_cvi (d := d + 3) (i := 63) (z := 104) (np := 1) (ml := 2) (ci := 5) (As := [.int (1:Int32)]) (rs := []) (pc' := 26) (by decide +kernel) rfl rfl rfl rfl (Nat.le_of_ble_eq_true rfl) (Nat.le_of_ble_eq_true rfl) rfl (ee104 (d + 3) (1:Int32) e8) ?_
      obtain rfl := Option.some.inj h
      cases hr
      exact pv_e_ri (by decide +kernel)
    · rw [if_neg c7] at h
      refine pv_e_bk (ps := [(27, .aload_n 0, 1)]) (t' := (0, 0, 28, [some (.ref 0), some (.int x1)], [.ref 0], pv_mm s T)) (by decide +kernel) rfl ?_
      refine pv_e_gr (i := 28) (ci := 5) (j := 3) (b := 36) (pc' := 31) (by decide +kernel) rfl rfl rfl ?_
      refine pv_e_bk (ps := [(31, .aload_n 0, 1)]) (t' := (0, 0, 32, [some (.ref 0), some (.int x1)], [.ref 0, .ref 36], pv_mm s T)) (by decide +kernel) rfl ?_
      refine pv_e_gr (i := 15) (ci := 5) (j := 1) (b := 2) (pc' := 35) (by decide +kernel) rfl rfl rfl ?_
      refine pv_e_bk (ps := [(35, .iload_n 1, 1)]) (t' := (0, 0, 36, [some (.ref 0), some (.int x1)], [.int x1, .ref 2, .ref 36], pv_mm s T)) (by decide +kernel) rfl ?_
      obtain ⟨o11, e12, h⟩ := Option.bind_eq_some_iff.mp h
      have g13 := ra_texts e12
      refine pv_e_ra (zz := 4) (pc' := 37) (by decide +kernel) rfl (by decide) e12 rfl ?_
      obtain ⟨⟨q15, s16⟩, e14, h⟩ := Option.bind_eq_some_iff.mp h
      dsimp only at h
      refine pv_e_cvi (d := d + 3) (i := 102) (z := 6) (np := 1) (ml := 6) (ci := 1) (As := [.ref o11]) (rs := []) (pc' := 40) (by decide +kernel) rfl rfl rfl rfl (Nat.le_of_ble_eq_true rfl) (Nat.le_of_ble_eq_true rfl) rfl (ee6 (d + 1) 36 o11 (by decide) g13 e14) ?_
      refine pv_e_bk (ps := [(40, .bipush (-9), 2)]) (t' := (0, 0, 42, [some (.ref 0), some (.int x1)], [.int (-9:Int32), .int q15], pv_mm s16 T)) (by decide +kernel) rfl ?_
      refine pv_e_icmpeq (off := 6) (b := 48) (pc' := 45) (by decide +kernel) (by decide +kernel) rfl (fun c17 => ?_) (fun c17 => ?_)
      · rw [if_pos c17] at h
        refine pv_e_bk (ps := [(48, .aload_n 0, 1)]) (t' := (0, 0, 49, [some (.ref 0), some (.int x1)], [.ref 0], pv_mm s16 T)) (by decide +kernel) rfl ?_
        refine pv_e_gr (i := 21) (ci := 5) (j := 2) (b := 3) (pc' := 52) (by decide +kernel) rfl rfl rfl ?_
        refine pv_e_bk (ps := [(52, .aload_n 0, 1)]) (t' := (0, 0, 53, [some (.ref 0), some (.int x1)], [.ref 0, .ref 3], pv_mm s16 T)) (by decide +kernel) rfl ?_
        refine pv_e_gr (i := 28) (ci := 5) (j := 3) (b := 36) (pc' := 56) (by decide +kernel) rfl rfl rfl ?_
        obtain ⟨s19, e18, h⟩ := Option.bind_eq_some_iff.mp h
        refine pv_e_cvv (d := d + 3) (i := 106) (z := 42) (np := 1) (ml := 3) (ci := 4) (As := [.ref 36]) (rs := []) (pc' := 59) (by decide +kernel) rfl rfl rfl rfl (Nat.le_of_ble_eq_true rfl) (Nat.le_of_ble_eq_true rfl) rfl (ee42 (d + 0) 36 (by decide) e18) ?_
        refine pv_e_bk (ps := [(59, .aload_n 0, 1)]) (t' := (0, 0, 60, [some (.ref 0), some (.int x1)], [.ref 0], pv_mm s19 T)) (by decide +kernel) rfl ?_
        refine pv_e_gr (i := 21) (ci := 5) (j := 2) (b := 3) (pc' := 63) (by decide +kernel) rfl rfl rfl ?_
        refine pv_e_gr (i := 109) (ci := 4) (j := 1) (b := 8) (pc' := 66) (by decide +kernel) rfl rfl rfl ?_
        refine pv_e_gc (i := 112) (ci := 1) (j := 3) (pc' := 69) (by decide +kernel) (by decide) rfl rfl rfl ?_
        obtain rfl := Option.some.inj h
        cases hr
        exact pv_e_ri (by decide +kernel)
      · rw [if_neg c17] at h
        refine pv_e_bk (ps := [(45, .bipush (-4), 2)]) (t' := (0, 0, 47, [some (.ref 0), some (.int x1)], [.int (-4:Int32)], pv_mm s16 T)) (by decide +kernel) rfl ?_
        obtain rfl := Option.some.inj h
        cases hr
        exact pv_e_ri (by decide +kernel)
def f102_isPerson (x1 : Int32) (s : pv_F) : Option (Int32) :=
  ((
    if x1 < 0 then
      some (0:Int32)
    else
      if (s 8 3) ≤ x1 then
        some (0:Int32)
      else
        some (1:Int32)) : Option (Int32)).bind fun t1 =>
  (pv_bl t1).bind fun q2 => some q2
theorem ee102 {xs : Nat → Int32} {L : Nat} (d : Nat) (x1 : Int32) {s : pv_F} {T : pv_T} {q : Int32}  (h : f102_isPerson x1 s = some q) : pv_Ev xs L (d + 0) 102 (0, 0, 0, [some (.ref 0), some (.int x1)], [], pv_mm s T) (some (.int q), pv_mm s T) := by
  generalize hr : ((some (.int q), pv_mm s T) : Option Value × pv_M) = r
  unfold f102_isPerson at h
  refine pv_e_bk (ps := [(0, .iload_n 1, 1)]) (t' := (0, 0, 1, [some (.ref 0), some (.int x1)], [.int x1], pv_mm s T)) (by decide +kernel) rfl ?_
  obtain ⟨t1, hv4, h⟩ := Option.bind_eq_some_iff.mp h
  have hJ5 : pv_Ev xs L (d + 0) 102 (0, 0, 23, [some (.ref 0), some (.int x1)], [.int t1], pv_mm s T) r := by
    obtain ⟨q2, e3, h⟩ := Option.bind_eq_some_iff.mp h
    obtain rfl := Option.some.inj h
    cases hr
    exact pv_e_rz (by decide +kernel) e3
  clear h
  have h := hv4
  clear hv4
  refine pv_e_iflt (off := 21) (b := 22) (pc' := 4) (by decide +kernel) (by decide +kernel) rfl (fun c6 => ?_) (fun c6 => ?_)
  · rw [if_pos c6] at h
    refine pv_e_bk (ps := [(22, .iconst 0, 1)]) (t' := (0, 0, 23, [some (.ref 0), some (.int x1)], [.int (0:Int32)], pv_mm s T)) (by decide +kernel) rfl ?_
    obtain rfl := Option.some.inj h
    exact hJ5
  · rw [if_neg c6] at h
    refine pv_e_bk (ps := [(4, .iload_n 1, 1), (5, .aload_n 0, 1)]) (t' := (0, 0, 6, [some (.ref 0), some (.int x1)], [.ref 0, .int x1], pv_mm s T)) (by decide +kernel) rfl ?_
    refine pv_e_gr (i := 21) (ci := 5) (j := 2) (b := 3) (pc' := 9) (by decide +kernel) rfl rfl rfl ?_
    refine pv_e_gr (i := 109) (ci := 4) (j := 1) (b := 8) (pc' := 12) (by decide +kernel) rfl rfl rfl ?_
    refine pv_e_gc (i := 112) (ci := 1) (j := 3) (pc' := 15) (by decide +kernel) (by decide) rfl rfl rfl ?_
    refine pv_e_icmpge (off := 7) (b := 22) (pc' := 18) (by decide +kernel) (by decide +kernel) rfl (fun c7 => ?_) (fun c7 => ?_)
    · rw [if_pos c7] at h
      refine pv_e_bk (ps := [(22, .iconst 0, 1)]) (t' := (0, 0, 23, [some (.ref 0), some (.int x1)], [.int (0:Int32)], pv_mm s T)) (by decide +kernel) rfl ?_
      obtain rfl := Option.some.inj h
      exact hJ5
    · rw [if_neg c7] at h
      refine pv_e_bk (ps := [(18, .iconst 1, 1), (19, .goto 4, 3)]) (t' := (0, 0, 23, [some (.ref 0), some (.int x1)], [.int (1:Int32)], pv_mm s T)) (by decide +kernel) rfl ?_
      obtain rfl := Option.some.inj h
      exact hJ5
