-- printed by wip/whole/gen/parts.py: methods as functions over the ints of the memory, and that the pure machine runs so
def f74_keep (x1 : Int32) (s : pv_F) : Option (Int32 × pv_F) :=
  (f101_isKeepingPlace x1).bind fun q2 =>
  if q2 = 0 then
    some ((-1:Int32), s)
  else
    if (s 8 3) = 0 then
      some ((-4:Int32), s)
    else
      (pv_ra 20 3 x1).bind fun o5 =>
      (f3_take o5 15 s).bind fun s9 =>
      (pv_ra 20 3 x1).bind fun o10 =>
      (pv_pf s9 o10 5 (1:Int32)).bind fun s13 =>
      some (s13 15 4, s13)
theorem ee74 {xs : Nat → Int32} {L : Nat} (d : Nat) (x1 : Int32) {s : pv_F} {T : pv_T} {q : Int32 × pv_F}  (h : f74_keep x1 s = some q) : pv_Ev xs L (d + 2) 74 (0, 0, 0, [some (.ref 0), some (.int x1)], [], pv_mm s T) (some (.int q.1), pv_mm q.2 T) := by
  generalize hr : ((some (.int q.1), pv_mm q.2 T) : Option Value × pv_M) = r
  unfold f74_keep at h
  refine pv_e_bk (ps := [(0, .iload_n 1, 1)]) (t' := (0, 0, 1, [some (.ref 0), some (.int x1)], [.int x1], pv_mm s T)) (by decide +kernel) rfl ?_
  obtain ⟨q2, e1, h⟩ := Option.bind_eq_some_iff.mp h
  refine pv_e_csi (d := d + 1) (i := 186) (z := 101) (np := 1) (ml := 1) (As := [.int x1]) (rs := []) (pc' := 4) (by decide +kernel) rfl rfl rfl (Nat.le_of_ble_eq_true rfl) (Nat.le_of_ble_eq_true rfl) rfl (ee101 (d + 1) x1 e1) ?_
  refine pv_e_ifne (off := 5) (b := 9) (pc' := 7) (by decide +kernel) (by decide +kernel) rfl (fun c3 => ?_) (fun c3 => ?_)
  · rw [if_pos c3] at h
    refine pv_e_bk (ps := [(7, .iconst (-1), 1)]) (t' := (0, 0, 8, [some (.ref 0), some (.int x1)], [.int (-1:Int32)], pv_mm s T)) (by decide +kernel) rfl ?_
    obtain rfl := Option.some.inj h
    cases hr
    exact pv_e_ri (by decide +kernel)
  · rw [if_neg c3] at h
    refine pv_e_bk (ps := [(9, .aload_n 0, 1)]) (t' := (0, 0, 10, [some (.ref 0), some (.int x1)], [.ref 0], pv_mm s T)) (by decide +kernel) rfl ?_
    refine pv_e_gr (i := 21) (ci := 5) (j := 2) (b := 3) (pc' := 13) (by decide +kernel) rfl rfl rfl ?_
    refine pv_e_gr (i := 109) (ci := 4) (j := 1) (b := 8) (pc' := 16) (by decide +kernel) rfl rfl rfl ?_
    refine pv_e_gc (i := 112) (ci := 1) (j := 3) (pc' := 19) (by decide +kernel) (by decide) rfl rfl rfl ?_
    refine pv_e_ifne (off := 6) (b := 25) (pc' := 22) (by decide +kernel) (by decide +kernel) rfl (fun c4 => ?_) (fun c4 => ?_)
    · rw [if_pos c4] at h
      refine pv_e_bk (ps := [(22, .bipush (-4), 2)]) (t' := (0, 0, 24, [some (.ref 0), some (.int x1)], [.int (-4:Int32)], pv_mm s T)) (by decide +kernel) rfl ?_
      obtain rfl := Option.some.inj h
      cases hr
      exact pv_e_ri (by decide +kernel)
    · rw [if_neg c4] at h
      refine pv_e_bk (ps := [(25, .aload_n 0, 1)]) (t' := (0, 0, 26, [some (.ref 0), some (.int x1)], [.ref 0], pv_mm s T)) (by decide +kernel) rfl ?_
      refine pv_e_gr (i := 21) (ci := 5) (j := 2) (b := 3) (pc' := 29) (by decide +kernel) rfl rfl rfl ?_
      refine pv_e_gr (i := 189) (ci := 4) (j := 6) (b := 20) (pc' := 32) (by decide +kernel) rfl rfl rfl ?_
      refine pv_e_bk (ps := [(32, .iload_n 1, 1)]) (t' := (0, 0, 33, [some (.ref 0), some (.int x1)], [.int x1, .ref 20], pv_mm s T)) (by decide +kernel) rfl ?_
      obtain ⟨o5, e6, h⟩ := Option.bind_eq_some_iff.mp h
      have g7 := ra_kept e6
      refine pv_e_ra (zz := 3) (pc' := 34) (by decide +kernel) rfl (by decide) e6 rfl ?_
      refine pv_e_bk (ps := [(34, .aload_n 0, 1)]) (t' := (0, 0, 35, [some (.ref 0), some (.int x1)], [.ref 0, .ref o5], pv_mm s T)) (by decide +kernel) rfl ?_
      refine pv_e_gr (i := 21) (ci := 5) (j := 2) (b := 3) (pc' := 38) (by decide +kernel) rfl rfl rfl ?_
      refine pv_e_gr (i := 156) (ci := 4) (j := 5) (b := 15) (pc' := 41) (by decide +kernel) rfl rfl rfl ?_
      obtain ⟨s9, e8, h⟩ := Option.bind_eq_some_iff.mp h
      refine pv_e_cvv (d := d + 1) (i := 193) (z := 3) (np := 1) (ml := 2) (ci := 0) (As := [.ref 15]) (rs := []) (pc' := 44) (by decide +kernel) (dd g7).1 rfl rfl rfl (Nat.le_of_ble_eq_true rfl) (Nat.le_of_ble_eq_true rfl) rfl (ee3 (d + 0) o5 15 g7 (by decide) e8) ?_
      refine pv_e_bk (ps := [(44, .aload_n 0, 1)]) (t' := (0, 0, 45, [some (.ref 0), some (.int x1)], [.ref 0], pv_mm s9 T)) (by decide +kernel) rfl ?_
      refine pv_e_gr (i := 21) (ci := 5) (j := 2) (b := 3) (pc' := 48) (by decide +kernel) rfl rfl rfl ?_
      refine pv_e_gr (i := 189) (ci := 4) (j := 6) (b := 20) (pc' := 51) (by decide +kernel) rfl rfl rfl ?_
      refine pv_e_bk (ps := [(51, .iload_n 1, 1)]) (t' := (0, 0, 52, [some (.ref 0), some (.int x1)], [.int x1, .ref 20], pv_mm s9 T)) (by decide +kernel) rfl ?_
      obtain ⟨o10, e11, h⟩ := Option.bind_eq_some_iff.mp h
      have g12 := ra_kept e11
      refine pv_e_ra (zz := 3) (pc' := 53) (by decide +kernel) rfl (by decide) e11 rfl ?_
      refine pv_e_bk (ps := [(53, .iconst 1, 1)]) (t' := (0, 0, 54, [some (.ref 0), some (.int x1)], [.int (1:Int32), .ref o10], pv_mm s9 T)) (by decide +kernel) rfl ?_
      obtain ⟨s13, e14, h⟩ := Option.bind_eq_some_iff.mp h
      refine pv_e_pcs (i := 197) (ci := 0) (j := 5) (pc' := 57) (by decide +kernel) (by decide +kernel) (by decide +kernel) (by have := (dd g12).2.2.2.2.2; omega) (dd g12).1 rfl e14 rfl ?_
      refine pv_e_bk (ps := [(57, .aload_n 0, 1)]) (t' := (0, 0, 58, [some (.ref 0), some (.int x1)], [.ref 0], pv_mm s13 T)) (by decide +kernel) rfl ?_
      refine pv_e_gr (i := 21) (ci := 5) (j := 2) (b := 3) (pc' := 61) (by decide +kernel) rfl rfl rfl ?_
      refine pv_e_gr (i := 156) (ci := 4) (j := 5) (b := 15) (pc' := 64) (by decide +kernel) rfl rfl rfl ?_
      refine pv_e_gc (i := 182) (ci := 0) (j := 4) (pc' := 67) (by decide +kernel) (by decide) rfl rfl rfl ?_
      obtain rfl := Option.some.inj h
      cases hr
      exact pv_e_ri (by decide +kernel)
def f75_on (x1 : Int32) (s : pv_F) : Option (Int32 × pv_F) :=
  (f101_isKeepingPlace x1).bind fun q2 =>
  if q2 = 0 then
    some ((-1:Int32), s)
  else
    (pv_ra 20 3 x1).bind fun o4 =>
    if (s o4 5) = 0 then
      (f104_find (1:Int32) s).bind fun (q9, s10) =>
      some (q9, s10)
    else
      (pv_ra 20 3 x1).bind fun o11 =>
      (f3_take 15 o11 s).bind fun s15 =>
      (f44_goBack (s15 15 4) s15).bind fun s17 =>
      some (s17 15 4, s17)
theorem ee75 {xs : Nat → Int32} {L : Nat} (d : Nat) (x1 : Int32) {s : pv_F} {T : pv_T} {q : Int32 × pv_F}  (h : f75_on x1 s = some q) : pv_Ev xs L (d + 6) 75 (0, 0, 0, [some (.ref 0), some (.int x1)], [], pv_mm s T) (some (.int q.1), pv_mm q.2 T) := by
  generalize hr : ((some (.int q.1), pv_mm q.2 T) : Option Value × pv_M) = r
  unfold f75_on at h
  refine pv_e_bk (ps := [(0, .iload_n 1, 1)]) (t' := (0, 0, 1, [some (.ref 0), some (.int x1)], [.int x1], pv_mm s T)) (by decide +kernel) rfl ?_
  obtain ⟨q2, e1, h⟩ := Option.bind_eq_some_iff.mp h
  refine pv_e_csi (d := d + 5) (i := 186) (z := 101) (np := 1) (ml := 1) (As := [.int x1]) (rs := []) (pc' := 4) (by decide +kernel) rfl rfl rfl (Nat.le_of_ble_eq_true rfl) (Nat.le_of_ble_eq_true rfl) rfl (ee101 (d + 5) x1 e1) ?_
  refine pv_e_ifne (off := 5) (b := 9) (pc' := 7) (by decide +kernel) (by decide +kernel) rfl (fun c3 => ?_) (fun c3 => ?_)
  · rw [if_pos c3] at h
    refine pv_e_bk (ps := [(7, .iconst (-1), 1)]) (t' := (0, 0, 8, [some (.ref 0), some (.int x1)], [.int (-1:Int32)], pv_mm s T)) (by decide +kernel) rfl ?_
    obtain rfl := Option.some.inj h
    cases hr
    exact pv_e_ri (by decide +kernel)
  · rw [if_neg c3] at h
    refine pv_e_bk (ps := [(9, .aload_n 0, 1)]) (t' := (0, 0, 10, [some (.ref 0), some (.int x1)], [.ref 0], pv_mm s T)) (by decide +kernel) rfl ?_
    refine pv_e_gr (i := 21) (ci := 5) (j := 2) (b := 3) (pc' := 13) (by decide +kernel) rfl rfl rfl ?_
    refine pv_e_gr (i := 189) (ci := 4) (j := 6) (b := 20) (pc' := 16) (by decide +kernel) rfl rfl rfl ?_
    refine pv_e_bk (ps := [(16, .iload_n 1, 1)]) (t' := (0, 0, 17, [some (.ref 0), some (.int x1)], [.int x1, .ref 20], pv_mm s T)) (by decide +kernel) rfl ?_
    obtain ⟨o4, e5, h⟩ := Option.bind_eq_some_iff.mp h
    have g6 := ra_kept e5
    refine pv_e_ra (zz := 3) (pc' := 18) (by decide +kernel) rfl (by decide) e5 rfl ?_
    refine pv_e_gc (i := 197) (ci := 0) (j := 5) (pc' := 21) (by decide +kernel) (by have := (dd g6).2.2.2.2.2; omega) (dd g6).1 rfl rfl ?_
    refine pv_e_ifne (off := 9) (b := 30) (pc' := 24) (by decide +kernel) (by decide +kernel) rfl (fun c7 => ?_) (fun c7 => ?_)
    · rw [if_pos c7] at h
      refine pv_e_bk (ps := [(24, .aload_n 0, 1), (25, .iconst 1, 1)]) (t' := (0, 0, 26, [some (.ref 0), some (.int x1)], [.int (1:Int32), .ref 0], pv_mm s T)) (by decide +kernel) rfl ?_
      obtain ⟨⟨q9, s10⟩, e8, h⟩ := Option.bind_eq_some_iff.mp h
      dsimp only at h
      refine pv_e_cvi (d := d + 5) (i := 63) (z := 104) (np := 1) (ml := 2) (ci := 5) (As := [.int (1:Int32)]) (rs := []) (pc' := 29) (by decide +kernel) rfl rfl rfl rfl (Nat.le_of_ble_eq_true rfl) (Nat.le_of_ble_eq_true rfl) rfl (ee104 (d + 5) (1:Int32) e8) ?_
      obtain rfl := Option.some.inj h
      cases hr
      exact pv_e_ri (by decide +kernel)
    · rw [if_neg c7] at h
      refine pv_e_bk (ps := [(30, .aload_n 0, 1)]) (t' := (0, 0, 31, [some (.ref 0), some (.int x1)], [.ref 0], pv_mm s T)) (by decide +kernel) rfl ?_
      refine pv_e_gr (i := 21) (ci := 5) (j := 2) (b := 3) (pc' := 34) (by decide +kernel) rfl rfl rfl ?_
      refine pv_e_gr (i := 156) (ci := 4) (j := 5) (b := 15) (pc' := 37) (by decide +kernel) rfl rfl rfl ?_
      refine pv_e_bk (ps := [(37, .aload_n 0, 1)]) (t' := (0, 0, 38, [some (.ref 0), some (.int x1)], [.ref 0, .ref 15], pv_mm s T)) (by decide +kernel) rfl ?_
      refine pv_e_gr (i := 21) (ci := 5) (j := 2) (b := 3) (pc' := 41) (by decide +kernel) rfl rfl rfl ?_
      refine pv_e_gr (i := 189) (ci := 4) (j := 6) (b := 20) (pc' := 44) (by decide +kernel) rfl rfl rfl ?_
      refine pv_e_bk (ps := [(44, .iload_n 1, 1)]) (t' := (0, 0, 45, [some (.ref 0), some (.int x1)], [.int x1, .ref 20, .ref 15], pv_mm s T)) (by decide +kernel) rfl ?_
      obtain ⟨o11, e12, h⟩ := Option.bind_eq_some_iff.mp h
      have g13 := ra_kept e12
      refine pv_e_ra (zz := 3) (pc' := 46) (by decide +kernel) rfl (by decide) e12 rfl ?_
      obtain ⟨s15, e14, h⟩ := Option.bind_eq_some_iff.mp h
      refine pv_e_cvv (d := d + 5) (i := 193) (z := 3) (np := 1) (ml := 2) (ci := 0) (As := [.ref o11]) (rs := []) (pc' := 49) (by decide +kernel) rfl rfl rfl rfl (Nat.le_of_ble_eq_true rfl) (Nat.le_of_ble_eq_true rfl) rfl (ee3 (d + 4) 15 o11 (by decide) g13 e14) ?_
      refine pv_e_bk (ps := [(49, .aload_n 0, 1)]) (t' := (0, 0, 50, [some (.ref 0), some (.int x1)], [.ref 0], pv_mm s15 T)) (by decide +kernel) rfl ?_
      refine pv_e_gr (i := 21) (ci := 5) (j := 2) (b := 3) (pc' := 53) (by decide +kernel) rfl rfl rfl ?_
      refine pv_e_bk (ps := [(53, .aload_n 0, 1)]) (t' := (0, 0, 54, [some (.ref 0), some (.int x1)], [.ref 0, .ref 3], pv_mm s15 T)) (by decide +kernel) rfl ?_
      refine pv_e_gr (i := 21) (ci := 5) (j := 2) (b := 3) (pc' := 57) (by decide +kernel) rfl rfl rfl ?_
      refine pv_e_gr (i := 156) (ci := 4) (j := 5) (b := 15) (pc' := 60) (by decide +kernel) rfl rfl rfl ?_
      refine pv_e_gc (i := 182) (ci := 0) (j := 4) (pc' := 63) (by decide +kernel) (by decide) rfl rfl rfl ?_
      obtain ⟨s17, e16, h⟩ := Option.bind_eq_some_iff.mp h
      refine pv_e_cvv (d := d + 5) (i := 183) (z := 44) (np := 1) (ml := 3) (ci := 4) (As := [.int (s15 15 4)]) (rs := []) (pc' := 66) (by decide +kernel) rfl rfl rfl rfl (Nat.le_of_ble_eq_true rfl) (Nat.le_of_ble_eq_true rfl) rfl (ee44 (d + 0) (s15 15 4) e16) ?_
      refine pv_e_bk (ps := [(66, .aload_n 0, 1)]) (t' := (0, 0, 67, [some (.ref 0), some (.int x1)], [.ref 0], pv_mm s17 T)) (by decide +kernel) rfl ?_
      refine pv_e_gr (i := 21) (ci := 5) (j := 2) (b := 3) (pc' := 70) (by decide +kernel) rfl rfl rfl ?_
      refine pv_e_gr (i := 156) (ci := 4) (j := 5) (b := 15) (pc' := 73) (by decide +kernel) rfl rfl rfl ?_
      refine pv_e_gc (i := 182) (ci := 0) (j := 4) (pc' := 76) (by decide +kernel) (by decide) rfl rfl rfl ?_
      obtain rfl := Option.some.inj h
      cases hr
      exact pv_e_ri (by decide +kernel)
def f76_lasts (x1 : Int32) (s : pv_F) : Option (Int32 × pv_F) :=
  (f102_isPerson x1 s).bind fun q2 =>
  if q2 = 0 then
    some ((-1:Int32), s)
  else
    (f9_lives 8 x1 s).bind fun q5 =>
    if q5 = 0 then
      (f104_find (4:Int32) s).bind fun (q8, s9) =>
      some (q8, s9)
    else
      (f18_timesTill 8 x1 (0:Int32) (s 0 6) s).bind fun q11 =>
      some (q11, s)
theorem ee76 {xs : Nat → Int32} {L : Nat} (d : Nat) (x1 : Int32) {s : pv_F} {T : pv_T} {q : Int32 × pv_F}  (h : f76_lasts x1 s = some q) : pv_Ev xs L (d + 3) 76 (0, 0, 0, [some (.ref 0), some (.int x1)], [], pv_mm s T) (some (.int q.1), pv_mm q.2 T) := by
  generalize hr : ((some (.int q.1), pv_mm q.2 T) : Option Value × pv_M) = r
  unfold f76_lasts at h
  refine pv_e_bk (ps := [(0, .aload_n 0, 1), (1, .iload_n 1, 1)]) (t' := (0, 0, 2, [some (.ref 0), some (.int x1)], [.int x1, .ref 0], pv_mm s T)) (by decide +kernel) rfl ?_
  obtain ⟨q2, e1, h⟩ := Option.bind_eq_some_iff.mp h
  refine pv_e_cvi (d := d + 2) (i := 113) (z := 102) (np := 1) (ml := 2) (ci := 5) (As := [.int x1]) (rs := []) (pc' := 5) (by decide +kernel) rfl rfl rfl rfl (Nat.le_of_ble_eq_true rfl) (Nat.le_of_ble_eq_true rfl) rfl (ee102 (d + 2) x1 e1) ?_
  refine pv_e_ifne (off := 5) (b := 10) (pc' := 8) (by decide +kernel) (by decide +kernel) rfl (fun c3 => ?_) (fun c3 => ?_)
  · rw [if_pos c3] at h
    refine pv_e_bk (ps := [(8, .iconst (-1), 1)]) (t' := (0, 0, 9, [some (.ref 0), some (.int x1)], [.int (-1:Int32)], pv_mm s T)) (by decide +kernel) rfl ?_
    obtain rfl := Option.some.inj h
    cases hr
    exact pv_e_ri (by decide +kernel)
  · rw [if_neg c3] at h
    refine pv_e_bk (ps := [(10, .aload_n 0, 1)]) (t' := (0, 0, 11, [some (.ref 0), some (.int x1)], [.ref 0], pv_mm s T)) (by decide +kernel) rfl ?_
    refine pv_e_gr (i := 21) (ci := 5) (j := 2) (b := 3) (pc' := 14) (by decide +kernel) rfl rfl rfl ?_
    refine pv_e_gr (i := 109) (ci := 4) (j := 1) (b := 8) (pc' := 17) (by decide +kernel) rfl rfl rfl ?_
    refine pv_e_bk (ps := [(17, .iload_n 1, 1)]) (t' := (0, 0, 18, [some (.ref 0), some (.int x1)], [.int x1, .ref 8], pv_mm s T)) (by decide +kernel) rfl ?_
    obtain ⟨q5, e4, h⟩ := Option.bind_eq_some_iff.mp h
    refine pv_e_cvi (d := d + 2) (i := 198) (z := 9) (np := 1) (ml := 2) (ci := 1) (As := [.int x1]) (rs := []) (pc' := 21) (by decide +kernel) rfl rfl rfl rfl (Nat.le_of_ble_eq_true rfl) (Nat.le_of_ble_eq_true rfl) rfl (ee9 (d + 2) 8 x1 (by decide) e4) ?_
    refine pv_e_ifne (off := 9) (b := 30) (pc' := 24) (by decide +kernel) (by decide +kernel) rfl (fun c6 => ?_) (fun c6 => ?_)
    · rw [if_pos c6] at h
      refine pv_e_bk (ps := [(24, .aload_n 0, 1), (25, .iconst 4, 1)]) (t' := (0, 0, 26, [some (.ref 0), some (.int x1)], [.int (4:Int32), .ref 0], pv_mm s T)) (by decide +kernel) rfl ?_
      obtain ⟨⟨q8, s9⟩, e7, h⟩ := Option.bind_eq_some_iff.mp h
      dsimp only at h
      refine pv_e_cvi (d := d + 2) (i := 63) (z := 104) (np := 1) (ml := 2) (ci := 5) (As := [.int (4:Int32)]) (rs := []) (pc' := 29) (by decide +kernel) rfl rfl rfl rfl (Nat.le_of_ble_eq_true rfl) (Nat.le_of_ble_eq_true rfl) rfl (ee104 (d + 2) (4:Int32) e7) ?_
      obtain rfl := Option.some.inj h
      cases hr
      exact pv_e_ri (by decide +kernel)
    · rw [if_neg c6] at h
      refine pv_e_bk (ps := [(30, .aload_n 0, 1)]) (t' := (0, 0, 31, [some (.ref 0), some (.int x1)], [.ref 0], pv_mm s T)) (by decide +kernel) rfl ?_
      refine pv_e_gr (i := 21) (ci := 5) (j := 2) (b := 3) (pc' := 34) (by decide +kernel) rfl rfl rfl ?_
      refine pv_e_gr (i := 109) (ci := 4) (j := 1) (b := 8) (pc' := 37) (by decide +kernel) rfl rfl rfl ?_
      refine pv_e_bk (ps := [(37, .iload_n 1, 1), (38, .iconst 0, 1), (39, .aload_n 0, 1)]) (t' := (0, 0, 40, [some (.ref 0), some (.int x1)], [.ref 0, .int (0:Int32), .int x1, .ref 8], pv_mm s T)) (by decide +kernel) rfl ?_
      refine pv_e_gc (i := 43) (ci := 5) (j := 6) (pc' := 43) (by decide +kernel) (by decide) rfl rfl rfl ?_
      obtain ⟨q11, e10, h⟩ := Option.bind_eq_some_iff.mp h
      refine pv_e_cvi (d := d + 2) (i := 201) (z := 18) (np := 3) (ml := 7) (ci := 1) (As := [.int x1, .int (0:Int32), .int (s 0 6)]) (rs := []) (pc' := 46) (by decide +kernel) rfl rfl rfl rfl (Nat.le_of_ble_eq_true rfl) (Nat.le_of_ble_eq_true rfl) rfl (ee18 (d + 0) 8 x1 (0:Int32) (s 0 6) (by decide) e10) ?_
      obtain rfl := Option.some.inj h
      cases hr
      exact pv_e_ri (by decide +kernel)
def f77_becomes (x1 : Int32) (x2 : Int32) (s : pv_F) : Option (Int32 × pv_F) :=
  (f103_isPair x1 x2 s).bind fun q2 =>
  if q2 = 0 then
    some ((-1:Int32), s)
  else
    (f9_lives 8 x1 s).bind fun q5 =>
    if q5 = 0 then
      (f104_find (4:Int32) s).bind fun (q8, s9) =>
      some (q8, s9)
    else
      (pv_rd s 10 7 x2).bind fun q10 =>
      (f18_timesTill 8 x1 q10 (s 0 6) s).bind fun q13 =>
      some (q13, s)
theorem ee77 {xs : Nat → Int32} {L : Nat} (d : Nat) (x1 : Int32) (x2 : Int32) {s : pv_F} {T : pv_T} {q : Int32 × pv_F}  (h : f77_becomes x1 x2 s = some q) : pv_Ev xs L (d + 3) 77 (0, 0, 0, [some (.ref 0), some (.int x1), some (.int x2)], [], pv_mm s T) (some (.int q.1), pv_mm q.2 T) := by
  generalize hr : ((some (.int q.1), pv_mm q.2 T) : Option Value × pv_M) = r
  unfold f77_becomes at h
  refine pv_e_bk (ps := [(0, .aload_n 0, 1), (1, .iload_n 1, 1), (2, .iload_n 2, 1)]) (t' := (0, 0, 3, [some (.ref 0), some (.int x1), some (.int x2)], [.int x2, .int x1, .ref 0], pv_mm s T)) (by decide +kernel) rfl ?_
  obtain ⟨q2, e1, h⟩ := Option.bind_eq_some_iff.mp h
  refine pv_e_cvi (d := d + 2) (i := 150) (z := 103) (np := 2) (ml := 3) (ci := 5) (As := [.int x1, .int x2]) (rs := []) (pc' := 6) (by decide +kernel) rfl rfl rfl rfl (Nat.le_of_ble_eq_true rfl) (Nat.le_of_ble_eq_true rfl) rfl (ee103 (d + 1) x1 x2 e1) ?_
  refine pv_e_ifne (off := 5) (b := 11) (pc' := 9) (by decide +kernel) (by decide +kernel) rfl (fun c3 => ?_) (fun c3 => ?_)
  · rw [if_pos c3] at h
    refine pv_e_bk (ps := [(9, .iconst (-1), 1)]) (t' := (0, 0, 10, [some (.ref 0), some (.int x1), some (.int x2)], [.int (-1:Int32)], pv_mm s T)) (by decide +kernel) rfl ?_
    obtain rfl := Option.some.inj h
    cases hr
    exact pv_e_ri (by decide +kernel)
  · rw [if_neg c3] at h
    refine pv_e_bk (ps := [(11, .aload_n 0, 1)]) (t' := (0, 0, 12, [some (.ref 0), some (.int x1), some (.int x2)], [.ref 0], pv_mm s T)) (by decide +kernel) rfl ?_
    refine pv_e_gr (i := 21) (ci := 5) (j := 2) (b := 3) (pc' := 15) (by decide +kernel) rfl rfl rfl ?_
    refine pv_e_gr (i := 109) (ci := 4) (j := 1) (b := 8) (pc' := 18) (by decide +kernel) rfl rfl rfl ?_
    refine pv_e_bk (ps := [(18, .iload_n 1, 1)]) (t' := (0, 0, 19, [some (.ref 0), some (.int x1), some (.int x2)], [.int x1, .ref 8], pv_mm s T)) (by decide +kernel) rfl ?_
    obtain ⟨q5, e4, h⟩ := Option.bind_eq_some_iff.mp h
    refine pv_e_cvi (d := d + 2) (i := 198) (z := 9) (np := 1) (ml := 2) (ci := 1) (As := [.int x1]) (rs := []) (pc' := 22) (by decide +kernel) rfl rfl rfl rfl (Nat.le_of_ble_eq_true rfl) (Nat.le_of_ble_eq_true rfl) rfl (ee9 (d + 2) 8 x1 (by decide) e4) ?_
    refine pv_e_ifne (off := 9) (b := 31) (pc' := 25) (by decide +kernel) (by decide +kernel) rfl (fun c6 => ?_) (fun c6 => ?_)
    · rw [if_pos c6] at h
      refine pv_e_bk (ps := [(25, .aload_n 0, 1), (26, .iconst 4, 1)]) (t' := (0, 0, 27, [some (.ref 0), some (.int x1), some (.int x2)], [.int (4:Int32), .ref 0], pv_mm s T)) (by decide +kernel) rfl ?_
      obtain ⟨⟨q8, s9⟩, e7, h⟩ := Option.bind_eq_some_iff.mp h
      dsimp only at h
      refine pv_e_cvi (d := d + 2) (i := 63) (z := 104) (np := 1) (ml := 2) (ci := 5) (As := [.int (4:Int32)]) (rs := []) (pc' := 30) (by decide +kernel) rfl rfl rfl rfl (Nat.le_of_ble_eq_true rfl) (Nat.le_of_ble_eq_true rfl) rfl (ee104 (d + 2) (4:Int32) e7) ?_
      obtain rfl := Option.some.inj h
      cases hr
      exact pv_e_ri (by decide +kernel)
    · rw [if_neg c6] at h
      refine pv_e_bk (ps := [(31, .aload_n 0, 1)]) (t' := (0, 0, 32, [some (.ref 0), some (.int x1), some (.int x2)], [.ref 0], pv_mm s T)) (by decide +kernel) rfl ?_
      refine pv_e_gr (i := 21) (ci := 5) (j := 2) (b := 3) (pc' := 35) (by decide +kernel) rfl rfl rfl ?_
      refine pv_e_gr (i := 109) (ci := 4) (j := 1) (b := 8) (pc' := 38) (by decide +kernel) rfl rfl rfl ?_
      refine pv_e_bk (ps := [(38, .iload_n 1, 1), (39, .aload_n 0, 1)]) (t' := (0, 0, 40, [some (.ref 0), some (.int x1), some (.int x2)], [.ref 0, .int x1, .ref 8], pv_mm s T)) (by decide +kernel) rfl ?_
      refine pv_e_gr (i := 21) (ci := 5) (j := 2) (b := 3) (pc' := 43) (by decide +kernel) rfl rfl rfl ?_
      refine pv_e_gr (i := 109) (ci := 4) (j := 1) (b := 8) (pc' := 46) (by decide +kernel) rfl rfl rfl ?_
      refine pv_e_gr (i := 120) (ci := 1) (j := 1) (b := 10) (pc' := 49) (by decide +kernel) rfl rfl rfl ?_
      refine pv_e_bk (ps := [(49, .iload_n 2, 1)]) (t' := (0, 0, 50, [some (.ref 0), some (.int x1), some (.int x2)], [.int x2, .ref 10, .int x1, .ref 8], pv_mm s T)) (by decide +kernel) rfl ?_
      obtain ⟨q10, e11, h⟩ := Option.bind_eq_some_iff.mp h
      refine pv_e_rc (pc' := 51) (by decide +kernel) (by decide) rfl e11 rfl ?_
      refine pv_e_bk (ps := [(51, .aload_n 0, 1)]) (t' := (0, 0, 52, [some (.ref 0), some (.int x1), some (.int x2)], [.ref 0, .int q10, .int x1, .ref 8], pv_mm s T)) (by decide +kernel) rfl ?_
      refine pv_e_gc (i := 43) (ci := 5) (j := 6) (pc' := 55) (by decide +kernel) (by decide) rfl rfl rfl ?_
      obtain ⟨q13, e12, h⟩ := Option.bind_eq_some_iff.mp h
      refine pv_e_cvi (d := d + 2) (i := 201) (z := 18) (np := 3) (ml := 7) (ci := 1) (As := [.int x1, .int q10, .int (s 0 6)]) (rs := []) (pc' := 58) (by decide +kernel) rfl rfl rfl rfl (Nat.le_of_ble_eq_true rfl) (Nat.le_of_ble_eq_true rfl) rfl (ee18 (d + 0) 8 x1 q10 (s 0 6) (by decide) e12) ?_
      obtain rfl := Option.some.inj h
      cases hr
      exact pv_e_ri (by decide +kernel)
def f78_unlike (x1 : Int32) (s : pv_F) : Option (Int32 × pv_F) :=
  if x1 < 0 then
    some ((-1:Int32), s)
  else
    if x1 ≤ (12:Int32) then
      (f33_from 8 (s 0 6) s).bind fun s5 =>
      (f17_wearAll 45 x1 (s5 0 6) s5).bind fun s7 =>
      (f21_nameless 45 s7).bind fun q9 =>
      (pv_pf s7 0 8 q9).bind fun s10 =>
      (f22_unlikeNames 45 s10).bind fun q13 =>
      some (q13, s10)
    else
      some ((-1:Int32), s)
theorem ee78 {xs : Nat → Int32} {L : Nat} (d : Nat) (x1 : Int32) {s : pv_F} {T : pv_T} {q : Int32 × pv_F}  (h : f78_unlike x1 s = some q) : pv_Ev xs L (d + 4) 78 (0, 0, 0, [some (.ref 0), some (.int x1), none], [], pv_mm s T) (some (.int q.1), pv_mm q.2 T) := by
  generalize hr : ((some (.int q.1), pv_mm q.2 T) : Option Value × pv_M) = r
  unfold f78_unlike at h
  refine pv_e_bk (ps := [(0, .iload_n 1, 1)]) (t' := (0, 0, 1, [some (.ref 0), some (.int x1), none], [.int x1], pv_mm s T)) (by decide +kernel) rfl ?_
  refine pv_e_iflt (off := 9) (b := 10) (pc' := 4) (by decide +kernel) (by decide +kernel) rfl (fun c1 => ?_) (fun c1 => ?_)
  · rw [if_pos c1] at h
    refine pv_e_bk (ps := [(10, .iconst (-1), 1)]) (t' := (0, 0, 11, [some (.ref 0), some (.int x1), none], [.int (-1:Int32)], pv_mm s T)) (by decide +kernel) rfl ?_
    obtain rfl := Option.some.inj h
    cases hr
    exact pv_e_ri (by decide +kernel)
  · rw [if_neg c1] at h
    refine pv_e_bk (ps := [(4, .iload_n 1, 1), (5, .bipush 12, 2)]) (t' := (0, 0, 7, [some (.ref 0), some (.int x1), none], [.int (12:Int32), .int x1], pv_mm s T)) (by decide +kernel) rfl ?_
    refine pv_e_icmple (off := 5) (b := 12) (pc' := 10) (by decide +kernel) (by decide +kernel) rfl (fun c2 => ?_) (fun c2 => ?_)
    · rw [if_pos c2] at h
      refine pv_e_bk (ps := [(12, .aload_n 0, 1)]) (t' := (0, 0, 13, [some (.ref 0), some (.int x1), none], [.ref 0], pv_mm s T)) (by decide +kernel) rfl ?_
      refine pv_e_gr (i := 35) (ci := 5) (j := 4) (b := 40) (pc' := 16) (by decide +kernel) rfl rfl rfl ?_
      refine pv_e_bk (ps := [(16, .aload_n 0, 1)]) (t' := (0, 0, 17, [some (.ref 0), some (.int x1), none], [.ref 0, .ref 40], pv_mm s T)) (by decide +kernel) rfl ?_
      refine pv_e_gr (i := 21) (ci := 5) (j := 2) (b := 3) (pc' := 20) (by decide +kernel) rfl rfl rfl ?_
      refine pv_e_gr (i := 109) (ci := 4) (j := 1) (b := 8) (pc' := 23) (by decide +kernel) rfl rfl rfl ?_
      refine pv_e_bk (ps := [(23, .aload_n 0, 1)]) (t' := (0, 0, 24, [some (.ref 0), some (.int x1), none], [.ref 0, .ref 8, .ref 40], pv_mm s T)) (by decide +kernel) rfl ?_
      refine pv_e_gc (i := 43) (ci := 5) (j := 6) (pc' := 27) (by decide +kernel) (by decide) rfl rfl rfl ?_
      obtain ⟨s5, e3, h⟩ := Option.bind_eq_some_iff.mp h
      refine pv_e_cvf (d := d + 3) (i := 204) (z := 33) (np := 2) (ml := 4) (ci := 3) (As := [.ref 8, .int (s 0 6)]) (rs := []) (pc' := 30) (by decide +kernel) rfl rfl rfl rfl (Nat.le_of_ble_eq_true rfl) (Nat.le_of_ble_eq_true rfl) rfl (ee33 (d + 1) 8 (s 0 6) (by decide) e3) ?_
      refine pv_e_bk (ps := [(30, .astore_n 2, 1), (31, .aload_n 2, 1), (32, .iload_n 1, 1), (33, .aload_n 0, 1)]) (t' := (0, 0, 34, [some (.ref 0), some (.int x1), some (.ref 45)], [.ref 0, .int x1, .ref 45], pv_mm s5 T)) (by decide +kernel) rfl ?_
      refine pv_e_gc (i := 43) (ci := 5) (j := 6) (pc' := 37) (by decide +kernel) (by decide) rfl rfl rfl ?_
      obtain ⟨s7, e6, h⟩ := Option.bind_eq_some_iff.mp h
      refine pv_e_cvv (d := d + 3) (i := 208) (z := 17) (np := 2) (ml := 5) (ci := 1) (As := [.int x1, .int (s5 0 6)]) (rs := []) (pc' := 40) (by decide +kernel) rfl rfl rfl rfl (Nat.le_of_ble_eq_true rfl) (Nat.le_of_ble_eq_true rfl) rfl (ee17 (d + 0) 45 x1 (s5 0 6) (by decide) e6) ?_
      refine pv_e_bk (ps := [(40, .aload_n 0, 1), (41, .aload_n 2, 1)]) (t' := (0, 0, 42, [some (.ref 0), some (.int x1), some (.ref 45)], [.ref 45, .ref 0], pv_mm s7 T)) (by decide +kernel) rfl ?_
      obtain ⟨q9, e8, h⟩ := Option.bind_eq_some_iff.mp h
      refine pv_e_cvi (d := d + 3) (i := 211) (z := 21) (np := 0) (ml := 1) (ci := 1) (As := []) (rs := [.ref 0]) (pc' := 45) (by decide +kernel) rfl rfl rfl rfl (Nat.le_of_ble_eq_true rfl) (Nat.le_of_ble_eq_true rfl) rfl (ee21 (d + 1) 45 (by decide) e8) ?_
      obtain ⟨s10, e11, h⟩ := Option.bind_eq_some_iff.mp h
      refine pv_e_pcs (i := 50) (ci := 5) (j := 8) (pc' := 48) (by decide +kernel) rfl rfl (by decide) rfl rfl e11 rfl ?_
      refine pv_e_bk (ps := [(48, .aload_n 2, 1)]) (t' := (0, 0, 49, [some (.ref 0), some (.int x1), some (.ref 45)], [.ref 45], pv_mm s10 T)) (by decide +kernel) rfl ?_
      obtain ⟨q13, e12, h⟩ := Option.bind_eq_some_iff.mp h
      refine pv_e_cvi (d := d + 3) (i := 215) (z := 22) (np := 0) (ml := 4) (ci := 1) (As := []) (rs := []) (pc' := 52) (by decide +kernel) rfl rfl rfl rfl (Nat.le_of_ble_eq_true rfl) (Nat.le_of_ble_eq_true rfl) rfl (ee22 (d + 1) 45 (by decide) e12) ?_
      obtain rfl := Option.some.inj h
      cases hr
      exact pv_e_ri (by decide +kernel)
    · rw [if_neg c2] at h
      refine pv_e_bk (ps := [(10, .iconst (-1), 1)]) (t' := (0, 0, 11, [some (.ref 0), some (.int x1), none], [.int (-1:Int32)], pv_mm s T)) (by decide +kernel) rfl ?_
      obtain rfl := Option.some.inj h
      cases hr
      exact pv_e_ri (by decide +kernel)
def f79_first_b1 (st : Int32 × pv_F) : Option ((Int32 × pv_F) ⊕ ((Int32 × pv_F) ⊕ (Int32 × pv_F))) := match st with
  | (v2, s) =>
    if (12:Int32) < v2 then
      some (.inr (.inl (v2, s)))
    else
      (f22_unlikeNames 45 s).bind fun q6 =>
      (f21_nameless 45 s).bind fun q8 =>
      (f20_living 45 s).bind fun q10 =>
      if q10 ≤ (q6 + q8) then
        (f17_wearAll 45 (1:Int32) (s 0 6) s).bind fun s13 =>
        some (.inl (v2 + (1:Int32), s13))
      else
        some (.inr (.inr (v2, s)))
def f79_first_b1_H (xs : Nat → Int32) (L d : Nat) (r : Option Value × pv_M) (T : pv_T) (st : Int32 × pv_F) : Prop := match st with
  | (v2, s) => pv_Ev xs L (d + 4) 79 (0, 0, 21, [some (.ref 0), some (.ref 45), some (.int v2)], [], pv_mm s T) r
def f79_first_b1_X (xs : Nat → Int32) (L d : Nat) (r : Option Value × pv_M) (T : pv_T) (st : Int32 × pv_F) : Prop := match st with
  | (v2, s) => ∀ z2 : Option Value, pv_Ev xs L (d + 4) 79 (0, 0, 60, [some (.ref 0), some (.ref 45), z2], [], pv_mm s T) r
def f79_first (s : pv_F) : Option (Int32 × pv_F) :=
  (f33_from 8 (s 0 6) s).bind fun s3 =>
  (pv_lp (f79_first_b1) 20000 ((0:Int32), s3)).bind fun o18 => match o18 with
    | .inl (w14, s15) =>
      some ((-9:Int32), s15)
    | .inr q => some q
theorem f79_first_b1_ok {xs : Nat → Int32} {L d : Nat} {r : Option Value × pv_M} {T : pv_T} (st : Int32 × pv_F) (o : (Int32 × pv_F) ⊕ ((Int32 × pv_F) ⊕ (Int32 × pv_F))) (h : f79_first_b1 st = some o) (hK : pv_Kp (f79_first_b1_H xs L d r T ) (f79_first_b1_X xs L d r T ) (fun q => (some (.int q.1), pv_mm q.2 T) = r) o) : f79_first_b1_H xs L d r T  st := by
  obtain ⟨v2, s⟩ := st
  show pv_Ev xs L (d + 4) 79 (0, 0, 21, [some (.ref 0), some (.ref 45), some (.int v2)], [], pv_mm s T) r
  unfold f79_first_b1 at h
  dsimp only at h
  refine pv_e_bk (ps := [(21, .iload_n 2, 1), (22, .bipush 12, 2)]) (t' := (0, 0, 24, [some (.ref 0), some (.ref 45), some (.int v2)], [.int (12:Int32), .int v2], pv_mm s T)) (by decide +kernel) rfl ?_
  refine pv_e_icmpgt (off := 36) (b := 60) (pc' := 27) (by decide +kernel) (by decide +kernel) rfl (fun c4 => ?_) (fun c4 => ?_)
  · rw [if_pos c4] at h
    obtain rfl := Option.some.inj h
    exact hK _
  · rw [if_neg c4] at h
    refine pv_e_bk (ps := [(27, .aload_n 1, 1)]) (t' := (0, 0, 28, [some (.ref 0), some (.ref 45), some (.int v2)], [.ref 45], pv_mm s T)) (by decide +kernel) rfl ?_
    obtain ⟨q6, e5, h⟩ := Option.bind_eq_some_iff.mp h
    refine pv_e_cvi (d := d + 3) (i := 215) (z := 22) (np := 0) (ml := 4) (ci := 1) (As := []) (rs := []) (pc' := 31) (by decide +kernel) rfl rfl rfl rfl (Nat.le_of_ble_eq_true rfl) (Nat.le_of_ble_eq_true rfl) rfl (ee22 (d + 1) 45 (by decide) e5) ?_
    refine pv_e_bk (ps := [(31, .aload_n 1, 1)]) (t' := (0, 0, 32, [some (.ref 0), some (.ref 45), some (.int v2)], [.ref 45, .int q6], pv_mm s T)) (by decide +kernel) rfl ?_
    obtain ⟨q8, e7, h⟩ := Option.bind_eq_some_iff.mp h
    refine pv_e_cvi (d := d + 3) (i := 211) (z := 21) (np := 0) (ml := 1) (ci := 1) (As := []) (rs := [.int q6]) (pc' := 35) (by decide +kernel) rfl rfl rfl rfl (Nat.le_of_ble_eq_true rfl) (Nat.le_of_ble_eq_true rfl) rfl (ee21 (d + 1) 45 (by decide) e7) ?_
    refine pv_e_bk (ps := [(35, .iadd, 1), (36, .aload_n 1, 1)]) (t' := (0, 0, 37, [some (.ref 0), some (.ref 45), some (.int v2)], [.ref 45, .int (q6 + q8)], pv_mm s T)) (by decide +kernel) rfl ?_
    obtain ⟨q10, e9, h⟩ := Option.bind_eq_some_iff.mp h
    refine pv_e_cvi (d := d + 3) (i := 218) (z := 20) (np := 0) (ml := 3) (ci := 1) (As := []) (rs := [.int (q6 + q8)]) (pc' := 40) (by decide +kernel) rfl rfl rfl rfl (Nat.le_of_ble_eq_true rfl) (Nat.le_of_ble_eq_true rfl) rfl (ee20 (d + 2) 45 (by decide) e9) ?_
    refine pv_e_icmpge (off := 5) (b := 45) (pc' := 43) (by decide +kernel) (by decide +kernel) rfl (fun c11 => ?_) (fun c11 => ?_)
    · rw [if_pos c11] at h
      refine pv_e_bk (ps := [(45, .aload_n 1, 1), (46, .iconst 1, 1), (47, .aload_n 0, 1)]) (t' := (0, 0, 48, [some (.ref 0), some (.ref 45), some (.int v2)], [.ref 0, .int (1:Int32), .ref 45], pv_mm s T)) (by decide +kernel) rfl ?_
      refine pv_e_gc (i := 43) (ci := 5) (j := 6) (pc' := 51) (by decide +kernel) (by decide) rfl rfl rfl ?_
      obtain ⟨s13, e12, h⟩ := Option.bind_eq_some_iff.mp h
      refine pv_e_cvv (d := d + 3) (i := 208) (z := 17) (np := 2) (ml := 5) (ci := 1) (As := [.int (1:Int32), .int (s 0 6)]) (rs := []) (pc' := 54) (by decide +kernel) rfl rfl rfl rfl (Nat.le_of_ble_eq_true rfl) (Nat.le_of_ble_eq_true rfl) rfl (ee17 (d + 0) 45 (1:Int32) (s 0 6) (by decide) e12) ?_
      refine pv_e_bk (ps := [(54, .iinc 2 1, 3), (57, .goto (-36), 3)]) (t' := (0, 0, 21, [some (.ref 0), some (.ref 45), some (.int (v2 + (1:Int32)))], [], pv_mm s13 T)) (by decide +kernel) rfl ?_
      obtain rfl := Option.some.inj h
      exact hK
    · rw [if_neg c11] at h
      refine pv_e_bk (ps := [(43, .iload_n 2, 1)]) (t' := (0, 0, 44, [some (.ref 0), some (.ref 45), some (.int v2)], [.int v2], pv_mm s T)) (by decide +kernel) rfl ?_
      obtain rfl := Option.some.inj h
      cases hK
      exact pv_e_ri (by decide +kernel)
theorem ee79 {xs : Nat → Int32} {L : Nat} (d : Nat)  {s : pv_F} {T : pv_T} {q : Int32 × pv_F}  (h : f79_first s = some q) : pv_Ev xs L (d + 4) 79 (0, 0, 0, [some (.ref 0), none, none], [], pv_mm s T) (some (.int q.1), pv_mm q.2 T) := by
  generalize hr : ((some (.int q.1), pv_mm q.2 T) : Option Value × pv_M) = r
  unfold f79_first at h
  refine pv_e_bk (ps := [(0, .aload_n 0, 1)]) (t' := (0, 0, 1, [some (.ref 0), none, none], [.ref 0], pv_mm s T)) (by decide +kernel) rfl ?_
  refine pv_e_gr (i := 35) (ci := 5) (j := 4) (b := 40) (pc' := 4) (by decide +kernel) rfl rfl rfl ?_
  refine pv_e_bk (ps := [(4, .aload_n 0, 1)]) (t' := (0, 0, 5, [some (.ref 0), none, none], [.ref 0, .ref 40], pv_mm s T)) (by decide +kernel) rfl ?_
  refine pv_e_gr (i := 21) (ci := 5) (j := 2) (b := 3) (pc' := 8) (by decide +kernel) rfl rfl rfl ?_
  refine pv_e_gr (i := 109) (ci := 4) (j := 1) (b := 8) (pc' := 11) (by decide +kernel) rfl rfl rfl ?_
  refine pv_e_bk (ps := [(11, .aload_n 0, 1)]) (t' := (0, 0, 12, [some (.ref 0), none, none], [.ref 0, .ref 8, .ref 40], pv_mm s T)) (by decide +kernel) rfl ?_
  refine pv_e_gc (i := 43) (ci := 5) (j := 6) (pc' := 15) (by decide +kernel) (by decide) rfl rfl rfl ?_
  obtain ⟨s3, e1, h⟩ := Option.bind_eq_some_iff.mp h
  refine pv_e_cvf (d := d + 3) (i := 204) (z := 33) (np := 2) (ml := 4) (ci := 3) (As := [.ref 8, .int (s 0 6)]) (rs := []) (pc' := 18) (by decide +kernel) rfl rfl rfl rfl (Nat.le_of_ble_eq_true rfl) (Nat.le_of_ble_eq_true rfl) rfl (ee33 (d + 1) 8 (s 0 6) (by decide) e1) ?_
  refine pv_e_bk (ps := [(18, .astore_n 1, 1), (19, .iconst 0, 1), (20, .istore_n 2, 1)]) (t' := (0, 0, 21, [some (.ref 0), some (.ref 45), some (.int (0:Int32))], [], pv_mm s3 T)) (by decide +kernel) rfl ?_
  obtain ⟨o18, e17, h⟩ := Option.bind_eq_some_iff.mp h
  refine pv_lp_ok (H := f79_first_b1_H xs L d r T) (X := f79_first_b1_X xs L d r T) (Z := (fun q => (some (.int q.1), pv_mm q.2 T) = r)) (f79_first_b1_ok (xs := xs) (L := L) (d := d) (r := r) (T := T)) 20000 _ _ e17 ?_
  rcases o18 with ⟨w14, s15⟩ | q
  · dsimp only at h ⊢
    show ∀ z2 : Option Value, pv_Ev xs L (d + 4) 79 (0, 0, 60, [some (.ref 0), some (.ref 45), z2], [], pv_mm s15 T) r
    intro z2
    refine pv_e_bk (ps := [(60, .bipush (-9), 2)]) (t' := (0, 0, 62, [some (.ref 0), some (.ref 45), z2], [.int (-9:Int32)], pv_mm s15 T)) (by decide +kernel) rfl ?_
    obtain rfl := Option.some.inj h
    cases hr
    exact pv_e_ri (by decide +kernel)
  · dsimp only at h ⊢
    obtain rfl := Option.some.inj h
    exact hr
def f106_nameFinding_b1 (v0 : Nat) (s : pv_F) (st : Int32) : Option (Int32 ⊕ (Int32 ⊕ Int32)) := match st with
  | v1 =>
    if (s v0 2) ≤ v1 then
      some (.inr (.inl v1))
    else
      (pv_rd s (v0 + 1) (pv_an (v0 + 1)) v1).bind fun q5 =>
      (f216_isLetter q5).bind fun q8 =>
      if q8 = 0 then
        some (.inr (.inr (3:Int32)))
      else
        some (.inl (v1 + (1:Int32)))
def f106_nameFinding_b1_H (xs : Nat → Int32) (L d : Nat) (r : Option Value × pv_M) (T : pv_T) (v0 : Nat) (s : pv_F) (st : Int32) : Prop := match st with
  | v1 => pv_Ev xs L (d + 1) 106 (0, 0, 30, [some (.ref v0), some (.int v1)], [], pv_mm s T) r
def f106_nameFinding_b1_X (xs : Nat → Int32) (L d : Nat) (r : Option Value × pv_M) (T : pv_T) (v0 : Nat) (s : pv_F) (st : Int32) : Prop := match st with
  | v1 => ∀ z1 : Option Value, pv_Ev xs L (d + 1) 106 (0, 0, 58, [some (.ref v0), z1], [], pv_mm s T) r
def f106_nameFinding (x0 : Nat) (s : pv_F) : Option (Int32) :=
  if (s x0 1) = 0 then
    some (1:Int32)
  else
    if (s x0 2) < (1:Int32) then
      some (5:Int32)
    else
      if (s x0 2) ≤ (6:Int32) then
        (pv_lp (f106_nameFinding_b1 x0 s) 20000 (0:Int32)).bind fun o13 => match o13 with
          | .inl w10 =>
            some (0:Int32)
          | .inr q => some q
      else
        some (5:Int32)
theorem f106_nameFinding_b1_ok {xs : Nat → Int32} {L d : Nat} {r : Option Value × pv_M} {T : pv_T} {v0 : Nat} {s : pv_F} (g0 : v0 ∈ pv_rows) (st : Int32) (o : Int32 ⊕ (Int32 ⊕ Int32)) (h : f106_nameFinding_b1 v0 s st = some o) (hK : pv_Kp (f106_nameFinding_b1_H xs L d r T v0 s) (f106_nameFinding_b1_X xs L d r T v0 s) (fun q => (some (.int q), pv_mm s T) = r) o) : f106_nameFinding_b1_H xs L d r T v0 s st := by
  obtain ⟨v1, rfl⟩ : ∃ z, z = st := ⟨st, rfl⟩
  show pv_Ev xs L (d + 1) 106 (0, 0, 30, [some (.ref v0), some (.int v1)], [], pv_mm s T) r
  unfold f106_nameFinding_b1 at h
  dsimp only at h
  refine pv_e_bk (ps := [(30, .iload_n 1, 1), (31, .aload_n 0, 1)]) (t' := (0, 0, 32, [some (.ref v0), some (.int v1)], [.ref v0, .int v1], pv_mm s T)) (by decide +kernel) rfl ?_
  refine pv_e_gc (i := 92) (ci := 2) (j := 2) (pc' := 35) (by decide +kernel) (by have := (rw_ g0).2.2; omega) (rw_ g0).1 rfl rfl ?_
  refine pv_e_icmpge (off := 23) (b := 58) (pc' := 38) (by decide +kernel) (by decide +kernel) rfl (fun c4 => ?_) (fun c4 => ?_)
  · rw [if_pos c4] at h
    obtain rfl := Option.some.inj h
    exact hK _
  · rw [if_neg c4] at h
    refine pv_e_bk (ps := [(38, .aload_n 0, 1)]) (t' := (0, 0, 39, [some (.ref v0), some (.int v1)], [.ref v0], pv_mm s T)) (by decide +kernel) rfl ?_
    refine pv_e_gr (i := 75) (ci := 2) (j := 0) (b := v0 + 1) (pc' := 42) (by decide +kernel) (rw_ g0).1 rfl rfl ?_
    refine pv_e_bk (ps := [(42, .iload_n 1, 1)]) (t' := (0, 0, 43, [some (.ref v0), some (.int v1)], [.int v1, .ref (v0 + 1)], pv_mm s T)) (by decide +kernel) rfl ?_
    obtain ⟨q5, e6, h⟩ := Option.bind_eq_some_iff.mp h
    refine pv_e_rc (pc' := 44) (by decide +kernel) (rw_ g0).2.2 (rw_ g0).2.1 e6 rfl ?_
    obtain ⟨q8, e7, h⟩ := Option.bind_eq_some_iff.mp h
    refine pv_e_csi (d := d + 0) (i := 169) (z := 216) (np := 1) (ml := 1) (As := [.int q5]) (rs := []) (pc' := 47) (by decide +kernel) rfl rfl rfl (Nat.le_of_ble_eq_true rfl) (Nat.le_of_ble_eq_true rfl) rfl (ee216 (d + 0) q5 e7) ?_
    refine pv_e_ifne (off := 5) (b := 52) (pc' := 50) (by decide +kernel) (by decide +kernel) rfl (fun c9 => ?_) (fun c9 => ?_)
    · rw [if_pos c9] at h
      refine pv_e_bk (ps := [(50, .iconst 3, 1)]) (t' := (0, 0, 51, [some (.ref v0), some (.int v1)], [.int (3:Int32)], pv_mm s T)) (by decide +kernel) rfl ?_
      obtain rfl := Option.some.inj h
      cases hK
      exact pv_e_ri (by decide +kernel)
    · rw [if_neg c9] at h
      refine pv_e_bk (ps := [(52, .iinc 1 1, 3), (55, .goto (-25), 3)]) (t' := (0, 0, 30, [some (.ref v0), some (.int (v1 + (1:Int32)))], [], pv_mm s T)) (by decide +kernel) rfl ?_
      obtain rfl := Option.some.inj h
      exact hK
theorem ee106 {xs : Nat → Int32} {L : Nat} (d : Nat) (x0 : Nat) {s : pv_F} {T : pv_T} {q : Int32} (g0 : x0 ∈ pv_rows) (h : f106_nameFinding x0 s = some q) : pv_Ev xs L (d + 1) 106 (0, 0, 0, [some (.ref x0), none], [], pv_mm s T) (some (.int q), pv_mm s T) := by
  generalize hr : ((some (.int q), pv_mm s T) : Option Value × pv_M) = r
  unfold f106_nameFinding at h
  refine pv_e_bk (ps := [(0, .aload_n 0, 1)]) (t' := (0, 0, 1, [some (.ref x0), none], [.ref x0], pv_mm s T)) (by decide +kernel) rfl ?_
  refine pv_e_gc (i := 78) (ci := 2) (j := 1) (pc' := 4) (by decide +kernel) (by have := (rw_ g0).2.2; omega) (rw_ g0).1 rfl rfl ?_
  refine pv_e_ifne (off := 5) (b := 9) (pc' := 7) (by decide +kernel) (by decide +kernel) rfl (fun c1 => ?_) (fun c1 => ?_)
  · rw [if_pos c1] at h
    refine pv_e_bk (ps := [(7, .iconst 1, 1)]) (t' := (0, 0, 8, [some (.ref x0), none], [.int (1:Int32)], pv_mm s T)) (by decide +kernel) rfl ?_
    obtain rfl := Option.some.inj h
    cases hr
    exact pv_e_ri (by decide +kernel)
  · rw [if_neg c1] at h
    refine pv_e_bk (ps := [(9, .aload_n 0, 1)]) (t' := (0, 0, 10, [some (.ref x0), none], [.ref x0], pv_mm s T)) (by decide +kernel) rfl ?_
    refine pv_e_gc (i := 92) (ci := 2) (j := 2) (pc' := 13) (by decide +kernel) (by have := (rw_ g0).2.2; omega) (rw_ g0).1 rfl rfl ?_
    refine pv_e_bk (ps := [(13, .iconst 1, 1)]) (t' := (0, 0, 14, [some (.ref x0), none], [.int (1:Int32), .int (s x0 2)], pv_mm s T)) (by decide +kernel) rfl ?_
    refine pv_e_icmplt (off := 12) (b := 26) (pc' := 17) (by decide +kernel) (by decide +kernel) rfl (fun c2 => ?_) (fun c2 => ?_)
    · rw [if_pos c2] at h
      refine pv_e_bk (ps := [(26, .iconst 5, 1)]) (t' := (0, 0, 27, [some (.ref x0), none], [.int (5:Int32)], pv_mm s T)) (by decide +kernel) rfl ?_
      obtain rfl := Option.some.inj h
      cases hr
      exact pv_e_ri (by decide +kernel)
    · rw [if_neg c2] at h
      refine pv_e_bk (ps := [(17, .aload_n 0, 1)]) (t' := (0, 0, 18, [some (.ref x0), none], [.ref x0], pv_mm s T)) (by decide +kernel) rfl ?_
      refine pv_e_gc (i := 92) (ci := 2) (j := 2) (pc' := 21) (by decide +kernel) (by have := (rw_ g0).2.2; omega) (rw_ g0).1 rfl rfl ?_
      refine pv_e_bk (ps := [(21, .bipush 6, 2)]) (t' := (0, 0, 23, [some (.ref x0), none], [.int (6:Int32), .int (s x0 2)], pv_mm s T)) (by decide +kernel) rfl ?_
      refine pv_e_icmple (off := 5) (b := 28) (pc' := 26) (by decide +kernel) (by decide +kernel) rfl (fun c3 => ?_) (fun c3 => ?_)
      · rw [if_pos c3] at h
        refine pv_e_bk (ps := [(28, .iconst 0, 1), (29, .istore_n 1, 1)]) (t' := (0, 0, 30, [some (.ref x0), some (.int (0:Int32))], [], pv_mm s T)) (by decide +kernel) rfl ?_
        obtain ⟨o13, e12, h⟩ := Option.bind_eq_some_iff.mp h
        refine pv_lp_ok (H := f106_nameFinding_b1_H xs L d r T x0 s) (X := f106_nameFinding_b1_X xs L d r T x0 s) (Z := (fun q => (some (.int q), pv_mm s T) = r)) (f106_nameFinding_b1_ok (xs := xs) (L := L) (d := d) (r := r) (T := T) (v0 := x0) (s := s) g0) 20000 _ _ e12 ?_
        rcases o13 with w10 | q
        · dsimp only at h ⊢
          show ∀ z1 : Option Value, pv_Ev xs L (d + 1) 106 (0, 0, 58, [some (.ref x0), z1], [], pv_mm s T) r
          intro z1
          refine pv_e_bk (ps := [(58, .iconst 0, 1)]) (t' := (0, 0, 59, [some (.ref x0), z1], [.int (0:Int32)], pv_mm s T)) (by decide +kernel) rfl ?_
          obtain rfl := Option.some.inj h
          cases hr
          exact pv_e_ri (by decide +kernel)
        · dsimp only at h ⊢
          obtain rfl := Option.some.inj h
          exact hr
      · rw [if_neg c3] at h
        refine pv_e_bk (ps := [(26, .iconst 5, 1)]) (t' := (0, 0, 27, [some (.ref x0), none], [.int (5:Int32)], pv_mm s T)) (by decide +kernel) rfl ?_
        obtain rfl := Option.some.inj h
        cases hr
        exact pv_e_ri (by decide +kernel)
def f80_name (x1 : Int32) (s : pv_F) : Option (Int32 × pv_F) :=
  (f100_isText x1).bind fun q2 =>
  if q2 = 0 then
    some ((-1:Int32), s)
  else
    (pv_ra 2 4 x1).bind fun o4 =>
    (f106_nameFinding o4 s).bind fun q8 =>
    if q8 = 0 then
      (pv_ra 2 4 x1).bind fun o10 =>
      (f30_spelling o10 s).bind fun q14 =>
      (f19_callsTillTaken 8 q14 (0:Int32) (s 0 6) s).bind fun q16 =>
      some (q16, s)
    else
      (f104_find q8 s).bind fun (q18, s19) =>
      some (q18, s19)
theorem ee80 {xs : Nat → Int32} {L : Nat} (d : Nat) (x1 : Int32) {s : pv_F} {T : pv_T} {q : Int32 × pv_F}  (h : f80_name x1 s = some q) : pv_Ev xs L (d + 3) 80 (0, 0, 0, [some (.ref 0), some (.int x1), none], [], pv_mm s T) (some (.int q.1), pv_mm q.2 T) := by
  generalize hr : ((some (.int q.1), pv_mm q.2 T) : Option Value × pv_M) = r
  unfold f80_name at h
  refine pv_e_bk (ps := [(0, .iload_n 1, 1)]) (t' := (0, 0, 1, [some (.ref 0), some (.int x1), none], [.int x1], pv_mm s T)) (by decide +kernel) rfl ?_
  obtain ⟨q2, e1, h⟩ := Option.bind_eq_some_iff.mp h
  refine pv_e_csi (d := d + 2) (i := 99) (z := 100) (np := 1) (ml := 1) (As := [.int x1]) (rs := []) (pc' := 4) (by decide +kernel) rfl rfl rfl (Nat.le_of_ble_eq_true rfl) (Nat.le_of_ble_eq_true rfl) rfl (ee100 (d + 2) x1 e1) ?_
  refine pv_e_ifne (off := 5) (b := 9) (pc' := 7) (by decide +kernel) (by decide +kernel) rfl (fun c3 => ?_) (fun c3 => ?_)
  · rw [if_pos c3] at h
    refine pv_e_bk (ps := [(7, .iconst (-1), 1)]) (t' := (0, 0, 8, [some (.ref 0), some (.int x1), none], [.int (-1:Int32)], pv_mm s T)) (by decide +kernel) rfl ?_
    obtain rfl := Option.some.inj h
    cases hr
    exact pv_e_ri (by decide +kernel)
  · rw [if_neg c3] at h
    refine pv_e_bk (ps := [(9, .aload_n 0, 1)]) (t' := (0, 0, 10, [some (.ref 0), some (.int x1), none], [.ref 0], pv_mm s T)) (by decide +kernel) rfl ?_
    refine pv_e_gr (i := 15) (ci := 5) (j := 1) (b := 2) (pc' := 13) (by decide +kernel) rfl rfl rfl ?_
    refine pv_e_bk (ps := [(13, .iload_n 1, 1)]) (t' := (0, 0, 14, [some (.ref 0), some (.int x1), none], [.int x1, .ref 2], pv_mm s T)) (by decide +kernel) rfl ?_
    obtain ⟨o4, e5, h⟩ := Option.bind_eq_some_iff.mp h
    have g6 := ra_texts e5
    refine pv_e_ra (zz := 4) (pc' := 15) (by decide +kernel) rfl (by decide) e5 rfl ?_
    obtain ⟨q8, e7, h⟩ := Option.bind_eq_some_iff.mp h
    refine pv_e_csi (d := d + 2) (i := 221) (z := 106) (np := 1) (ml := 2) (As := [.ref o4]) (rs := []) (pc' := 18) (by decide +kernel) rfl rfl rfl (Nat.le_of_ble_eq_true rfl) (Nat.le_of_ble_eq_true rfl) rfl (ee106 (d + 1) o4 g6 e7) ?_
    refine pv_e_bk (ps := [(18, .istore_n 2, 1), (19, .iload_n 2, 1)]) (t' := (0, 0, 20, [some (.ref 0), some (.int x1), some (.int q8)], [.int q8], pv_mm s T)) (by decide +kernel) rfl ?_
    refine pv_e_ifeq (off := 9) (b := 29) (pc' := 23) (by decide +kernel) (by decide +kernel) rfl (fun c9 => ?_) (fun c9 => ?_)
    · rw [if_pos c9] at h
      refine pv_e_bk (ps := [(29, .aload_n 0, 1)]) (t' := (0, 0, 30, [some (.ref 0), some (.int x1), some (.int q8)], [.ref 0], pv_mm s T)) (by decide +kernel) rfl ?_
      refine pv_e_gr (i := 21) (ci := 5) (j := 2) (b := 3) (pc' := 33) (by decide +kernel) rfl rfl rfl ?_
      refine pv_e_gr (i := 109) (ci := 4) (j := 1) (b := 8) (pc' := 36) (by decide +kernel) rfl rfl rfl ?_
      refine pv_e_bk (ps := [(36, .aload_n 0, 1)]) (t' := (0, 0, 37, [some (.ref 0), some (.int x1), some (.int q8)], [.ref 0, .ref 8], pv_mm s T)) (by decide +kernel) rfl ?_
      refine pv_e_gr (i := 15) (ci := 5) (j := 1) (b := 2) (pc' := 40) (by decide +kernel) rfl rfl rfl ?_
      refine pv_e_bk (ps := [(40, .iload_n 1, 1)]) (t' := (0, 0, 41, [some (.ref 0), some (.int x1), some (.int q8)], [.int x1, .ref 2, .ref 8], pv_mm s T)) (by decide +kernel) rfl ?_
      obtain ⟨o10, e11, h⟩ := Option.bind_eq_some_iff.mp h
      have g12 := ra_texts e11
      refine pv_e_ra (zz := 4) (pc' := 42) (by decide +kernel) rfl (by decide) e11 rfl ?_
      obtain ⟨q14, e13, h⟩ := Option.bind_eq_some_iff.mp h
      refine pv_e_cvi (d := d + 2) (i := 224) (z := 30) (np := 0) (ml := 3) (ci := 2) (As := []) (rs := [.ref 8]) (pc' := 45) (by decide +kernel) (rw_ g12).1 rfl rfl rfl (Nat.le_of_ble_eq_true rfl) (Nat.le_of_ble_eq_true rfl) rfl (ee30 (d + 0) o10 g12 e13) ?_
      refine pv_e_bk (ps := [(45, .iconst 0, 1), (46, .aload_n 0, 1)]) (t' := (0, 0, 47, [some (.ref 0), some (.int x1), some (.int q8)], [.ref 0, .int (0:Int32), .int q14, .ref 8], pv_mm s T)) (by decide +kernel) rfl ?_
      refine pv_e_gc (i := 43) (ci := 5) (j := 6) (pc' := 50) (by decide +kernel) (by decide) rfl rfl rfl ?_
      obtain ⟨q16, e15, h⟩ := Option.bind_eq_some_iff.mp h
      refine pv_e_cvi (d := d + 2) (i := 227) (z := 19) (np := 3) (ml := 6) (ci := 1) (As := [.int q14, .int (0:Int32), .int (s 0 6)]) (rs := []) (pc' := 53) (by decide +kernel) rfl rfl rfl rfl (Nat.le_of_ble_eq_true rfl) (Nat.le_of_ble_eq_true rfl) rfl (ee19 (d + 0) 8 q14 (0:Int32) (s 0 6) (by decide) e15) ?_
      obtain rfl := Option.some.inj h
      cases hr
      exact pv_e_ri (by decide +kernel)
    · rw [if_neg c9] at h
      refine pv_e_bk (ps := [(23, .aload_n 0, 1), (24, .iload_n 2, 1)]) (t' := (0, 0, 25, [some (.ref 0), some (.int x1), some (.int q8)], [.int q8, .ref 0], pv_mm s T)) (by decide +kernel) rfl ?_
      obtain ⟨⟨q18, s19⟩, e17, h⟩ := Option.bind_eq_some_iff.mp h
      dsimp only at h
      refine pv_e_cvi (d := d + 2) (i := 63) (z := 104) (np := 1) (ml := 2) (ci := 5) (As := [.int q8]) (rs := []) (pc' := 28) (by decide +kernel) rfl rfl rfl rfl (Nat.le_of_ble_eq_true rfl) (Nat.le_of_ble_eq_true rfl) rfl (ee104 (d + 2) q8 e17) ?_
      obtain rfl := Option.some.inj h
      cases hr
      exact pv_e_ri (by decide +kernel)
def f81_best_b1 (v1 : Int32) (s : pv_F) (st : Int32 × Int32 × Int32) : Option ((Int32 × Int32 × Int32) ⊕ (Int32 × Int32 × Int32)) := match st with
  | (v2, v3, v4) =>
    if (26:Int32) < v4 then
      some (.inr (v2, v3, v4))
    else
      (pv_rd s 10 7 v1).bind fun q8 =>
      (f221_with q8 v4).bind fun q11 =>
      (f19_callsTillTaken 8 q11 ((1:Int32) <<< (v1 &&& 31)) (s 0 6) s).bind fun q13 =>
      ((
        if q13 ≤ v3 then
          some (v2, v3)
        else
          some (v4, q13)) : Option (Int32 × Int32)).bind fun (v14, v15) =>
      some (.inl (v14, v15, v4 + (1:Int32)))
def f81_best_b1_H (xs : Nat → Int32) (L d : Nat) (r : Option Value × pv_M) (T : pv_T) (v1 : Int32) (s : pv_F) (st : Int32 × Int32 × Int32) : Prop := match st with
  | (v2, v3, v4) => ∀ z5 : Option Value, pv_Ev xs L (d + 3) 81 (0, 0, 35, [some (.ref 0), some (.int v1), some (.int v2), some (.int v3), some (.int v4), z5], [], pv_mm s T) r
def f81_best_b1_X (xs : Nat → Int32) (L d : Nat) (r : Option Value × pv_M) (T : pv_T) (v1 : Int32) (s : pv_F) (st : Int32 × Int32 × Int32) : Prop := match st with
  | (v2, v3, v4) => ∀ z4 : Option Value, ∀ z5 : Option Value, pv_Ev xs L (d + 3) 81 (0, 0, 96, [some (.ref 0), some (.int v1), some (.int v2), some (.int v3), z4, z5], [], pv_mm s T) r
def f81_best (x1 : Int32) (s : pv_F) : Option (Int32 × pv_F) :=
  (f102_isPerson x1 s).bind fun q2 =>
  if q2 = 0 then
    some ((-1:Int32), s)
  else
    (f11_canGrow 8 x1 (1:Int32) s).bind fun q5 =>
    if q5 = 0 then
      some ((-4:Int32), s)
    else
      (pv_lq (f81_best_b1 x1 s) 20000 ((1:Int32), (-1:Int32), (1:Int32))).bind fun (w19, w20, w21) =>
      (pv_pf s 0 8 w20).bind fun s22 =>
      some ((96:Int32) + w19, s22)
theorem f81_best_b1_ok {xs : Nat → Int32} {L d : Nat} {r : Option Value × pv_M} {T : pv_T} {v1 : Int32} {s : pv_F} (st : Int32 × Int32 × Int32) (o : (Int32 × Int32 × Int32) ⊕ (Int32 × Int32 × Int32)) (h : f81_best_b1 v1 s st = some o) (hK : pv_Kq (f81_best_b1_H xs L d r T v1 s) (f81_best_b1_X xs L d r T v1 s) o) : f81_best_b1_H xs L d r T v1 s st := by
  obtain ⟨v2, v3, v4⟩ := st
  show ∀ z5 : Option Value, pv_Ev xs L (d + 3) 81 (0, 0, 35, [some (.ref 0), some (.int v1), some (.int v2), some (.int v3), some (.int v4), z5], [], pv_mm s T) r
  intro z5
  unfold f81_best_b1 at h
  dsimp only at h
  refine pv_e_bk (ps := [(35, .iload 4, 2), (37, .bipush 26, 2)]) (t' := (0, 0, 39, [some (.ref 0), some (.int v1), some (.int v2), some (.int v3), some (.int v4), z5], [.int (26:Int32), .int v4], pv_mm s T)) (by decide +kernel) rfl ?_
  refine pv_e_icmpgt (off := 57) (b := 96) (pc' := 42) (by decide +kernel) (by decide +kernel) rfl (fun c7 => ?_) (fun c7 => ?_)
  · rw [if_pos c7] at h
    obtain rfl := Option.some.inj h
    exact hK _ _
  · rw [if_neg c7] at h
    refine pv_e_bk (ps := [(42, .aload_n 0, 1)]) (t' := (0, 0, 43, [some (.ref 0), some (.int v1), some (.int v2), some (.int v3), some (.int v4), z5], [.ref 0], pv_mm s T)) (by decide +kernel) rfl ?_
    refine pv_e_gr (i := 21) (ci := 5) (j := 2) (b := 3) (pc' := 46) (by decide +kernel) rfl rfl rfl ?_
    refine pv_e_gr (i := 109) (ci := 4) (j := 1) (b := 8) (pc' := 49) (by decide +kernel) rfl rfl rfl ?_
    refine pv_e_bk (ps := [(49, .aload_n 0, 1)]) (t' := (0, 0, 50, [some (.ref 0), some (.int v1), some (.int v2), some (.int v3), some (.int v4), z5], [.ref 0, .ref 8], pv_mm s T)) (by decide +kernel) rfl ?_
    refine pv_e_gr (i := 21) (ci := 5) (j := 2) (b := 3) (pc' := 53) (by decide +kernel) rfl rfl rfl ?_
    refine pv_e_gr (i := 109) (ci := 4) (j := 1) (b := 8) (pc' := 56) (by decide +kernel) rfl rfl rfl ?_
    refine pv_e_gr (i := 120) (ci := 1) (j := 1) (b := 10) (pc' := 59) (by decide +kernel) rfl rfl rfl ?_
    refine pv_e_bk (ps := [(59, .iload_n 1, 1)]) (t' := (0, 0, 60, [some (.ref 0), some (.int v1), some (.int v2), some (.int v3), some (.int v4), z5], [.int v1, .ref 10, .ref 8], pv_mm s T)) (by decide +kernel) rfl ?_
    obtain ⟨q8, e9, h⟩ := Option.bind_eq_some_iff.mp h
    refine pv_e_rc (pc' := 61) (by decide +kernel) (by decide) rfl e9 rfl ?_
    refine pv_e_bk (ps := [(61, .iload 4, 2)]) (t' := (0, 0, 63, [some (.ref 0), some (.int v1), some (.int v2), some (.int v3), some (.int v4), z5], [.int v4, .int q8, .ref 8], pv_mm s T)) (by decide +kernel) rfl ?_
    obtain ⟨q11, e10, h⟩ := Option.bind_eq_some_iff.mp h
    refine pv_e_csi (d := d + 2) (i := 230) (z := 221) (np := 2) (ml := 2) (As := [.int q8, .int v4]) (rs := [.ref 8]) (pc' := 66) (by decide +kernel) rfl rfl rfl (Nat.le_of_ble_eq_true rfl) (Nat.le_of_ble_eq_true rfl) rfl (ee221 (d + 1) q8 v4 e10) ?_
    refine pv_e_bk (ps := [(66, .iconst 1, 1), (67, .iload_n 1, 1), (68, .ishl, 1), (69, .aload_n 0, 1)]) (t' := (0, 0, 70, [some (.ref 0), some (.int v1), some (.int v2), some (.int v3), some (.int v4), z5], [.ref 0, .int ((1:Int32) <<< (v1 &&& 31)), .int q11, .ref 8], pv_mm s T)) (by decide +kernel) rfl ?_
    refine pv_e_gc (i := 43) (ci := 5) (j := 6) (pc' := 73) (by decide +kernel) (by decide) rfl rfl rfl ?_
    obtain ⟨q13, e12, h⟩ := Option.bind_eq_some_iff.mp h
    refine pv_e_cvi (d := d + 2) (i := 227) (z := 19) (np := 3) (ml := 6) (ci := 1) (As := [.int q11, .int ((1:Int32) <<< (v1 &&& 31)), .int (s 0 6)]) (rs := []) (pc' := 76) (by decide +kernel) rfl rfl rfl rfl (Nat.le_of_ble_eq_true rfl) (Nat.le_of_ble_eq_true rfl) rfl (ee19 (d + 0) 8 q11 ((1:Int32) <<< (v1 &&& 31)) (s 0 6) (by decide) e12) ?_
    refine pv_e_bk (ps := [(76, .istore 5, 2), (78, .iload 5, 2), (80, .iload_n 3, 1)]) (t' := (0, 0, 81, [some (.ref 0), some (.int v1), some (.int v2), some (.int v3), some (.int v4), some (.int q13)], [.int v3, .int q13], pv_mm s T)) (by decide +kernel) rfl ?_
    obtain ⟨⟨v14, v15⟩, hv16, h⟩ := Option.bind_eq_some_iff.mp h
    dsimp only at h
    have hJ17 : pv_Ev xs L (d + 3) 81 (0, 0, 90, [some (.ref 0), some (.int v1), some (.int v14), some (.int v15), some (.int v4), some (.int q13)], [], pv_mm s T) r := by
      refine pv_e_bk (ps := [(90, .iinc 4 1, 3), (93, .goto (-58), 3)]) (t' := (0, 0, 35, [some (.ref 0), some (.int v1), some (.int v14), some (.int v15), some (.int (v4 + (1:Int32))), some (.int q13)], [], pv_mm s T)) (by decide +kernel) rfl ?_
      obtain rfl := Option.some.inj h
      exact hK _
    clear h
    have h := hv16
    clear hv16
    refine pv_e_icmple (off := 9) (b := 90) (pc' := 84) (by decide +kernel) (by decide +kernel) rfl (fun c18 => ?_) (fun c18 => ?_)
    · rw [if_pos c18] at h
      cases h
      exact hJ17
    · rw [if_neg c18] at h
      refine pv_e_bk (ps := [(84, .iload 5, 2), (86, .istore_n 3, 1), (87, .iload 4, 2), (89, .istore_n 2, 1)]) (t' := (0, 0, 90, [some (.ref 0), some (.int v1), some (.int v4), some (.int q13), some (.int v4), some (.int q13)], [], pv_mm s T)) (by decide +kernel) rfl ?_
      cases h
      exact hJ17
theorem ee81 {xs : Nat → Int32} {L : Nat} (d : Nat) (x1 : Int32) {s : pv_F} {T : pv_T} {q : Int32 × pv_F}  (h : f81_best x1 s = some q) : pv_Ev xs L (d + 3) 81 (0, 0, 0, [some (.ref 0), some (.int x1), none, none, none, none], [], pv_mm s T) (some (.int q.1), pv_mm q.2 T) := by
  generalize hr : ((some (.int q.1), pv_mm q.2 T) : Option Value × pv_M) = r
  unfold f81_best at h
  refine pv_e_bk (ps := [(0, .aload_n 0, 1), (1, .iload_n 1, 1)]) (t' := (0, 0, 2, [some (.ref 0), some (.int x1), none, none, none, none], [.int x1, .ref 0], pv_mm s T)) (by decide +kernel) rfl ?_
  obtain ⟨q2, e1, h⟩ := Option.bind_eq_some_iff.mp h
  refine pv_e_cvi (d := d + 2) (i := 113) (z := 102) (np := 1) (ml := 2) (ci := 5) (As := [.int x1]) (rs := []) (pc' := 5) (by decide +kernel) rfl rfl rfl rfl (Nat.le_of_ble_eq_true rfl) (Nat.le_of_ble_eq_true rfl) rfl (ee102 (d + 2) x1 e1) ?_
  refine pv_e_ifne (off := 5) (b := 10) (pc' := 8) (by decide +kernel) (by decide +kernel) rfl (fun c3 => ?_) (fun c3 => ?_)
  · rw [if_pos c3] at h
    refine pv_e_bk (ps := [(8, .iconst (-1), 1)]) (t' := (0, 0, 9, [some (.ref 0), some (.int x1), none, none, none, none], [.int (-1:Int32)], pv_mm s T)) (by decide +kernel) rfl ?_
    obtain rfl := Option.some.inj h
    cases hr
    exact pv_e_ri (by decide +kernel)
  · rw [if_neg c3] at h
    refine pv_e_bk (ps := [(10, .aload_n 0, 1)]) (t' := (0, 0, 11, [some (.ref 0), some (.int x1), none, none, none, none], [.ref 0], pv_mm s T)) (by decide +kernel) rfl ?_
    refine pv_e_gr (i := 21) (ci := 5) (j := 2) (b := 3) (pc' := 14) (by decide +kernel) rfl rfl rfl ?_
    refine pv_e_gr (i := 109) (ci := 4) (j := 1) (b := 8) (pc' := 17) (by decide +kernel) rfl rfl rfl ?_
    refine pv_e_bk (ps := [(17, .iload_n 1, 1), (18, .iconst 1, 1)]) (t' := (0, 0, 19, [some (.ref 0), some (.int x1), none, none, none, none], [.int (1:Int32), .int x1, .ref 8], pv_mm s T)) (by decide +kernel) rfl ?_
    obtain ⟨q5, e4, h⟩ := Option.bind_eq_some_iff.mp h
    refine pv_e_cvi (d := d + 2) (i := 172) (z := 11) (np := 2) (ml := 3) (ci := 1) (As := [.int x1, .int (1:Int32)]) (rs := []) (pc' := 22) (by decide +kernel) rfl rfl rfl rfl (Nat.le_of_ble_eq_true rfl) (Nat.le_of_ble_eq_true rfl) rfl (ee11 (d + 1) 8 x1 (1:Int32) (by decide) e4) ?_
    refine pv_e_ifne (off := 6) (b := 28) (pc' := 25) (by decide +kernel) (by decide +kernel) rfl (fun c6 => ?_) (fun c6 => ?_)
    · rw [if_pos c6] at h
      refine pv_e_bk (ps := [(25, .bipush (-4), 2)]) (t' := (0, 0, 27, [some (.ref 0), some (.int x1), none, none, none, none], [.int (-4:Int32)], pv_mm s T)) (by decide +kernel) rfl ?_
      obtain rfl := Option.some.inj h
      cases hr
      exact pv_e_ri (by decide +kernel)
    · rw [if_neg c6] at h
      refine pv_e_bk (ps := [(28, .iconst 1, 1), (29, .istore_n 2, 1), (30, .iconst (-1), 1), (31, .istore_n 3, 1), (32, .iconst 1, 1), (33, .istore 4, 2)]) (t' := (0, 0, 35, [some (.ref 0), some (.int x1), some (.int (1:Int32)), some (.int (-1:Int32)), some (.int (1:Int32)), none], [], pv_mm s T)) (by decide +kernel) rfl ?_
      obtain ⟨⟨w19, w20, w21⟩, e25, h⟩ := Option.bind_eq_some_iff.mp h
      dsimp only at h
      have hx24 : f81_best_b1_X xs L d r T x1 s (w19, w20, w21) := by
        show ∀ z4 : Option Value, ∀ z5 : Option Value, pv_Ev xs L (d + 3) 81 (0, 0, 96, [some (.ref 0), some (.int x1), some (.int w19), some (.int w20), z4, z5], [], pv_mm s T) r
        intro z4 z5
        refine pv_e_bk (ps := [(96, .aload_n 0, 1), (97, .iload_n 3, 1)]) (t' := (0, 0, 98, [some (.ref 0), some (.int x1), some (.int w19), some (.int w20), z4, z5], [.int w20, .ref 0], pv_mm s T)) (by decide +kernel) rfl ?_
        obtain ⟨s22, e23, h⟩ := Option.bind_eq_some_iff.mp h
        refine pv_e_pcs (i := 50) (ci := 5) (j := 8) (pc' := 101) (by decide +kernel) rfl rfl (by decide) rfl rfl e23 rfl ?_
        refine pv_e_bk (ps := [(101, .bipush 96, 2), (103, .iload_n 2, 1), (104, .iadd, 1)]) (t' := (0, 0, 105, [some (.ref 0), some (.int x1), some (.int w19), some (.int w20), z4, z5], [.int ((96:Int32) + w19)], pv_mm s22 T)) (by decide +kernel) rfl ?_
        obtain rfl := Option.some.inj h
        cases hr
        exact pv_e_ri (by decide +kernel)
      exact pv_lq_ok (H := f81_best_b1_H xs L d r T x1 s) (X := f81_best_b1_X xs L d r T x1 s) (f81_best_b1_ok (xs := xs) (L := L) (d := d) (r := r) (T := T) (v1 := x1) (s := s)) 20000 _ _ e25 hx24 _
def f107_numbersFinding_b1 (v0 : Nat) (v2 : Int32) (s : pv_F) (st : Int32) : Option (Int32 ⊕ (Int32 ⊕ Int32)) := match st with
  | v3 =>
    if (s v0 2) ≤ v3 then
      some (.inr (.inl v3))
    else
      (pv_rd s (v0 + 1) (pv_an (v0 + 1)) v3).bind fun q4 =>
      if q4 < 0 then
        some (.inr (.inr (3:Int32)))
      else
        (pv_rd s (v0 + 1) (pv_an (v0 + 1)) v3).bind fun q7 =>
        if q7 < v2 then
          some (.inl (v3 + (1:Int32)))
        else
          some (.inr (.inr (3:Int32)))
def f107_numbersFinding_b1_H (xs : Nat → Int32) (L d : Nat) (r : Option Value × pv_M) (T : pv_T) (v0 : Nat) (v2 : Int32) (s : pv_F) (v1 : Int32) (st : Int32) : Prop := match st with
  | v3 => pv_Ev xs L (d + 0) 107 (0, 0, 21, [some (.ref v0), some (.int v1), some (.int v2), some (.int v3)], [], pv_mm s T) r
def f107_numbersFinding_b1_X (xs : Nat → Int32) (L d : Nat) (r : Option Value × pv_M) (T : pv_T) (v0 : Nat) (v2 : Int32) (s : pv_F) (v1 : Int32) (st : Int32) : Prop := match st with
  | v3 => ∀ z3 : Option Value, pv_Ev xs L (d + 0) 107 (0, 0, 56, [some (.ref v0), some (.int v1), some (.int v2), z3], [], pv_mm s T) r
def f107_numbersFinding (x0 : Nat) (x1 : Int32) (x2 : Int32) (s : pv_F) : Option (Int32) :=
  if (s x0 1) = 0 then
    some (1:Int32)
  else
    if (s x0 2) ≤ x1 then
      (pv_lp (f107_numbersFinding_b1 x0 x2 s) 20000 (0:Int32)).bind fun o13 => match o13 with
        | .inl w10 =>
          some (0:Int32)
        | .inr q => some q
    else
      some (5:Int32)
theorem f107_numbersFinding_b1_ok {xs : Nat → Int32} {L d : Nat} {r : Option Value × pv_M} {T : pv_T} {v0 : Nat} {v2 : Int32} {s : pv_F} {v1 : Int32} (g0 : v0 ∈ pv_rows) (st : Int32) (o : Int32 ⊕ (Int32 ⊕ Int32)) (h : f107_numbersFinding_b1 v0 v2 s st = some o) (hK : pv_Kp (f107_numbersFinding_b1_H xs L d r T v0 v2 s v1) (f107_numbersFinding_b1_X xs L d r T v0 v2 s v1) (fun q => (some (.int q), pv_mm s T) = r) o) : f107_numbersFinding_b1_H xs L d r T v0 v2 s v1 st := by
  obtain ⟨v3, rfl⟩ : ∃ z, z = st := ⟨st, rfl⟩
  show pv_Ev xs L (d + 0) 107 (0, 0, 21, [some (.ref v0), some (.int v1), some (.int v2), some (.int v3)], [], pv_mm s T) r
  unfold f107_numbersFinding_b1 at h
  dsimp only at h
  refine pv_e_bk (ps := [(21, .iload_n 3, 1), (22, .aload_n 0, 1)]) (t' := (0, 0, 23, [some (.ref v0), some (.int v1), some (.int v2), some (.int v3)], [.ref v0, .int v3], pv_mm s T)) (by decide +kernel) rfl ?_
  refine pv_e_gc (i := 92) (ci := 2) (j := 2) (pc' := 26) (by decide +kernel) (by have := (rw_ g0).2.2; omega) (rw_ g0).1 rfl rfl ?_
  refine pv_e_icmpge (off := 30) (b := 56) (pc' := 29) (by decide +kernel) (by decide +kernel) rfl (fun c3 => ?_) (fun c3 => ?_)
  · rw [if_pos c3] at h
    obtain rfl := Option.some.inj h
    exact hK _
  · rw [if_neg c3] at h
    refine pv_e_bk (ps := [(29, .aload_n 0, 1)]) (t' := (0, 0, 30, [some (.ref v0), some (.int v1), some (.int v2), some (.int v3)], [.ref v0], pv_mm s T)) (by decide +kernel) rfl ?_
    refine pv_e_gr (i := 75) (ci := 2) (j := 0) (b := v0 + 1) (pc' := 33) (by decide +kernel) (rw_ g0).1 rfl rfl ?_
    refine pv_e_bk (ps := [(33, .iload_n 3, 1)]) (t' := (0, 0, 34, [some (.ref v0), some (.int v1), some (.int v2), some (.int v3)], [.int v3, .ref (v0 + 1)], pv_mm s T)) (by decide +kernel) rfl ?_
    obtain ⟨q4, e5, h⟩ := Option.bind_eq_some_iff.mp h
    refine pv_e_rc (pc' := 35) (by decide +kernel) (rw_ g0).2.2 (rw_ g0).2.1 e5 rfl ?_
    refine pv_e_iflt (off := 13) (b := 48) (pc' := 38) (by decide +kernel) (by decide +kernel) rfl (fun c6 => ?_) (fun c6 => ?_)
    · rw [if_pos c6] at h
      refine pv_e_bk (ps := [(48, .iconst 3, 1)]) (t' := (0, 0, 49, [some (.ref v0), some (.int v1), some (.int v2), some (.int v3)], [.int (3:Int32)], pv_mm s T)) (by decide +kernel) rfl ?_
      obtain rfl := Option.some.inj h
      cases hK
      exact pv_e_ri (by decide +kernel)
    · rw [if_neg c6] at h
      refine pv_e_bk (ps := [(38, .aload_n 0, 1)]) (t' := (0, 0, 39, [some (.ref v0), some (.int v1), some (.int v2), some (.int v3)], [.ref v0], pv_mm s T)) (by decide +kernel) rfl ?_
      refine pv_e_gr (i := 75) (ci := 2) (j := 0) (b := v0 + 1) (pc' := 42) (by decide +kernel) (rw_ g0).1 rfl rfl ?_
      refine pv_e_bk (ps := [(42, .iload_n 3, 1)]) (t' := (0, 0, 43, [some (.ref v0), some (.int v1), some (.int v2), some (.int v3)], [.int v3, .ref (v0 + 1)], pv_mm s T)) (by decide +kernel) rfl ?_
      obtain ⟨q7, e8, h⟩ := Option.bind_eq_some_iff.mp h
      refine pv_e_rc (pc' := 44) (by decide +kernel) (rw_ g0).2.2 (rw_ g0).2.1 e8 rfl ?_
      refine pv_e_bk (ps := [(44, .iload_n 2, 1)]) (t' := (0, 0, 45, [some (.ref v0), some (.int v1), some (.int v2), some (.int v3)], [.int v2, .int q7], pv_mm s T)) (by decide +kernel) rfl ?_
      refine pv_e_icmplt (off := 5) (b := 50) (pc' := 48) (by decide +kernel) (by decide +kernel) rfl (fun c9 => ?_) (fun c9 => ?_)
      · rw [if_pos c9] at h
        refine pv_e_bk (ps := [(50, .iinc 3 1, 3), (53, .goto (-32), 3)]) (t' := (0, 0, 21, [some (.ref v0), some (.int v1), some (.int v2), some (.int (v3 + (1:Int32)))], [], pv_mm s T)) (by decide +kernel) rfl ?_
        obtain rfl := Option.some.inj h
        exact hK
      · rw [if_neg c9] at h
        refine pv_e_bk (ps := [(48, .iconst 3, 1)]) (t' := (0, 0, 49, [some (.ref v0), some (.int v1), some (.int v2), some (.int v3)], [.int (3:Int32)], pv_mm s T)) (by decide +kernel) rfl ?_
        obtain rfl := Option.some.inj h
        cases hK
        exact pv_e_ri (by decide +kernel)
theorem ee107 {xs : Nat → Int32} {L : Nat} (d : Nat) (x0 : Nat) (x1 : Int32) (x2 : Int32) {s : pv_F} {T : pv_T} {q : Int32} (g0 : x0 ∈ pv_rows) (h : f107_numbersFinding x0 x1 x2 s = some q) : pv_Ev xs L (d + 0) 107 (0, 0, 0, [some (.ref x0), some (.int x1), some (.int x2), none], [], pv_mm s T) (some (.int q), pv_mm s T) := by
  generalize hr : ((some (.int q), pv_mm s T) : Option Value × pv_M) = r
  unfold f107_numbersFinding at h
  refine pv_e_bk (ps := [(0, .aload_n 0, 1)]) (t' := (0, 0, 1, [some (.ref x0), some (.int x1), some (.int x2), none], [.ref x0], pv_mm s T)) (by decide +kernel) rfl ?_
  refine pv_e_gc (i := 78) (ci := 2) (j := 1) (pc' := 4) (by decide +kernel) (by have := (rw_ g0).2.2; omega) (rw_ g0).1 rfl rfl ?_
  refine pv_e_ifne (off := 5) (b := 9) (pc' := 7) (by decide +kernel) (by decide +kernel) rfl (fun c1 => ?_) (fun c1 => ?_)
  · rw [if_pos c1] at h
    refine pv_e_bk (ps := [(7, .iconst 1, 1)]) (t' := (0, 0, 8, [some (.ref x0), some (.int x1), some (.int x2), none], [.int (1:Int32)], pv_mm s T)) (by decide +kernel) rfl ?_
    obtain rfl := Option.some.inj h
    cases hr
    exact pv_e_ri (by decide +kernel)
  · rw [if_neg c1] at h
    refine pv_e_bk (ps := [(9, .aload_n 0, 1)]) (t' := (0, 0, 10, [some (.ref x0), some (.int x1), some (.int x2), none], [.ref x0], pv_mm s T)) (by decide +kernel) rfl ?_
    refine pv_e_gc (i := 92) (ci := 2) (j := 2) (pc' := 13) (by decide +kernel) (by have := (rw_ g0).2.2; omega) (rw_ g0).1 rfl rfl ?_
    refine pv_e_bk (ps := [(13, .iload_n 1, 1)]) (t' := (0, 0, 14, [some (.ref x0), some (.int x1), some (.int x2), none], [.int x1, .int (s x0 2)], pv_mm s T)) (by decide +kernel) rfl ?_
    refine pv_e_icmple (off := 5) (b := 19) (pc' := 17) (by decide +kernel) (by decide +kernel) rfl (fun c2 => ?_) (fun c2 => ?_)
    · rw [if_pos c2] at h
      refine pv_e_bk (ps := [(19, .iconst 0, 1), (20, .istore_n 3, 1)]) (t' := (0, 0, 21, [some (.ref x0), some (.int x1), some (.int x2), some (.int (0:Int32))], [], pv_mm s T)) (by decide +kernel) rfl ?_
      obtain ⟨o13, e12, h⟩ := Option.bind_eq_some_iff.mp h
      refine pv_lp_ok (H := f107_numbersFinding_b1_H xs L d r T x0 x2 s x1) (X := f107_numbersFinding_b1_X xs L d r T x0 x2 s x1) (Z := (fun q => (some (.int q), pv_mm s T) = r)) (f107_numbersFinding_b1_ok (xs := xs) (L := L) (d := d) (r := r) (T := T) (v0 := x0) (v2 := x2) (s := s) (v1 := x1) g0) 20000 _ _ e12 ?_
      rcases o13 with w10 | q
      · dsimp only at h ⊢
        show ∀ z3 : Option Value, pv_Ev xs L (d + 0) 107 (0, 0, 56, [some (.ref x0), some (.int x1), some (.int x2), z3], [], pv_mm s T) r
        intro z3
        refine pv_e_bk (ps := [(56, .iconst 0, 1)]) (t' := (0, 0, 57, [some (.ref x0), some (.int x1), some (.int x2), z3], [.int (0:Int32)], pv_mm s T)) (by decide +kernel) rfl ?_
        obtain rfl := Option.some.inj h
        cases hr
        exact pv_e_ri (by decide +kernel)
      · dsimp only at h ⊢
        obtain rfl := Option.some.inj h
        exact hr
    · rw [if_neg c2] at h
      refine pv_e_bk (ps := [(17, .iconst 5, 1)]) (t' := (0, 0, 18, [some (.ref x0), some (.int x1), some (.int x2), none], [.int (5:Int32)], pv_mm s T)) (by decide +kernel) rfl ?_
      obtain rfl := Option.some.inj h
      cases hr
      exact pv_e_ri (by decide +kernel)
