-- printed by wip/whole/gen/parts.py: methods as functions over the ints of the memory, and that the pure machine runs so
def f64_person (x1 : Int32) (x2 : Int32) (s : pv_F) : Option (Int32 × pv_F) :=
  (f102_isPerson x1 s).bind fun q2 =>
  if q2 = 0 then
    some ((-1:Int32), s)
  else
    if x2 < 0 then
      some ((-1:Int32), s)
    else
      if x2 < (5:Int32) then
        (f49_fact x1 x2 s).bind fun q7 =>
        (pv_pf s 0 8 q7).bind fun s8 =>
        some ((1:Int32), s8)
      else
        some ((-1:Int32), s)
theorem ee64 {xs : Nat → Int32} {L : Nat} (d : Nat) (x1 : Int32) (x2 : Int32) {s : pv_F} {T : pv_T} {q : Int32 × pv_F}  (h : f64_person x1 x2 s = some q) : pv_Ev xs L (d + 2) 64 (0, 0, 0, [some (.ref 0), some (.int x1), some (.int x2)], [], pv_mm s T) (some (.int q.1), pv_mm q.2 T) := by
  generalize hr : ((some (.int q.1), pv_mm q.2 T) : Option Value × pv_M) = r
  unfold f64_person at h
  refine pv_e_bk (ps := [(0, .aload_n 0, 1), (1, .iload_n 1, 1)]) (t' := (0, 0, 2, [some (.ref 0), some (.int x1), some (.int x2)], [.int x1, .ref 0], pv_mm s T)) (by decide +kernel) rfl ?_
  obtain ⟨q2, e1, h⟩ := Option.bind_eq_some_iff.mp h
  refine pv_e_cvi (d := d + 1) (i := 113) (z := 102) (np := 1) (ml := 2) (ci := 5) (As := [.int x1]) (rs := []) (pc' := 5) (by decide +kernel) rfl rfl rfl rfl (Nat.le_of_ble_eq_true rfl) (Nat.le_of_ble_eq_true rfl) rfl (ee102 (d + 1) x1 e1) ?_
  refine pv_e_ifeq (off := 12) (b := 17) (pc' := 8) (by decide +kernel) (by decide +kernel) rfl (fun c3 => ?_) (fun c3 => ?_)
  · rw [if_pos c3] at h
    refine pv_e_bk (ps := [(17, .iconst (-1), 1)]) (t' := (0, 0, 18, [some (.ref 0), some (.int x1), some (.int x2)], [.int (-1:Int32)], pv_mm s T)) (by decide +kernel) rfl ?_
    obtain rfl := Option.some.inj h
    cases hr
    exact pv_e_ri (by decide +kernel)
  · rw [if_neg c3] at h
    refine pv_e_bk (ps := [(8, .iload_n 2, 1)]) (t' := (0, 0, 9, [some (.ref 0), some (.int x1), some (.int x2)], [.int x2], pv_mm s T)) (by decide +kernel) rfl ?_
    refine pv_e_iflt (off := 8) (b := 17) (pc' := 12) (by decide +kernel) (by decide +kernel) rfl (fun c4 => ?_) (fun c4 => ?_)
    · rw [if_pos c4] at h
      refine pv_e_bk (ps := [(17, .iconst (-1), 1)]) (t' := (0, 0, 18, [some (.ref 0), some (.int x1), some (.int x2)], [.int (-1:Int32)], pv_mm s T)) (by decide +kernel) rfl ?_
      obtain rfl := Option.some.inj h
      cases hr
      exact pv_e_ri (by decide +kernel)
    · rw [if_neg c4] at h
      refine pv_e_bk (ps := [(12, .iload_n 2, 1), (13, .iconst 5, 1)]) (t' := (0, 0, 14, [some (.ref 0), some (.int x1), some (.int x2)], [.int (5:Int32), .int x2], pv_mm s T)) (by decide +kernel) rfl ?_
      refine pv_e_icmplt (off := 5) (b := 19) (pc' := 17) (by decide +kernel) (by decide +kernel) rfl (fun c5 => ?_) (fun c5 => ?_)
      · rw [if_pos c5] at h
        refine pv_e_bk (ps := [(19, .aload_n 0, 1), (20, .aload_n 0, 1)]) (t' := (0, 0, 21, [some (.ref 0), some (.int x1), some (.int x2)], [.ref 0, .ref 0], pv_mm s T)) (by decide +kernel) rfl ?_
        refine pv_e_gr (i := 21) (ci := 5) (j := 2) (b := 3) (pc' := 24) (by decide +kernel) rfl rfl rfl ?_
        refine pv_e_bk (ps := [(24, .iload_n 1, 1), (25, .iload_n 2, 1)]) (t' := (0, 0, 26, [some (.ref 0), some (.int x1), some (.int x2)], [.int x2, .int x1, .ref 3, .ref 0], pv_mm s T)) (by decide +kernel) rfl ?_
        obtain ⟨q7, e6, h⟩ := Option.bind_eq_some_iff.mp h
        refine pv_e_cvi (d := d + 1) (i := 116) (z := 49) (np := 2) (ml := 3) (ci := 4) (As := [.int x1, .int x2]) (rs := [.ref 0]) (pc' := 29) (by decide +kernel) rfl rfl rfl rfl (Nat.le_of_ble_eq_true rfl) (Nat.le_of_ble_eq_true rfl) rfl (ee49 (d + 0) x1 x2 e6) ?_
        obtain ⟨s8, e9, h⟩ := Option.bind_eq_some_iff.mp h
        refine pv_e_pcs (i := 50) (ci := 5) (j := 8) (pc' := 32) (by decide +kernel) rfl rfl (by decide) rfl rfl e9 rfl ?_
        refine pv_e_bk (ps := [(32, .iconst 1, 1)]) (t' := (0, 0, 33, [some (.ref 0), some (.int x1), some (.int x2)], [.int (1:Int32)], pv_mm s8 T)) (by decide +kernel) rfl ?_
        obtain rfl := Option.some.inj h
        cases hr
        exact pv_e_ri (by decide +kernel)
      · rw [if_neg c5] at h
        refine pv_e_bk (ps := [(17, .iconst (-1), 1)]) (t' := (0, 0, 18, [some (.ref 0), some (.int x1), some (.int x2)], [.int (-1:Int32)], pv_mm s T)) (by decide +kernel) rfl ?_
        obtain rfl := Option.some.inj h
        cases hr
        exact pv_e_ri (by decide +kernel)
def f65_letter (x1 : Int32) (x2 : Int32) (s : pv_F) : Option (Int32 × pv_F) :=
  (f102_isPerson x1 s).bind fun q2 =>
  if q2 = 0 then
    some ((-1:Int32), s)
  else
    if 0 ≤ x2 then
      (pv_rd s 10 7 x1).bind fun q5 =>
      (f218_size q5).bind fun q8 =>
      if x2 < q8 then
        (f219_letterAt q5 x2).bind fun q11 =>
        some ((96:Int32) + q11, s)
      else
        (f104_find (2:Int32) s).bind fun (q13, s14) =>
        some (q13, s14)
    else
      some ((-1:Int32), s)
theorem ee65 {xs : Nat → Int32} {L : Nat} (d : Nat) (x1 : Int32) (x2 : Int32) {s : pv_F} {T : pv_T} {q : Int32 × pv_F}  (h : f65_letter x1 x2 s = some q) : pv_Ev xs L (d + 1) 65 (0, 0, 0, [some (.ref 0), some (.int x1), some (.int x2), none], [], pv_mm s T) (some (.int q.1), pv_mm q.2 T) := by
  generalize hr : ((some (.int q.1), pv_mm q.2 T) : Option Value × pv_M) = r
  unfold f65_letter at h
  refine pv_e_bk (ps := [(0, .aload_n 0, 1), (1, .iload_n 1, 1)]) (t' := (0, 0, 2, [some (.ref 0), some (.int x1), some (.int x2), none], [.int x1, .ref 0], pv_mm s T)) (by decide +kernel) rfl ?_
  obtain ⟨q2, e1, h⟩ := Option.bind_eq_some_iff.mp h
  refine pv_e_cvi (d := d + 0) (i := 113) (z := 102) (np := 1) (ml := 2) (ci := 5) (As := [.int x1]) (rs := []) (pc' := 5) (by decide +kernel) rfl rfl rfl rfl (Nat.le_of_ble_eq_true rfl) (Nat.le_of_ble_eq_true rfl) rfl (ee102 (d + 0) x1 e1) ?_
  refine pv_e_ifeq (off := 7) (b := 12) (pc' := 8) (by decide +kernel) (by decide +kernel) rfl (fun c3 => ?_) (fun c3 => ?_)
  · rw [if_pos c3] at h
    refine pv_e_bk (ps := [(12, .iconst (-1), 1)]) (t' := (0, 0, 13, [some (.ref 0), some (.int x1), some (.int x2), none], [.int (-1:Int32)], pv_mm s T)) (by decide +kernel) rfl ?_
    obtain rfl := Option.some.inj h
    cases hr
    exact pv_e_ri (by decide +kernel)
  · rw [if_neg c3] at h
    refine pv_e_bk (ps := [(8, .iload_n 2, 1)]) (t' := (0, 0, 9, [some (.ref 0), some (.int x1), some (.int x2), none], [.int x2], pv_mm s T)) (by decide +kernel) rfl ?_
    refine pv_e_ifge (off := 5) (b := 14) (pc' := 12) (by decide +kernel) (by decide +kernel) rfl (fun c4 => ?_) (fun c4 => ?_)
    · rw [if_pos c4] at h
      refine pv_e_bk (ps := [(14, .aload_n 0, 1)]) (t' := (0, 0, 15, [some (.ref 0), some (.int x1), some (.int x2), none], [.ref 0], pv_mm s T)) (by decide +kernel) rfl ?_
      refine pv_e_gr (i := 21) (ci := 5) (j := 2) (b := 3) (pc' := 18) (by decide +kernel) rfl rfl rfl ?_
      refine pv_e_gr (i := 109) (ci := 4) (j := 1) (b := 8) (pc' := 21) (by decide +kernel) rfl rfl rfl ?_
      refine pv_e_gr (i := 120) (ci := 1) (j := 1) (b := 10) (pc' := 24) (by decide +kernel) rfl rfl rfl ?_
      refine pv_e_bk (ps := [(24, .iload_n 1, 1)]) (t' := (0, 0, 25, [some (.ref 0), some (.int x1), some (.int x2), none], [.int x1, .ref 10], pv_mm s T)) (by decide +kernel) rfl ?_
      obtain ⟨q5, e6, h⟩ := Option.bind_eq_some_iff.mp h
      refine pv_e_rc (pc' := 26) (by decide +kernel) (by decide) rfl e6 rfl ?_
      refine pv_e_bk (ps := [(26, .istore_n 3, 1), (27, .iload_n 2, 1), (28, .iload_n 3, 1)]) (t' := (0, 0, 29, [some (.ref 0), some (.int x1), some (.int x2), some (.int q5)], [.int q5, .int x2], pv_mm s T)) (by decide +kernel) rfl ?_
      obtain ⟨q8, e7, h⟩ := Option.bind_eq_some_iff.mp h
      refine pv_e_csi (d := d + 0) (i := 123) (z := 218) (np := 1) (ml := 2) (As := [.int q5]) (rs := [.int x2]) (pc' := 32) (by decide +kernel) rfl rfl rfl (Nat.le_of_ble_eq_true rfl) (Nat.le_of_ble_eq_true rfl) rfl (ee218 (d + 0) q5 e7) ?_
      refine pv_e_icmplt (off := 9) (b := 41) (pc' := 35) (by decide +kernel) (by decide +kernel) rfl (fun c9 => ?_) (fun c9 => ?_)
      · rw [if_pos c9] at h
        refine pv_e_bk (ps := [(41, .bipush 96, 2), (43, .iload_n 3, 1), (44, .iload_n 2, 1)]) (t' := (0, 0, 45, [some (.ref 0), some (.int x1), some (.int x2), some (.int q5)], [.int x2, .int q5, .int (96:Int32)], pv_mm s T)) (by decide +kernel) rfl ?_
        obtain ⟨q11, e10, h⟩ := Option.bind_eq_some_iff.mp h
        refine pv_e_csi (d := d + 0) (i := 127) (z := 219) (np := 2) (ml := 2) (As := [.int q5, .int x2]) (rs := [.int (96:Int32)]) (pc' := 48) (by decide +kernel) rfl rfl rfl (Nat.le_of_ble_eq_true rfl) (Nat.le_of_ble_eq_true rfl) rfl (ee219 (d + 0) q5 x2 e10) ?_
        refine pv_e_bk (ps := [(48, .iadd, 1)]) (t' := (0, 0, 49, [some (.ref 0), some (.int x1), some (.int x2), some (.int q5)], [.int ((96:Int32) + q11)], pv_mm s T)) (by decide +kernel) rfl ?_
        obtain rfl := Option.some.inj h
        cases hr
        exact pv_e_ri (by decide +kernel)
      · rw [if_neg c9] at h
        refine pv_e_bk (ps := [(35, .aload_n 0, 1), (36, .iconst 2, 1)]) (t' := (0, 0, 37, [some (.ref 0), some (.int x1), some (.int x2), some (.int q5)], [.int (2:Int32), .ref 0], pv_mm s T)) (by decide +kernel) rfl ?_
        obtain ⟨⟨q13, s14⟩, e12, h⟩ := Option.bind_eq_some_iff.mp h
        dsimp only at h
        refine pv_e_cvi (d := d + 0) (i := 63) (z := 104) (np := 1) (ml := 2) (ci := 5) (As := [.int (2:Int32)]) (rs := []) (pc' := 40) (by decide +kernel) rfl rfl rfl rfl (Nat.le_of_ble_eq_true rfl) (Nat.le_of_ble_eq_true rfl) rfl (ee104 (d + 0) (2:Int32) e12) ?_
        obtain rfl := Option.some.inj h
        cases hr
        exact pv_e_ri (by decide +kernel)
    · rw [if_neg c4] at h
      refine pv_e_bk (ps := [(12, .iconst (-1), 1)]) (t' := (0, 0, 13, [some (.ref 0), some (.int x1), some (.int x2), none], [.int (-1:Int32)], pv_mm s T)) (by decide +kernel) rfl ?_
      obtain rfl := Option.some.inj h
      cases hr
      exact pv_e_ri (by decide +kernel)
def f66_mark (x1 : Int32) (x2 : Int32) (s : pv_F) : Option (Int32 × pv_F) :=
  (f102_isPerson x1 s).bind fun q2 =>
  if q2 = 0 then
    some ((-1:Int32), s)
  else
    if x2 < (1:Int32) then
      some ((-1:Int32), s)
    else
      if x2 ≤ (5:Int32) then
        (f8_is 8 x1 x2 s).bind fun q7 =>
        if q7 = 0 then
          (f104_find (3:Int32) s).bind fun (q10, s11) =>
          some (q10, s11)
        else
          if x2 = (2:Int32) then
            some (s 3 7, s)
          else
            if x2 = (3:Int32) then
              (pv_rd s 10 7 x1).bind fun q14 =>
              (f13_named 8 q14 s).bind fun q17 =>
              (f224_bitCount (q17 &&& (((1:Int32) <<< (x1 &&& 31)) ^^^ (-1:Int32)))).bind fun q19 =>
              some (q19, s)
            else
              if x2 = (4:Int32) then
                (pv_rd s 11 7 x1).bind fun q21 =>
                some ((2:Int32) - q21, s)
              else
                if x2 = (5:Int32) then
                  (f12_comers 8 x1 (0:Int32) s).bind fun q25 =>
                  (f224_bitCount q25).bind fun q27 =>
                  some (q27, s)
                else
                  (pv_rd s 10 7 x1).bind fun q28 =>
                  (f13_named 8 q28 s).bind fun q31 =>
                  (f224_bitCount (q31 &&& (((1:Int32) <<< (x1 &&& 31)) ^^^ (-1:Int32)))).bind fun q33 =>
                  some (q33, s)
      else
        some ((-1:Int32), s)
theorem ee66 {xs : Nat → Int32} {L : Nat} (d : Nat) (x1 : Int32) (x2 : Int32) {s : pv_F} {T : pv_T} {q : Int32 × pv_F}  (h : f66_mark x1 x2 s = some q) : pv_Ev xs L (d + 3) 66 (0, 0, 0, [some (.ref 0), some (.int x1), some (.int x2)], [], pv_mm s T) (some (.int q.1), pv_mm q.2 T) := by
  generalize hr : ((some (.int q.1), pv_mm q.2 T) : Option Value × pv_M) = r
  unfold f66_mark at h
  refine pv_e_bk (ps := [(0, .aload_n 0, 1), (1, .iload_n 1, 1)]) (t' := (0, 0, 2, [some (.ref 0), some (.int x1), some (.int x2)], [.int x1, .ref 0], pv_mm s T)) (by decide +kernel) rfl ?_
  obtain ⟨q2, e1, h⟩ := Option.bind_eq_some_iff.mp h
  refine pv_e_cvi (d := d + 2) (i := 113) (z := 102) (np := 1) (ml := 2) (ci := 5) (As := [.int x1]) (rs := []) (pc' := 5) (by decide +kernel) rfl rfl rfl rfl (Nat.le_of_ble_eq_true rfl) (Nat.le_of_ble_eq_true rfl) rfl (ee102 (d + 2) x1 e1) ?_
  refine pv_e_ifeq (off := 13) (b := 18) (pc' := 8) (by decide +kernel) (by decide +kernel) rfl (fun c3 => ?_) (fun c3 => ?_)
  · rw [if_pos c3] at h
    refine pv_e_bk (ps := [(18, .iconst (-1), 1)]) (t' := (0, 0, 19, [some (.ref 0), some (.int x1), some (.int x2)], [.int (-1:Int32)], pv_mm s T)) (by decide +kernel) rfl ?_
    obtain rfl := Option.some.inj h
    cases hr
    exact pv_e_ri (by decide +kernel)
  · rw [if_neg c3] at h
    refine pv_e_bk (ps := [(8, .iload_n 2, 1), (9, .iconst 1, 1)]) (t' := (0, 0, 10, [some (.ref 0), some (.int x1), some (.int x2)], [.int (1:Int32), .int x2], pv_mm s T)) (by decide +kernel) rfl ?_
    refine pv_e_icmplt (off := 8) (b := 18) (pc' := 13) (by decide +kernel) (by decide +kernel) rfl (fun c4 => ?_) (fun c4 => ?_)
    · rw [if_pos c4] at h
      refine pv_e_bk (ps := [(18, .iconst (-1), 1)]) (t' := (0, 0, 19, [some (.ref 0), some (.int x1), some (.int x2)], [.int (-1:Int32)], pv_mm s T)) (by decide +kernel) rfl ?_
      obtain rfl := Option.some.inj h
      cases hr
      exact pv_e_ri (by decide +kernel)
    · rw [if_neg c4] at h
      refine pv_e_bk (ps := [(13, .iload_n 2, 1), (14, .iconst 5, 1)]) (t' := (0, 0, 15, [some (.ref 0), some (.int x1), some (.int x2)], [.int (5:Int32), .int x2], pv_mm s T)) (by decide +kernel) rfl ?_
      refine pv_e_icmple (off := 5) (b := 20) (pc' := 18) (by decide +kernel) (by decide +kernel) rfl (fun c5 => ?_) (fun c5 => ?_)
      · rw [if_pos c5] at h
        refine pv_e_bk (ps := [(20, .aload_n 0, 1)]) (t' := (0, 0, 21, [some (.ref 0), some (.int x1), some (.int x2)], [.ref 0], pv_mm s T)) (by decide +kernel) rfl ?_
        refine pv_e_gr (i := 21) (ci := 5) (j := 2) (b := 3) (pc' := 24) (by decide +kernel) rfl rfl rfl ?_
        refine pv_e_gr (i := 109) (ci := 4) (j := 1) (b := 8) (pc' := 27) (by decide +kernel) rfl rfl rfl ?_
        refine pv_e_bk (ps := [(27, .iload_n 1, 1), (28, .iload_n 2, 1)]) (t' := (0, 0, 29, [some (.ref 0), some (.int x1), some (.int x2)], [.int x2, .int x1, .ref 8], pv_mm s T)) (by decide +kernel) rfl ?_
        obtain ⟨q7, e6, h⟩ := Option.bind_eq_some_iff.mp h
        refine pv_e_cvi (d := d + 2) (i := 130) (z := 8) (np := 2) (ml := 3) (ci := 1) (As := [.int x1, .int x2]) (rs := []) (pc' := 32) (by decide +kernel) rfl rfl rfl rfl (Nat.le_of_ble_eq_true rfl) (Nat.le_of_ble_eq_true rfl) rfl (ee8 (d + 2) 8 x1 x2 (by decide) e6) ?_
        refine pv_e_ifne (off := 9) (b := 41) (pc' := 35) (by decide +kernel) (by decide +kernel) rfl (fun c8 => ?_) (fun c8 => ?_)
        · rw [if_pos c8] at h
          refine pv_e_bk (ps := [(35, .aload_n 0, 1), (36, .iconst 3, 1)]) (t' := (0, 0, 37, [some (.ref 0), some (.int x1), some (.int x2)], [.int (3:Int32), .ref 0], pv_mm s T)) (by decide +kernel) rfl ?_
          obtain ⟨⟨q10, s11⟩, e9, h⟩ := Option.bind_eq_some_iff.mp h
          dsimp only at h
          refine pv_e_cvi (d := d + 2) (i := 63) (z := 104) (np := 1) (ml := 2) (ci := 5) (As := [.int (3:Int32)]) (rs := []) (pc' := 40) (by decide +kernel) rfl rfl rfl rfl (Nat.le_of_ble_eq_true rfl) (Nat.le_of_ble_eq_true rfl) rfl (ee104 (d + 2) (3:Int32) e9) ?_
          obtain rfl := Option.some.inj h
          cases hr
          exact pv_e_ri (by decide +kernel)
        · rw [if_neg c8] at h
          refine pv_e_bk (ps := [(41, .iload_n 2, 1)]) (t' := (0, 0, 42, [some (.ref 0), some (.int x1), some (.int x2)], [.int x2], pv_mm s T)) (by decide +kernel) rfl ?_
          by_cases c12 : x2 = (2:Int32)
          · rw [if_pos c12] at h
            refine pv_e_swin (dflt := 69) (lo := 2) (hi := 5) (offs := #[30, 69, 38, 53]) (len := 30) (off := 30) (b := 72) (by decide +kernel) (by rw [c12]; decide +kernel) (by rw [c12]; decide +kernel) (by decide +kernel) ?_
            refine pv_e_bk (ps := [(72, .aload_n 0, 1)]) (t' := (0, 0, 73, [some (.ref 0), some (.int x1), some (.int x2)], [.ref 0], pv_mm s T)) (by decide +kernel) rfl ?_
            refine pv_e_gr (i := 21) (ci := 5) (j := 2) (b := 3) (pc' := 76) (by decide +kernel) rfl rfl rfl ?_
            refine pv_e_gc (i := 133) (ci := 4) (j := 7) (pc' := 79) (by decide +kernel) (by decide) rfl rfl rfl ?_
            obtain rfl := Option.some.inj h
            cases hr
            exact pv_e_ri (by decide +kernel)
          · rw [if_neg c12] at h
            by_cases c13 : x2 = (3:Int32)
            · rw [if_pos c13] at h
              refine pv_e_swin (dflt := 69) (lo := 2) (hi := 5) (offs := #[30, 69, 38, 53]) (len := 30) (off := 69) (b := 111) (by decide +kernel) (by rw [c13]; decide +kernel) (by rw [c13]; decide +kernel) (by decide +kernel) ?_
              refine pv_e_bk (ps := [(111, .aload_n 0, 1)]) (t' := (0, 0, 112, [some (.ref 0), some (.int x1), some (.int x2)], [.ref 0], pv_mm s T)) (by decide +kernel) rfl ?_
              refine pv_e_gr (i := 21) (ci := 5) (j := 2) (b := 3) (pc' := 115) (by decide +kernel) rfl rfl rfl ?_
              refine pv_e_gr (i := 109) (ci := 4) (j := 1) (b := 8) (pc' := 118) (by decide +kernel) rfl rfl rfl ?_
              refine pv_e_bk (ps := [(118, .aload_n 0, 1)]) (t' := (0, 0, 119, [some (.ref 0), some (.int x1), some (.int x2)], [.ref 0, .ref 8], pv_mm s T)) (by decide +kernel) rfl ?_
              refine pv_e_gr (i := 21) (ci := 5) (j := 2) (b := 3) (pc' := 122) (by decide +kernel) rfl rfl rfl ?_
              refine pv_e_gr (i := 109) (ci := 4) (j := 1) (b := 8) (pc' := 125) (by decide +kernel) rfl rfl rfl ?_
              refine pv_e_gr (i := 120) (ci := 1) (j := 1) (b := 10) (pc' := 128) (by decide +kernel) rfl rfl rfl ?_
              refine pv_e_bk (ps := [(128, .iload_n 1, 1)]) (t' := (0, 0, 129, [some (.ref 0), some (.int x1), some (.int x2)], [.int x1, .ref 10, .ref 8], pv_mm s T)) (by decide +kernel) rfl ?_
              obtain ⟨q14, e15, h⟩ := Option.bind_eq_some_iff.mp h
              refine pv_e_rc (pc' := 130) (by decide +kernel) (by decide) rfl e15 rfl ?_
              obtain ⟨q17, e16, h⟩ := Option.bind_eq_some_iff.mp h
              refine pv_e_cvi (d := d + 2) (i := 147) (z := 13) (np := 1) (ml := 4) (ci := 1) (As := [.int q14]) (rs := []) (pc' := 133) (by decide +kernel) rfl rfl rfl rfl (Nat.le_of_ble_eq_true rfl) (Nat.le_of_ble_eq_true rfl) rfl (ee13 (d + 1) 8 q14 (by decide) e16) ?_
              refine pv_e_bk (ps := [(133, .iconst 1, 1), (134, .iload_n 1, 1), (135, .ishl, 1), (136, .iconst (-1), 1), (137, .ixor, 1), (138, .iand, 1)]) (t' := (0, 0, 139, [some (.ref 0), some (.int x1), some (.int x2)], [.int (q17 &&& (((1:Int32) <<< (x1 &&& 31)) ^^^ (-1:Int32)))], pv_mm s T)) (by decide +kernel) rfl ?_
              obtain ⟨q19, e18, h⟩ := Option.bind_eq_some_iff.mp h
              refine pv_e_csi (d := d + 2) (i := 142) (z := 224) (np := 1) (ml := 1) (As := [.int (q17 &&& (((1:Int32) <<< (x1 &&& 31)) ^^^ (-1:Int32)))]) (rs := []) (pc' := 142) (by decide +kernel) rfl rfl rfl (Nat.le_of_ble_eq_true rfl) (Nat.le_of_ble_eq_true rfl) rfl (ee224 (d + 2) (q17 &&& (((1:Int32) <<< (x1 &&& 31)) ^^^ (-1:Int32))) e18) ?_
              obtain rfl := Option.some.inj h
              cases hr
              exact pv_e_ri (by decide +kernel)
            · rw [if_neg c13] at h
              by_cases c20 : x2 = (4:Int32)
              · rw [if_pos c20] at h
                refine pv_e_swin (dflt := 69) (lo := 2) (hi := 5) (offs := #[30, 69, 38, 53]) (len := 30) (off := 38) (b := 80) (by decide +kernel) (by rw [c20]; decide +kernel) (by rw [c20]; decide +kernel) (by decide +kernel) ?_
                refine pv_e_bk (ps := [(80, .iconst 2, 1), (81, .aload_n 0, 1)]) (t' := (0, 0, 82, [some (.ref 0), some (.int x1), some (.int x2)], [.ref 0, .int (2:Int32)], pv_mm s T)) (by decide +kernel) rfl ?_
                refine pv_e_gr (i := 21) (ci := 5) (j := 2) (b := 3) (pc' := 85) (by decide +kernel) rfl rfl rfl ?_
                refine pv_e_gr (i := 109) (ci := 4) (j := 1) (b := 8) (pc' := 88) (by decide +kernel) rfl rfl rfl ?_
                refine pv_e_gr (i := 136) (ci := 1) (j := 2) (b := 11) (pc' := 91) (by decide +kernel) rfl rfl rfl ?_
                refine pv_e_bk (ps := [(91, .iload_n 1, 1)]) (t' := (0, 0, 92, [some (.ref 0), some (.int x1), some (.int x2)], [.int x1, .ref 11, .int (2:Int32)], pv_mm s T)) (by decide +kernel) rfl ?_
                obtain ⟨q21, e22, h⟩ := Option.bind_eq_some_iff.mp h
                refine pv_e_rc (pc' := 93) (by decide +kernel) (by decide) rfl e22 rfl ?_
                refine pv_e_bk (ps := [(93, .isub, 1)]) (t' := (0, 0, 94, [some (.ref 0), some (.int x1), some (.int x2)], [.int ((2:Int32) - q21)], pv_mm s T)) (by decide +kernel) rfl ?_
                obtain rfl := Option.some.inj h
                cases hr
                exact pv_e_ri (by decide +kernel)
              · rw [if_neg c20] at h
                by_cases c23 : x2 = (5:Int32)
                · rw [if_pos c23] at h
                  refine pv_e_swin (dflt := 69) (lo := 2) (hi := 5) (offs := #[30, 69, 38, 53]) (len := 30) (off := 53) (b := 95) (by decide +kernel) (by rw [c23]; decide +kernel) (by rw [c23]; decide +kernel) (by decide +kernel) ?_
                  refine pv_e_bk (ps := [(95, .aload_n 0, 1)]) (t' := (0, 0, 96, [some (.ref 0), some (.int x1), some (.int x2)], [.ref 0], pv_mm s T)) (by decide +kernel) rfl ?_
                  refine pv_e_gr (i := 21) (ci := 5) (j := 2) (b := 3) (pc' := 99) (by decide +kernel) rfl rfl rfl ?_
                  refine pv_e_gr (i := 109) (ci := 4) (j := 1) (b := 8) (pc' := 102) (by decide +kernel) rfl rfl rfl ?_
                  refine pv_e_bk (ps := [(102, .iload_n 1, 1), (103, .iconst 0, 1)]) (t' := (0, 0, 104, [some (.ref 0), some (.int x1), some (.int x2)], [.int (0:Int32), .int x1, .ref 8], pv_mm s T)) (by decide +kernel) rfl ?_
                  obtain ⟨q25, e24, h⟩ := Option.bind_eq_some_iff.mp h
                  refine pv_e_cvi (d := d + 2) (i := 139) (z := 12) (np := 2) (ml := 4) (ci := 1) (As := [.int x1, .int (0:Int32)]) (rs := []) (pc' := 107) (by decide +kernel) rfl rfl rfl rfl (Nat.le_of_ble_eq_true rfl) (Nat.le_of_ble_eq_true rfl) rfl (ee12 (d + 0) 8 x1 (0:Int32) (by decide) e24) ?_
                  obtain ⟨q27, e26, h⟩ := Option.bind_eq_some_iff.mp h
                  refine pv_e_csi (d := d + 2) (i := 142) (z := 224) (np := 1) (ml := 1) (As := [.int q25]) (rs := []) (pc' := 110) (by decide +kernel) rfl rfl rfl (Nat.le_of_ble_eq_true rfl) (Nat.le_of_ble_eq_true rfl) rfl (ee224 (d + 2) q25 e26) ?_
                  obtain rfl := Option.some.inj h
                  cases hr
                  exact pv_e_ri (by decide +kernel)
                · rw [if_neg c23] at h
                  refine pv_e_swout (dflt := 69) (lo := 2) (hi := 5) (offs := #[30, 69, 38, 53]) (len := 30) (b := 111) (by decide +kernel) ?_ (by decide +kernel) ?_
                  · have nc12 : x2.toInt ≠ (2 : Int) := fun e9 => c12 (Int32.toInt_inj.mp (e9.trans (by decide +kernel)))
                    have nc13 : x2.toInt ≠ (3 : Int) := fun e9 => c13 (Int32.toInt_inj.mp (e9.trans (by decide +kernel)))
                    have nc20 : x2.toInt ≠ (4 : Int) := fun e9 => c20 (Int32.toInt_inj.mp (e9.trans (by decide +kernel)))
                    have nc23 : x2.toInt ≠ (5 : Int) := fun e9 => c23 (Int32.toInt_inj.mp (e9.trans (by decide +kernel)))
                    omega
                  · refine pv_e_bk (ps := [(111, .aload_n 0, 1)]) (t' := (0, 0, 112, [some (.ref 0), some (.int x1), some (.int x2)], [.ref 0], pv_mm s T)) (by decide +kernel) rfl ?_
                    refine pv_e_gr (i := 21) (ci := 5) (j := 2) (b := 3) (pc' := 115) (by decide +kernel) rfl rfl rfl ?_
                    refine pv_e_gr (i := 109) (ci := 4) (j := 1) (b := 8) (pc' := 118) (by decide +kernel) rfl rfl rfl ?_
                    refine pv_e_bk (ps := [(118, .aload_n 0, 1)]) (t' := (0, 0, 119, [some (.ref 0), some (.int x1), some (.int x2)], [.ref 0, .ref 8], pv_mm s T)) (by decide +kernel) rfl ?_
                    refine pv_e_gr (i := 21) (ci := 5) (j := 2) (b := 3) (pc' := 122) (by decide +kernel) rfl rfl rfl ?_
                    refine pv_e_gr (i := 109) (ci := 4) (j := 1) (b := 8) (pc' := 125) (by decide +kernel) rfl rfl rfl ?_
                    refine pv_e_gr (i := 120) (ci := 1) (j := 1) (b := 10) (pc' := 128) (by decide +kernel) rfl rfl rfl ?_
                    refine pv_e_bk (ps := [(128, .iload_n 1, 1)]) (t' := (0, 0, 129, [some (.ref 0), some (.int x1), some (.int x2)], [.int x1, .ref 10, .ref 8], pv_mm s T)) (by decide +kernel) rfl ?_
                    obtain ⟨q28, e29, h⟩ := Option.bind_eq_some_iff.mp h
                    refine pv_e_rc (pc' := 130) (by decide +kernel) (by decide) rfl e29 rfl ?_
                    obtain ⟨q31, e30, h⟩ := Option.bind_eq_some_iff.mp h
                    refine pv_e_cvi (d := d + 2) (i := 147) (z := 13) (np := 1) (ml := 4) (ci := 1) (As := [.int q28]) (rs := []) (pc' := 133) (by decide +kernel) rfl rfl rfl rfl (Nat.le_of_ble_eq_true rfl) (Nat.le_of_ble_eq_true rfl) rfl (ee13 (d + 1) 8 q28 (by decide) e30) ?_
                    refine pv_e_bk (ps := [(133, .iconst 1, 1), (134, .iload_n 1, 1), (135, .ishl, 1), (136, .iconst (-1), 1), (137, .ixor, 1), (138, .iand, 1)]) (t' := (0, 0, 139, [some (.ref 0), some (.int x1), some (.int x2)], [.int (q31 &&& (((1:Int32) <<< (x1 &&& 31)) ^^^ (-1:Int32)))], pv_mm s T)) (by decide +kernel) rfl ?_
                    obtain ⟨q33, e32, h⟩ := Option.bind_eq_some_iff.mp h
                    refine pv_e_csi (d := d + 2) (i := 142) (z := 224) (np := 1) (ml := 1) (As := [.int (q31 &&& (((1:Int32) <<< (x1 &&& 31)) ^^^ (-1:Int32)))]) (rs := []) (pc' := 142) (by decide +kernel) rfl rfl rfl (Nat.le_of_ble_eq_true rfl) (Nat.le_of_ble_eq_true rfl) rfl (ee224 (d + 2) (q31 &&& (((1:Int32) <<< (x1 &&& 31)) ^^^ (-1:Int32))) e32) ?_
                    obtain rfl := Option.some.inj h
                    cases hr
                    exact pv_e_ri (by decide +kernel)
      · rw [if_neg c5] at h
        refine pv_e_bk (ps := [(18, .iconst (-1), 1)]) (t' := (0, 0, 19, [some (.ref 0), some (.int x1), some (.int x2)], [.int (-1:Int32)], pv_mm s T)) (by decide +kernel) rfl ?_
        obtain rfl := Option.some.inj h
        cases hr
        exact pv_e_ri (by decide +kernel)
def f67_way (x1 : Int32) (s : pv_F) : Option (Int32 × pv_F) :=
  if x1 < 0 then
    some ((-1:Int32), s)
  else
    if x1 ≤ (2:Int32) then
      (pv_pf s 0 6 x1).bind fun s3 =>
      some (s 0 6, s3)
    else
      some ((-1:Int32), s)
theorem ee67 {xs : Nat → Int32} {L : Nat} (d : Nat) (x1 : Int32) {s : pv_F} {T : pv_T} {q : Int32 × pv_F}  (h : f67_way x1 s = some q) : pv_Ev xs L (d + 0) 67 (0, 0, 0, [some (.ref 0), some (.int x1), none], [], pv_mm s T) (some (.int q.1), pv_mm q.2 T) := by
  generalize hr : ((some (.int q.1), pv_mm q.2 T) : Option Value × pv_M) = r
  unfold f67_way at h
  refine pv_e_bk (ps := [(0, .iload_n 1, 1)]) (t' := (0, 0, 1, [some (.ref 0), some (.int x1), none], [.int x1], pv_mm s T)) (by decide +kernel) rfl ?_
  refine pv_e_iflt (off := 8) (b := 9) (pc' := 4) (by decide +kernel) (by decide +kernel) rfl (fun c1 => ?_) (fun c1 => ?_)
  · rw [if_pos c1] at h
    refine pv_e_bk (ps := [(9, .iconst (-1), 1)]) (t' := (0, 0, 10, [some (.ref 0), some (.int x1), none], [.int (-1:Int32)], pv_mm s T)) (by decide +kernel) rfl ?_
    obtain rfl := Option.some.inj h
    cases hr
    exact pv_e_ri (by decide +kernel)
  · rw [if_neg c1] at h
    refine pv_e_bk (ps := [(4, .iload_n 1, 1), (5, .iconst 2, 1)]) (t' := (0, 0, 6, [some (.ref 0), some (.int x1), none], [.int (2:Int32), .int x1], pv_mm s T)) (by decide +kernel) rfl ?_
    refine pv_e_icmple (off := 5) (b := 11) (pc' := 9) (by decide +kernel) (by decide +kernel) rfl (fun c2 => ?_) (fun c2 => ?_)
    · rw [if_pos c2] at h
      refine pv_e_bk (ps := [(11, .aload_n 0, 1)]) (t' := (0, 0, 12, [some (.ref 0), some (.int x1), none], [.ref 0], pv_mm s T)) (by decide +kernel) rfl ?_
      refine pv_e_gc (i := 43) (ci := 5) (j := 6) (pc' := 15) (by decide +kernel) (by decide) rfl rfl rfl ?_
      refine pv_e_bk (ps := [(15, .istore_n 2, 1), (16, .aload_n 0, 1), (17, .iload_n 1, 1)]) (t' := (0, 0, 18, [some (.ref 0), some (.int x1), some (.int (s 0 6))], [.int x1, .ref 0], pv_mm s T)) (by decide +kernel) rfl ?_
      obtain ⟨s3, e4, h⟩ := Option.bind_eq_some_iff.mp h
      refine pv_e_pcs (i := 43) (ci := 5) (j := 6) (pc' := 21) (by decide +kernel) rfl rfl (by decide) rfl rfl e4 rfl ?_
      refine pv_e_bk (ps := [(21, .iload_n 2, 1)]) (t' := (0, 0, 22, [some (.ref 0), some (.int x1), some (.int (s 0 6))], [.int (s 0 6)], pv_mm s3 T)) (by decide +kernel) rfl ?_
      obtain rfl := Option.some.inj h
      cases hr
      exact pv_e_ri (by decide +kernel)
    · rw [if_neg c2] at h
      refine pv_e_bk (ps := [(9, .iconst (-1), 1)]) (t' := (0, 0, 10, [some (.ref 0), some (.int x1), none], [.int (-1:Int32)], pv_mm s T)) (by decide +kernel) rfl ?_
      obtain rfl := Option.some.inj h
      cases hr
      exact pv_e_ri (by decide +kernel)
def f68_price (x1 : Int32) (s : pv_F) : Option (Int32 × pv_F) :=
  if x1 < 0 then
    some ((-1:Int32), s)
  else
    if x1 ≤ (99:Int32) then
      (pv_pf s 0 7 x1).bind fun s3 =>
      some (s 0 7, s3)
    else
      some ((-1:Int32), s)
theorem ee68 {xs : Nat → Int32} {L : Nat} (d : Nat) (x1 : Int32) {s : pv_F} {T : pv_T} {q : Int32 × pv_F}  (h : f68_price x1 s = some q) : pv_Ev xs L (d + 0) 68 (0, 0, 0, [some (.ref 0), some (.int x1), none], [], pv_mm s T) (some (.int q.1), pv_mm q.2 T) := by
  generalize hr : ((some (.int q.1), pv_mm q.2 T) : Option Value × pv_M) = r
  unfold f68_price at h
  refine pv_e_bk (ps := [(0, .iload_n 1, 1)]) (t' := (0, 0, 1, [some (.ref 0), some (.int x1), none], [.int x1], pv_mm s T)) (by decide +kernel) rfl ?_
  refine pv_e_iflt (off := 9) (b := 10) (pc' := 4) (by decide +kernel) (by decide +kernel) rfl (fun c1 => ?_) (fun c1 => ?_)
  · rw [if_pos c1] at h
    refine pv_e_bk (ps := [(10, .iconst (-1), 1)]) (t' := (0, 0, 11, [some (.ref 0), some (.int x1), none], [.int (-1:Int32)], pv_mm s T)) (by decide +kernel) rfl ?_
    obtain rfl := Option.some.inj h
    cases hr
    exact pv_e_ri (by decide +kernel)
  · rw [if_neg c1] at h
    refine pv_e_bk (ps := [(4, .iload_n 1, 1), (5, .bipush 99, 2)]) (t' := (0, 0, 7, [some (.ref 0), some (.int x1), none], [.int (99:Int32), .int x1], pv_mm s T)) (by decide +kernel) rfl ?_
    refine pv_e_icmple (off := 5) (b := 12) (pc' := 10) (by decide +kernel) (by decide +kernel) rfl (fun c2 => ?_) (fun c2 => ?_)
    · rw [if_pos c2] at h
      refine pv_e_bk (ps := [(12, .aload_n 0, 1)]) (t' := (0, 0, 13, [some (.ref 0), some (.int x1), none], [.ref 0], pv_mm s T)) (by decide +kernel) rfl ?_
      refine pv_e_gc (i := 47) (ci := 5) (j := 7) (pc' := 16) (by decide +kernel) (by decide) rfl rfl rfl ?_
      refine pv_e_bk (ps := [(16, .istore_n 2, 1), (17, .aload_n 0, 1), (18, .iload_n 1, 1)]) (t' := (0, 0, 19, [some (.ref 0), some (.int x1), some (.int (s 0 7))], [.int x1, .ref 0], pv_mm s T)) (by decide +kernel) rfl ?_
      obtain ⟨s3, e4, h⟩ := Option.bind_eq_some_iff.mp h
      refine pv_e_pcs (i := 47) (ci := 5) (j := 7) (pc' := 22) (by decide +kernel) rfl rfl (by decide) rfl rfl e4 rfl ?_
      refine pv_e_bk (ps := [(22, .iload_n 2, 1)]) (t' := (0, 0, 23, [some (.ref 0), some (.int x1), some (.int (s 0 7))], [.int (s 0 7)], pv_mm s3 T)) (by decide +kernel) rfl ?_
      obtain rfl := Option.some.inj h
      cases hr
      exact pv_e_ri (by decide +kernel)
    · rw [if_neg c2] at h
      refine pv_e_bk (ps := [(10, .iconst (-1), 1)]) (t' := (0, 0, 11, [some (.ref 0), some (.int x1), none], [.int (-1:Int32)], pv_mm s T)) (by decide +kernel) rfl ?_
      obtain rfl := Option.some.inj h
      cases hr
      exact pv_e_ri (by decide +kernel)
def f103_isPair (x1 : Int32) (x2 : Int32) (s : pv_F) : Option (Int32) :=
  (f102_isPerson x1 s).bind fun q2 =>
  ((
    if q2 = 0 then
      some (0:Int32)
    else
      (f102_isPerson x2 s).bind fun q10 =>
      if q10 = 0 then
        some (0:Int32)
      else
        if x1 = x2 then
          some (0:Int32)
        else
          some (1:Int32)) : Option (Int32)).bind fun t3 =>
  (pv_bl t3).bind fun q4 => some q4
theorem ee103 {xs : Nat → Int32} {L : Nat} (d : Nat) (x1 : Int32) (x2 : Int32) {s : pv_F} {T : pv_T} {q : Int32}  (h : f103_isPair x1 x2 s = some q) : pv_Ev xs L (d + 1) 103 (0, 0, 0, [some (.ref 0), some (.int x1), some (.int x2)], [], pv_mm s T) (some (.int q), pv_mm s T) := by
  generalize hr : ((some (.int q), pv_mm s T) : Option Value × pv_M) = r
  unfold f103_isPair at h
  refine pv_e_bk (ps := [(0, .aload_n 0, 1), (1, .iload_n 1, 1)]) (t' := (0, 0, 2, [some (.ref 0), some (.int x1), some (.int x2)], [.int x1, .ref 0], pv_mm s T)) (by decide +kernel) rfl ?_
  obtain ⟨q2, e1, h⟩ := Option.bind_eq_some_iff.mp h
  refine pv_e_cvi (d := d + 0) (i := 113) (z := 102) (np := 1) (ml := 2) (ci := 5) (As := [.int x1]) (rs := []) (pc' := 5) (by decide +kernel) rfl rfl rfl rfl (Nat.le_of_ble_eq_true rfl) (Nat.le_of_ble_eq_true rfl) rfl (ee102 (d + 0) x1 e1) ?_
  obtain ⟨t3, hv6, h⟩ := Option.bind_eq_some_iff.mp h
  have hJ7 : pv_Ev xs L (d + 1) 103 (0, 0, 26, [some (.ref 0), some (.int x1), some (.int x2)], [.int t3], pv_mm s T) r := by
    obtain ⟨q4, e5, h⟩ := Option.bind_eq_some_iff.mp h
    obtain rfl := Option.some.inj h
    cases hr
    exact pv_e_rz (by decide +kernel) e5
  clear h
  have h := hv6
  clear hv6
  refine pv_e_ifeq (off := 20) (b := 25) (pc' := 8) (by decide +kernel) (by decide +kernel) rfl (fun c8 => ?_) (fun c8 => ?_)
  · rw [if_pos c8] at h
    refine pv_e_bk (ps := [(25, .iconst 0, 1)]) (t' := (0, 0, 26, [some (.ref 0), some (.int x1), some (.int x2)], [.int (0:Int32)], pv_mm s T)) (by decide +kernel) rfl ?_
    obtain rfl := Option.some.inj h
    exact hJ7
  · rw [if_neg c8] at h
    refine pv_e_bk (ps := [(8, .aload_n 0, 1), (9, .iload_n 2, 1)]) (t' := (0, 0, 10, [some (.ref 0), some (.int x1), some (.int x2)], [.int x2, .ref 0], pv_mm s T)) (by decide +kernel) rfl ?_
    obtain ⟨q10, e9, h⟩ := Option.bind_eq_some_iff.mp h
    refine pv_e_cvi (d := d + 0) (i := 113) (z := 102) (np := 1) (ml := 2) (ci := 5) (As := [.int x2]) (rs := []) (pc' := 13) (by decide +kernel) rfl rfl rfl rfl (Nat.le_of_ble_eq_true rfl) (Nat.le_of_ble_eq_true rfl) rfl (ee102 (d + 0) x2 e9) ?_
    refine pv_e_ifeq (off := 12) (b := 25) (pc' := 16) (by decide +kernel) (by decide +kernel) rfl (fun c11 => ?_) (fun c11 => ?_)
    · rw [if_pos c11] at h
      refine pv_e_bk (ps := [(25, .iconst 0, 1)]) (t' := (0, 0, 26, [some (.ref 0), some (.int x1), some (.int x2)], [.int (0:Int32)], pv_mm s T)) (by decide +kernel) rfl ?_
      obtain rfl := Option.some.inj h
      exact hJ7
    · rw [if_neg c11] at h
      refine pv_e_bk (ps := [(16, .iload_n 1, 1), (17, .iload_n 2, 1)]) (t' := (0, 0, 18, [some (.ref 0), some (.int x1), some (.int x2)], [.int x2, .int x1], pv_mm s T)) (by decide +kernel) rfl ?_
      refine pv_e_icmpeq (off := 7) (b := 25) (pc' := 21) (by decide +kernel) (by decide +kernel) rfl (fun c12 => ?_) (fun c12 => ?_)
      · rw [if_pos c12] at h
        refine pv_e_bk (ps := [(25, .iconst 0, 1)]) (t' := (0, 0, 26, [some (.ref 0), some (.int x1), some (.int x2)], [.int (0:Int32)], pv_mm s T)) (by decide +kernel) rfl ?_
        obtain rfl := Option.some.inj h
        exact hJ7
      · rw [if_neg c12] at h
        refine pv_e_bk (ps := [(21, .iconst 1, 1), (22, .goto 4, 3)]) (t' := (0, 0, 26, [some (.ref 0), some (.int x1), some (.int x2)], [.int (1:Int32)], pv_mm s T)) (by decide +kernel) rfl ?_
        obtain rfl := Option.some.inj h
        exact hJ7
def f69_call (x1 : Int32) (x2 : Int32) (s : pv_F) : Option (Int32 × pv_F) :=
  (f103_isPair x1 x2 s).bind fun q2 =>
  if q2 = 0 then
    some ((-1:Int32), s)
  else
    (f10_canCall 8 x1 x2 s).bind fun q5 =>
    if q5 = 0 then
      some ((-4:Int32), s)
    else
      (f1_hasRoomFor 15 (1:Int32) s).bind fun q8 =>
      if q8 = 0 then
        some ((-2:Int32), s)
      else
        (f45_callOut x1 x2 (s 0 6) s).bind fun (q11, s12) =>
        some (q11, s12)
theorem ee69 {xs : Nat → Int32} {L : Nat} (d : Nat) (x1 : Int32) (x2 : Int32) {s : pv_F} {T : pv_T} {q : Int32 × pv_F}  (h : f69_call x1 x2 s = some q) : pv_Ev xs L (d + 6) 69 (0, 0, 0, [some (.ref 0), some (.int x1), some (.int x2)], [], pv_mm s T) (some (.int q.1), pv_mm q.2 T) := by
  generalize hr : ((some (.int q.1), pv_mm q.2 T) : Option Value × pv_M) = r
  unfold f69_call at h
  refine pv_e_bk (ps := [(0, .aload_n 0, 1), (1, .iload_n 1, 1), (2, .iload_n 2, 1)]) (t' := (0, 0, 3, [some (.ref 0), some (.int x1), some (.int x2)], [.int x2, .int x1, .ref 0], pv_mm s T)) (by decide +kernel) rfl ?_
  obtain ⟨q2, e1, h⟩ := Option.bind_eq_some_iff.mp h
  refine pv_e_cvi (d := d + 5) (i := 150) (z := 103) (np := 2) (ml := 3) (ci := 5) (As := [.int x1, .int x2]) (rs := []) (pc' := 6) (by decide +kernel) rfl rfl rfl rfl (Nat.le_of_ble_eq_true rfl) (Nat.le_of_ble_eq_true rfl) rfl (ee103 (d + 4) x1 x2 e1) ?_
  refine pv_e_ifne (off := 5) (b := 11) (pc' := 9) (by decide +kernel) (by decide +kernel) rfl (fun c3 => ?_) (fun c3 => ?_)
  · rw [if_pos c3] at h
    refine pv_e_bk (ps := [(9, .iconst (-1), 1)]) (t' := (0, 0, 10, [some (.ref 0), some (.int x1), some (.int x2)], [.int (-1:Int32)], pv_mm s T)) (by decide +kernel) rfl ?_
    obtain rfl := Option.some.inj h
    cases hr
    exact pv_e_ri (by decide +kernel)
  · rw [if_neg c3] at h
    refine pv_e_bk (ps := [(11, .aload_n 0, 1)]) (t' := (0, 0, 12, [some (.ref 0), some (.int x1), some (.int x2)], [.ref 0], pv_mm s T)) (by decide +kernel) rfl ?_
    refine pv_e_gr (i := 21) (ci := 5) (j := 2) (b := 3) (pc' := 15) (by decide +kernel) rfl rfl rfl ?_
    refine pv_e_gr (i := 109) (ci := 4) (j := 1) (b := 8) (pc' := 18) (by decide +kernel) rfl rfl rfl ?_
    refine pv_e_bk (ps := [(18, .iload_n 1, 1), (19, .iload_n 2, 1)]) (t' := (0, 0, 20, [some (.ref 0), some (.int x1), some (.int x2)], [.int x2, .int x1, .ref 8], pv_mm s T)) (by decide +kernel) rfl ?_
    obtain ⟨q5, e4, h⟩ := Option.bind_eq_some_iff.mp h
    refine pv_e_cvi (d := d + 5) (i := 153) (z := 10) (np := 2) (ml := 3) (ci := 1) (As := [.int x1, .int x2]) (rs := []) (pc' := 23) (by decide +kernel) rfl rfl rfl rfl (Nat.le_of_ble_eq_true rfl) (Nat.le_of_ble_eq_true rfl) rfl (ee10 (d + 4) 8 x1 x2 (by decide) e4) ?_
    refine pv_e_ifne (off := 6) (b := 29) (pc' := 26) (by decide +kernel) (by decide +kernel) rfl (fun c6 => ?_) (fun c6 => ?_)
    · rw [if_pos c6] at h
      refine pv_e_bk (ps := [(26, .bipush (-4), 2)]) (t' := (0, 0, 28, [some (.ref 0), some (.int x1), some (.int x2)], [.int (-4:Int32)], pv_mm s T)) (by decide +kernel) rfl ?_
      obtain rfl := Option.some.inj h
      cases hr
      exact pv_e_ri (by decide +kernel)
    · rw [if_neg c6] at h
      refine pv_e_bk (ps := [(29, .aload_n 0, 1)]) (t' := (0, 0, 30, [some (.ref 0), some (.int x1), some (.int x2)], [.ref 0], pv_mm s T)) (by decide +kernel) rfl ?_
      refine pv_e_gr (i := 21) (ci := 5) (j := 2) (b := 3) (pc' := 33) (by decide +kernel) rfl rfl rfl ?_
      refine pv_e_gr (i := 156) (ci := 4) (j := 5) (b := 15) (pc' := 36) (by decide +kernel) rfl rfl rfl ?_
      refine pv_e_bk (ps := [(36, .iconst 1, 1)]) (t' := (0, 0, 37, [some (.ref 0), some (.int x1), some (.int x2)], [.int (1:Int32), .ref 15], pv_mm s T)) (by decide +kernel) rfl ?_
      obtain ⟨q8, e7, h⟩ := Option.bind_eq_some_iff.mp h
      refine pv_e_cvi (d := d + 5) (i := 160) (z := 1) (np := 1) (ml := 2) (ci := 0) (As := [.int (1:Int32)]) (rs := []) (pc' := 40) (by decide +kernel) rfl rfl rfl rfl (Nat.le_of_ble_eq_true rfl) (Nat.le_of_ble_eq_true rfl) rfl (ee1 (d + 5) 15 (1:Int32) (by decide) e7) ?_
      refine pv_e_ifne (off := 6) (b := 46) (pc' := 43) (by decide +kernel) (by decide +kernel) rfl (fun c9 => ?_) (fun c9 => ?_)
      · rw [if_pos c9] at h
        refine pv_e_bk (ps := [(43, .bipush (-2), 2)]) (t' := (0, 0, 45, [some (.ref 0), some (.int x1), some (.int x2)], [.int (-2:Int32)], pv_mm s T)) (by decide +kernel) rfl ?_
        obtain rfl := Option.some.inj h
        cases hr
        exact pv_e_ri (by decide +kernel)
      · rw [if_neg c9] at h
        refine pv_e_bk (ps := [(46, .aload_n 0, 1)]) (t' := (0, 0, 47, [some (.ref 0), some (.int x1), some (.int x2)], [.ref 0], pv_mm s T)) (by decide +kernel) rfl ?_
        refine pv_e_gr (i := 21) (ci := 5) (j := 2) (b := 3) (pc' := 50) (by decide +kernel) rfl rfl rfl ?_
        refine pv_e_bk (ps := [(50, .iload_n 1, 1), (51, .iload_n 2, 1), (52, .aload_n 0, 1)]) (t' := (0, 0, 53, [some (.ref 0), some (.int x1), some (.int x2)], [.ref 0, .int x2, .int x1, .ref 3], pv_mm s T)) (by decide +kernel) rfl ?_
        refine pv_e_gc (i := 43) (ci := 5) (j := 6) (pc' := 56) (by decide +kernel) (by decide) rfl rfl rfl ?_
        obtain ⟨⟨q11, s12⟩, e10, h⟩ := Option.bind_eq_some_iff.mp h
        dsimp only at h
        refine pv_e_cvi (d := d + 5) (i := 165) (z := 45) (np := 3) (ml := 4) (ci := 4) (As := [.int x1, .int x2, .int (s 0 6)]) (rs := []) (pc' := 59) (by decide +kernel) rfl rfl rfl rfl (Nat.le_of_ble_eq_true rfl) (Nat.le_of_ble_eq_true rfl) rfl (ee45 (d + 0) x1 x2 (s 0 6) e10) ?_
        obtain rfl := Option.some.inj h
        cases hr
        exact pv_e_ri (by decide +kernel)
def f70_mend (x1 : Int32) (x2 : Int32) (x3 : Int32) (s : pv_F) : Option (Int32 × pv_F) :=
  (f102_isPerson x1 s).bind fun q2 =>
  if q2 = 0 then
    some ((-1:Int32), s)
  else
    (f102_isPerson x2 s).bind fun q5 =>
    if q5 = 0 then
      some ((-1:Int32), s)
    else
      (f216_isLetter x3).bind fun q8 =>
      if q8 = 0 then
        some ((-1:Int32), s)
      else
        (f8_is 8 x1 (2:Int32) s).bind fun q11 =>
        if q11 = 0 then
          (f104_find (3:Int32) s).bind fun (q14, s15) =>
          some (q14, s15)
        else
          (f11_canGrow 8 x2 (1:Int32) s).bind fun q17 =>
          if q17 = 0 then
            some ((-4:Int32), s)
          else
            (f1_hasRoomFor 15 (1:Int32) s).bind fun q20 =>
            if q20 = 0 then
              some ((-2:Int32), s)
            else
              (f217_isVowel (x3 - (96:Int32))).bind fun q23 =>
              ((
                if q23 = 0 then
                  some (1:Int32)
                else
                  some (s 0 7)) : Option (Int32)).bind fun t24 =>
              (f46_mendName x1 x2 (x3 - (96:Int32)) t24 s).bind fun s26 =>
              some (t24, s26)
theorem ee70 {xs : Nat → Int32} {L : Nat} (d : Nat) (x1 : Int32) (x2 : Int32) (x3 : Int32) {s : pv_F} {T : pv_T} {q : Int32 × pv_F}  (h : f70_mend x1 x2 x3 s = some q) : pv_Ev xs L (d + 4) 70 (0, 0, 0, [some (.ref 0), some (.int x1), some (.int x2), some (.int x3), none, none], [], pv_mm s T) (some (.int q.1), pv_mm q.2 T) := by
  generalize hr : ((some (.int q.1), pv_mm q.2 T) : Option Value × pv_M) = r
  unfold f70_mend at h
  refine pv_e_bk (ps := [(0, .aload_n 0, 1), (1, .iload_n 1, 1)]) (t' := (0, 0, 2, [some (.ref 0), some (.int x1), some (.int x2), some (.int x3), none, none], [.int x1, .ref 0], pv_mm s T)) (by decide +kernel) rfl ?_
  obtain ⟨q2, e1, h⟩ := Option.bind_eq_some_iff.mp h
  refine pv_e_cvi (d := d + 3) (i := 113) (z := 102) (np := 1) (ml := 2) (ci := 5) (As := [.int x1]) (rs := []) (pc' := 5) (by decide +kernel) rfl rfl rfl rfl (Nat.le_of_ble_eq_true rfl) (Nat.le_of_ble_eq_true rfl) rfl (ee102 (d + 3) x1 e1) ?_
  refine pv_e_ifeq (off := 18) (b := 23) (pc' := 8) (by decide +kernel) (by decide +kernel) rfl (fun c3 => ?_) (fun c3 => ?_)
  · rw [if_pos c3] at h
    refine pv_e_bk (ps := [(23, .iconst (-1), 1)]) (t' := (0, 0, 24, [some (.ref 0), some (.int x1), some (.int x2), some (.int x3), none, none], [.int (-1:Int32)], pv_mm s T)) (by decide +kernel) rfl ?_
    obtain rfl := Option.some.inj h
    cases hr
    exact pv_e_ri (by decide +kernel)
  · rw [if_neg c3] at h
    refine pv_e_bk (ps := [(8, .aload_n 0, 1), (9, .iload_n 2, 1)]) (t' := (0, 0, 10, [some (.ref 0), some (.int x1), some (.int x2), some (.int x3), none, none], [.int x2, .ref 0], pv_mm s T)) (by decide +kernel) rfl ?_
    obtain ⟨q5, e4, h⟩ := Option.bind_eq_some_iff.mp h
    refine pv_e_cvi (d := d + 3) (i := 113) (z := 102) (np := 1) (ml := 2) (ci := 5) (As := [.int x2]) (rs := []) (pc' := 13) (by decide +kernel) rfl rfl rfl rfl (Nat.le_of_ble_eq_true rfl) (Nat.le_of_ble_eq_true rfl) rfl (ee102 (d + 3) x2 e4) ?_
    refine pv_e_ifeq (off := 10) (b := 23) (pc' := 16) (by decide +kernel) (by decide +kernel) rfl (fun c6 => ?_) (fun c6 => ?_)
    · rw [if_pos c6] at h
      refine pv_e_bk (ps := [(23, .iconst (-1), 1)]) (t' := (0, 0, 24, [some (.ref 0), some (.int x1), some (.int x2), some (.int x3), none, none], [.int (-1:Int32)], pv_mm s T)) (by decide +kernel) rfl ?_
      obtain rfl := Option.some.inj h
      cases hr
      exact pv_e_ri (by decide +kernel)
    · rw [if_neg c6] at h
      refine pv_e_bk (ps := [(16, .iload_n 3, 1)]) (t' := (0, 0, 17, [some (.ref 0), some (.int x1), some (.int x2), some (.int x3), none, none], [.int x3], pv_mm s T)) (by decide +kernel) rfl ?_
      obtain ⟨q8, e7, h⟩ := Option.bind_eq_some_iff.mp h
      refine pv_e_csi (d := d + 3) (i := 169) (z := 216) (np := 1) (ml := 1) (As := [.int x3]) (rs := []) (pc' := 20) (by decide +kernel) rfl rfl rfl (Nat.le_of_ble_eq_true rfl) (Nat.le_of_ble_eq_true rfl) rfl (ee216 (d + 3) x3 e7) ?_
      refine pv_e_ifne (off := 5) (b := 25) (pc' := 23) (by decide +kernel) (by decide +kernel) rfl (fun c9 => ?_) (fun c9 => ?_)
      · rw [if_pos c9] at h
        refine pv_e_bk (ps := [(23, .iconst (-1), 1)]) (t' := (0, 0, 24, [some (.ref 0), some (.int x1), some (.int x2), some (.int x3), none, none], [.int (-1:Int32)], pv_mm s T)) (by decide +kernel) rfl ?_
        obtain rfl := Option.some.inj h
        cases hr
        exact pv_e_ri (by decide +kernel)
      · rw [if_neg c9] at h
        refine pv_e_bk (ps := [(25, .aload_n 0, 1)]) (t' := (0, 0, 26, [some (.ref 0), some (.int x1), some (.int x2), some (.int x3), none, none], [.ref 0], pv_mm s T)) (by decide +kernel) rfl ?_
        refine pv_e_gr (i := 21) (ci := 5) (j := 2) (b := 3) (pc' := 29) (by decide +kernel) rfl rfl rfl ?_
        refine pv_e_gr (i := 109) (ci := 4) (j := 1) (b := 8) (pc' := 32) (by decide +kernel) rfl rfl rfl ?_
        refine pv_e_bk (ps := [(32, .iload_n 1, 1), (33, .iconst 2, 1)]) (t' := (0, 0, 34, [some (.ref 0), some (.int x1), some (.int x2), some (.int x3), none, none], [.int (2:Int32), .int x1, .ref 8], pv_mm s T)) (by decide +kernel) rfl ?_
        obtain ⟨q11, e10, h⟩ := Option.bind_eq_some_iff.mp h
        refine pv_e_cvi (d := d + 3) (i := 130) (z := 8) (np := 2) (ml := 3) (ci := 1) (As := [.int x1, .int (2:Int32)]) (rs := []) (pc' := 37) (by decide +kernel) rfl rfl rfl rfl (Nat.le_of_ble_eq_true rfl) (Nat.le_of_ble_eq_true rfl) rfl (ee8 (d + 3) 8 x1 (2:Int32) (by decide) e10) ?_
        refine pv_e_ifne (off := 9) (b := 46) (pc' := 40) (by decide +kernel) (by decide +kernel) rfl (fun c12 => ?_) (fun c12 => ?_)
        · rw [if_pos c12] at h
          refine pv_e_bk (ps := [(40, .aload_n 0, 1), (41, .iconst 3, 1)]) (t' := (0, 0, 42, [some (.ref 0), some (.int x1), some (.int x2), some (.int x3), none, none], [.int (3:Int32), .ref 0], pv_mm s T)) (by decide +kernel) rfl ?_
          obtain ⟨⟨q14, s15⟩, e13, h⟩ := Option.bind_eq_some_iff.mp h
          dsimp only at h
          refine pv_e_cvi (d := d + 3) (i := 63) (z := 104) (np := 1) (ml := 2) (ci := 5) (As := [.int (3:Int32)]) (rs := []) (pc' := 45) (by decide +kernel) rfl rfl rfl rfl (Nat.le_of_ble_eq_true rfl) (Nat.le_of_ble_eq_true rfl) rfl (ee104 (d + 3) (3:Int32) e13) ?_
          obtain rfl := Option.some.inj h
          cases hr
          exact pv_e_ri (by decide +kernel)
        · rw [if_neg c12] at h
          refine pv_e_bk (ps := [(46, .aload_n 0, 1)]) (t' := (0, 0, 47, [some (.ref 0), some (.int x1), some (.int x2), some (.int x3), none, none], [.ref 0], pv_mm s T)) (by decide +kernel) rfl ?_
          refine pv_e_gr (i := 21) (ci := 5) (j := 2) (b := 3) (pc' := 50) (by decide +kernel) rfl rfl rfl ?_
          refine pv_e_gr (i := 109) (ci := 4) (j := 1) (b := 8) (pc' := 53) (by decide +kernel) rfl rfl rfl ?_
          refine pv_e_bk (ps := [(53, .iload_n 2, 1), (54, .iconst 1, 1)]) (t' := (0, 0, 55, [some (.ref 0), some (.int x1), some (.int x2), some (.int x3), none, none], [.int (1:Int32), .int x2, .ref 8], pv_mm s T)) (by decide +kernel) rfl ?_
          obtain ⟨q17, e16, h⟩ := Option.bind_eq_some_iff.mp h
          refine pv_e_cvi (d := d + 3) (i := 172) (z := 11) (np := 2) (ml := 3) (ci := 1) (As := [.int x2, .int (1:Int32)]) (rs := []) (pc' := 58) (by decide +kernel) rfl rfl rfl rfl (Nat.le_of_ble_eq_true rfl) (Nat.le_of_ble_eq_true rfl) rfl (ee11 (d + 2) 8 x2 (1:Int32) (by decide) e16) ?_
          refine pv_e_ifne (off := 6) (b := 64) (pc' := 61) (by decide +kernel) (by decide +kernel) rfl (fun c18 => ?_) (fun c18 => ?_)
          · rw [if_pos c18] at h
            refine pv_e_bk (ps := [(61, .bipush (-4), 2)]) (t' := (0, 0, 63, [some (.ref 0), some (.int x1), some (.int x2), some (.int x3), none, none], [.int (-4:Int32)], pv_mm s T)) (by decide +kernel) rfl ?_
            obtain rfl := Option.some.inj h
            cases hr
            exact pv_e_ri (by decide +kernel)
          · rw [if_neg c18] at h
            refine pv_e_bk (ps := [(64, .aload_n 0, 1)]) (t' := (0, 0, 65, [some (.ref 0), some (.int x1), some (.int x2), some (.int x3), none, none], [.ref 0], pv_mm s T)) (by decide +kernel) rfl ?_
            refine pv_e_gr (i := 21) (ci := 5) (j := 2) (b := 3) (pc' := 68) (by decide +kernel) rfl rfl rfl ?_
            refine pv_e_gr (i := 156) (ci := 4) (j := 5) (b := 15) (pc' := 71) (by decide +kernel) rfl rfl rfl ?_
            refine pv_e_bk (ps := [(71, .iconst 1, 1)]) (t' := (0, 0, 72, [some (.ref 0), some (.int x1), some (.int x2), some (.int x3), none, none], [.int (1:Int32), .ref 15], pv_mm s T)) (by decide +kernel) rfl ?_
            obtain ⟨q20, e19, h⟩ := Option.bind_eq_some_iff.mp h
            refine pv_e_cvi (d := d + 3) (i := 160) (z := 1) (np := 1) (ml := 2) (ci := 0) (As := [.int (1:Int32)]) (rs := []) (pc' := 75) (by decide +kernel) rfl rfl rfl rfl (Nat.le_of_ble_eq_true rfl) (Nat.le_of_ble_eq_true rfl) rfl (ee1 (d + 3) 15 (1:Int32) (by decide) e19) ?_
            refine pv_e_ifne (off := 6) (b := 81) (pc' := 78) (by decide +kernel) (by decide +kernel) rfl (fun c21 => ?_) (fun c21 => ?_)
            · rw [if_pos c21] at h
              refine pv_e_bk (ps := [(78, .bipush (-2), 2)]) (t' := (0, 0, 80, [some (.ref 0), some (.int x1), some (.int x2), some (.int x3), none, none], [.int (-2:Int32)], pv_mm s T)) (by decide +kernel) rfl ?_
              obtain rfl := Option.some.inj h
              cases hr
              exact pv_e_ri (by decide +kernel)
            · rw [if_neg c21] at h
              refine pv_e_bk (ps := [(81, .iload_n 3, 1), (82, .bipush 96, 2), (84, .isub, 1), (85, .istore 4, 2), (87, .iload 4, 2)]) (t' := (0, 0, 89, [some (.ref 0), some (.int x1), some (.int x2), some (.int x3), some (.int (x3 - (96:Int32))), none], [.int (x3 - (96:Int32))], pv_mm s T)) (by decide +kernel) rfl ?_
              obtain ⟨q23, e22, h⟩ := Option.bind_eq_some_iff.mp h
              refine pv_e_csi (d := d + 3) (i := 175) (z := 217) (np := 1) (ml := 1) (As := [.int (x3 - (96:Int32))]) (rs := []) (pc' := 92) (by decide +kernel) rfl rfl rfl (Nat.le_of_ble_eq_true rfl) (Nat.le_of_ble_eq_true rfl) rfl (ee217 (d + 3) (x3 - (96:Int32)) e22) ?_
              obtain ⟨t24, hv27, h⟩ := Option.bind_eq_some_iff.mp h
              have hJ28 : pv_Ev xs L (d + 4) 70 (0, 0, 103, [some (.ref 0), some (.int x1), some (.int x2), some (.int x3), some (.int (x3 - (96:Int32))), none], [.int t24], pv_mm s T) r := by
                refine pv_e_bk (ps := [(103, .istore 5, 2), (105, .aload_n 0, 1)]) (t' := (0, 0, 106, [some (.ref 0), some (.int x1), some (.int x2), some (.int x3), some (.int (x3 - (96:Int32))), some (.int t24)], [.ref 0], pv_mm s T)) (by decide +kernel) rfl ?_
                refine pv_e_gr (i := 21) (ci := 5) (j := 2) (b := 3) (pc' := 109) (by decide +kernel) rfl rfl rfl ?_
                refine pv_e_bk (ps := [(109, .iload_n 1, 1), (110, .iload_n 2, 1), (111, .iload 4, 2), (113, .iload 5, 2)]) (t' := (0, 0, 115, [some (.ref 0), some (.int x1), some (.int x2), some (.int x3), some (.int (x3 - (96:Int32))), some (.int t24)], [.int t24, .int (x3 - (96:Int32)), .int x2, .int x1, .ref 3], pv_mm s T)) (by decide +kernel) rfl ?_
                obtain ⟨s26, e25, h⟩ := Option.bind_eq_some_iff.mp h
                refine pv_e_cvv (d := d + 3) (i := 178) (z := 46) (np := 4) (ml := 5) (ci := 4) (As := [.int x1, .int x2, .int (x3 - (96:Int32)), .int t24]) (rs := []) (pc' := 118) (by decide +kernel) rfl rfl rfl rfl (Nat.le_of_ble_eq_true rfl) (Nat.le_of_ble_eq_true rfl) rfl (ee46 (d + 0) x1 x2 (x3 - (96:Int32)) t24 e25) ?_
                refine pv_e_bk (ps := [(118, .iload 5, 2)]) (t' := (0, 0, 120, [some (.ref 0), some (.int x1), some (.int x2), some (.int x3), some (.int (x3 - (96:Int32))), some (.int t24)], [.int t24], pv_mm s26 T)) (by decide +kernel) rfl ?_
                obtain rfl := Option.some.inj h
                cases hr
                exact pv_e_ri (by decide +kernel)
              clear h
              have h := hv27
              clear hv27
              refine pv_e_ifeq (off := 10) (b := 102) (pc' := 95) (by decide +kernel) (by decide +kernel) rfl (fun c29 => ?_) (fun c29 => ?_)
              · rw [if_pos c29] at h
                refine pv_e_bk (ps := [(102, .iconst 1, 1)]) (t' := (0, 0, 103, [some (.ref 0), some (.int x1), some (.int x2), some (.int x3), some (.int (x3 - (96:Int32))), none], [.int (1:Int32)], pv_mm s T)) (by decide +kernel) rfl ?_
                obtain rfl := Option.some.inj h
                exact hJ28
              · rw [if_neg c29] at h
                refine pv_e_bk (ps := [(95, .aload_n 0, 1)]) (t' := (0, 0, 96, [some (.ref 0), some (.int x1), some (.int x2), some (.int x3), some (.int (x3 - (96:Int32))), none], [.ref 0], pv_mm s T)) (by decide +kernel) rfl ?_
                refine pv_e_gc (i := 47) (ci := 5) (j := 7) (pc' := 99) (by decide +kernel) (by decide) rfl rfl rfl ?_
                refine pv_e_bk (ps := [(99, .goto 4, 3)]) (t' := (0, 0, 103, [some (.ref 0), some (.int x1), some (.int x2), some (.int x3), some (.int (x3 - (96:Int32))), none], [.int (s 0 7)], pv_mm s T)) (by decide +kernel) rfl ?_
                obtain rfl := Option.some.inj h
                exact hJ28
def f71_undo (x1 : Int32) (s : pv_F) : Option (Int32 × pv_F) :=
  if x1 < 0 then
    some ((-1:Int32), s)
  else
    if x1 ≤ (s 15 4) then
      (f44_goBack x1 s).bind fun s4 =>
      some ((s 15 4) - x1, s4)
    else
      some ((-1:Int32), s)
theorem ee71 {xs : Nat → Int32} {L : Nat} (d : Nat) (x1 : Int32) {s : pv_F} {T : pv_T} {q : Int32 × pv_F}  (h : f71_undo x1 s = some q) : pv_Ev xs L (d + 6) 71 (0, 0, 0, [some (.ref 0), some (.int x1), none], [], pv_mm s T) (some (.int q.1), pv_mm q.2 T) := by
  generalize hr : ((some (.int q.1), pv_mm q.2 T) : Option Value × pv_M) = r
  unfold f71_undo at h
  refine pv_e_bk (ps := [(0, .iload_n 1, 1)]) (t' := (0, 0, 1, [some (.ref 0), some (.int x1), none], [.int x1], pv_mm s T)) (by decide +kernel) rfl ?_
  refine pv_e_iflt (off := 17) (b := 18) (pc' := 4) (by decide +kernel) (by decide +kernel) rfl (fun c1 => ?_) (fun c1 => ?_)
  · rw [if_pos c1] at h
    refine pv_e_bk (ps := [(18, .iconst (-1), 1)]) (t' := (0, 0, 19, [some (.ref 0), some (.int x1), none], [.int (-1:Int32)], pv_mm s T)) (by decide +kernel) rfl ?_
    obtain rfl := Option.some.inj h
    cases hr
    exact pv_e_ri (by decide +kernel)
  · rw [if_neg c1] at h
    refine pv_e_bk (ps := [(4, .iload_n 1, 1), (5, .aload_n 0, 1)]) (t' := (0, 0, 6, [some (.ref 0), some (.int x1), none], [.ref 0, .int x1], pv_mm s T)) (by decide +kernel) rfl ?_
    refine pv_e_gr (i := 21) (ci := 5) (j := 2) (b := 3) (pc' := 9) (by decide +kernel) rfl rfl rfl ?_
    refine pv_e_gr (i := 156) (ci := 4) (j := 5) (b := 15) (pc' := 12) (by decide +kernel) rfl rfl rfl ?_
    refine pv_e_gc (i := 182) (ci := 0) (j := 4) (pc' := 15) (by decide +kernel) (by decide) rfl rfl rfl ?_
    refine pv_e_icmple (off := 5) (b := 20) (pc' := 18) (by decide +kernel) (by decide +kernel) rfl (fun c2 => ?_) (fun c2 => ?_)
    · rw [if_pos c2] at h
      refine pv_e_bk (ps := [(20, .aload_n 0, 1)]) (t' := (0, 0, 21, [some (.ref 0), some (.int x1), none], [.ref 0], pv_mm s T)) (by decide +kernel) rfl ?_
      refine pv_e_gr (i := 21) (ci := 5) (j := 2) (b := 3) (pc' := 24) (by decide +kernel) rfl rfl rfl ?_
      refine pv_e_gr (i := 156) (ci := 4) (j := 5) (b := 15) (pc' := 27) (by decide +kernel) rfl rfl rfl ?_
      refine pv_e_gc (i := 182) (ci := 0) (j := 4) (pc' := 30) (by decide +kernel) (by decide) rfl rfl rfl ?_
      refine pv_e_bk (ps := [(30, .iload_n 1, 1), (31, .isub, 1), (32, .istore_n 2, 1), (33, .aload_n 0, 1)]) (t' := (0, 0, 34, [some (.ref 0), some (.int x1), some (.int ((s 15 4) - x1))], [.ref 0], pv_mm s T)) (by decide +kernel) rfl ?_
      refine pv_e_gr (i := 21) (ci := 5) (j := 2) (b := 3) (pc' := 37) (by decide +kernel) rfl rfl rfl ?_
      refine pv_e_bk (ps := [(37, .iload_n 1, 1)]) (t' := (0, 0, 38, [some (.ref 0), some (.int x1), some (.int ((s 15 4) - x1))], [.int x1, .ref 3], pv_mm s T)) (by decide +kernel) rfl ?_
      obtain ⟨s4, e3, h⟩ := Option.bind_eq_some_iff.mp h
      refine pv_e_cvv (d := d + 5) (i := 183) (z := 44) (np := 1) (ml := 3) (ci := 4) (As := [.int x1]) (rs := []) (pc' := 41) (by decide +kernel) rfl rfl rfl rfl (Nat.le_of_ble_eq_true rfl) (Nat.le_of_ble_eq_true rfl) rfl (ee44 (d + 0) x1 e3) ?_
      refine pv_e_bk (ps := [(41, .iload_n 2, 1)]) (t' := (0, 0, 42, [some (.ref 0), some (.int x1), some (.int ((s 15 4) - x1))], [.int ((s 15 4) - x1)], pv_mm s4 T)) (by decide +kernel) rfl ?_
      obtain rfl := Option.some.inj h
      cases hr
      exact pv_e_ri (by decide +kernel)
    · rw [if_neg c2] at h
      refine pv_e_bk (ps := [(18, .iconst (-1), 1)]) (t' := (0, 0, 19, [some (.ref 0), some (.int x1), none], [.int (-1:Int32)], pv_mm s T)) (by decide +kernel) rfl ?_
      obtain rfl := Option.some.inj h
      cases hr
      exact pv_e_ri (by decide +kernel)
def f72_comes (x1 : Int32) (x2 : Int32) (s : pv_F) : Option (Int32) :=
  (f103_isPair x1 x2 s).bind fun q2 =>
  if q2 = 0 then
    some (-1:Int32)
  else
    (f12_comers 8 x1 x2 s).bind fun q5 =>
    ((
      if q5 = 0 then
        some (-4:Int32)
      else
        some q5) : Option (Int32)).bind fun t6 =>
    some t6
theorem ee72 {xs : Nat → Int32} {L : Nat} (d : Nat) (x1 : Int32) (x2 : Int32) {s : pv_F} {T : pv_T} {q : Int32}  (h : f72_comes x1 x2 s = some q) : pv_Ev xs L (d + 3) 72 (0, 0, 0, [some (.ref 0), some (.int x1), some (.int x2), none], [], pv_mm s T) (some (.int q), pv_mm s T) := by
  generalize hr : ((some (.int q), pv_mm s T) : Option Value × pv_M) = r
  unfold f72_comes at h
  refine pv_e_bk (ps := [(0, .aload_n 0, 1), (1, .iload_n 1, 1), (2, .iload_n 2, 1)]) (t' := (0, 0, 3, [some (.ref 0), some (.int x1), some (.int x2), none], [.int x2, .int x1, .ref 0], pv_mm s T)) (by decide +kernel) rfl ?_
  obtain ⟨q2, e1, h⟩ := Option.bind_eq_some_iff.mp h
  refine pv_e_cvi (d := d + 2) (i := 150) (z := 103) (np := 2) (ml := 3) (ci := 5) (As := [.int x1, .int x2]) (rs := []) (pc' := 6) (by decide +kernel) rfl rfl rfl rfl (Nat.le_of_ble_eq_true rfl) (Nat.le_of_ble_eq_true rfl) rfl (ee103 (d + 1) x1 x2 e1) ?_
  refine pv_e_ifne (off := 5) (b := 11) (pc' := 9) (by decide +kernel) (by decide +kernel) rfl (fun c3 => ?_) (fun c3 => ?_)
  · rw [if_pos c3] at h
    refine pv_e_bk (ps := [(9, .iconst (-1), 1)]) (t' := (0, 0, 10, [some (.ref 0), some (.int x1), some (.int x2), none], [.int (-1:Int32)], pv_mm s T)) (by decide +kernel) rfl ?_
    obtain rfl := Option.some.inj h
    cases hr
    exact pv_e_ri (by decide +kernel)
  · rw [if_neg c3] at h
    refine pv_e_bk (ps := [(11, .aload_n 0, 1)]) (t' := (0, 0, 12, [some (.ref 0), some (.int x1), some (.int x2), none], [.ref 0], pv_mm s T)) (by decide +kernel) rfl ?_
    refine pv_e_gr (i := 21) (ci := 5) (j := 2) (b := 3) (pc' := 15) (by decide +kernel) rfl rfl rfl ?_
    refine pv_e_gr (i := 109) (ci := 4) (j := 1) (b := 8) (pc' := 18) (by decide +kernel) rfl rfl rfl ?_
    refine pv_e_bk (ps := [(18, .iload_n 1, 1), (19, .iload_n 2, 1)]) (t' := (0, 0, 20, [some (.ref 0), some (.int x1), some (.int x2), none], [.int x2, .int x1, .ref 8], pv_mm s T)) (by decide +kernel) rfl ?_
    obtain ⟨q5, e4, h⟩ := Option.bind_eq_some_iff.mp h
    refine pv_e_cvi (d := d + 2) (i := 139) (z := 12) (np := 2) (ml := 4) (ci := 1) (As := [.int x1, .int x2]) (rs := []) (pc' := 23) (by decide +kernel) rfl rfl rfl rfl (Nat.le_of_ble_eq_true rfl) (Nat.le_of_ble_eq_true rfl) rfl (ee12 (d + 0) 8 x1 x2 (by decide) e4) ?_
    refine pv_e_bk (ps := [(23, .istore_n 3, 1), (24, .iload_n 3, 1)]) (t' := (0, 0, 25, [some (.ref 0), some (.int x1), some (.int x2), some (.int q5)], [.int q5], pv_mm s T)) (by decide +kernel) rfl ?_
    obtain ⟨t6, hv7, h⟩ := Option.bind_eq_some_iff.mp h
    have hJ8 : pv_Ev xs L (d + 3) 72 (0, 0, 34, [some (.ref 0), some (.int x1), some (.int x2), some (.int q5)], [.int t6], pv_mm s T) r := by
      obtain rfl := Option.some.inj h
      cases hr
      exact pv_e_ri (by decide +kernel)
    clear h
    have h := hv7
    clear hv7
    refine pv_e_ifne (off := 8) (b := 33) (pc' := 28) (by decide +kernel) (by decide +kernel) rfl (fun c9 => ?_) (fun c9 => ?_)
    · rw [if_pos c9] at h
      refine pv_e_bk (ps := [(28, .bipush (-4), 2), (30, .goto 4, 3)]) (t' := (0, 0, 34, [some (.ref 0), some (.int x1), some (.int x2), some (.int q5)], [.int (-4:Int32)], pv_mm s T)) (by decide +kernel) rfl ?_
      obtain rfl := Option.some.inj h
      exact hJ8
    · rw [if_neg c9] at h
      refine pv_e_bk (ps := [(33, .iload_n 3, 1)]) (t' := (0, 0, 34, [some (.ref 0), some (.int x1), some (.int x2), some (.int q5)], [.int q5], pv_mm s T)) (by decide +kernel) rfl ?_
      obtain rfl := Option.some.inj h
      exact hJ8
def f73_alike (x1 : Int32) (s : pv_F) : Option (Int32) :=
  (f102_isPerson x1 s).bind fun q2 =>
  if q2 = 0 then
    some (-1:Int32)
  else
    (pv_rd s 10 7 x1).bind fun q4 =>
    (f13_named 8 q4 s).bind fun q7 =>
    some (q7 ||| ((1:Int32) <<< (x1 &&& 31)))
theorem ee73 {xs : Nat → Int32} {L : Nat} (d : Nat) (x1 : Int32) {s : pv_F} {T : pv_T} {q : Int32}  (h : f73_alike x1 s = some q) : pv_Ev xs L (d + 2) 73 (0, 0, 0, [some (.ref 0), some (.int x1)], [], pv_mm s T) (some (.int q), pv_mm s T) := by
  generalize hr : ((some (.int q), pv_mm s T) : Option Value × pv_M) = r
  unfold f73_alike at h
  refine pv_e_bk (ps := [(0, .aload_n 0, 1), (1, .iload_n 1, 1)]) (t' := (0, 0, 2, [some (.ref 0), some (.int x1)], [.int x1, .ref 0], pv_mm s T)) (by decide +kernel) rfl ?_
  obtain ⟨q2, e1, h⟩ := Option.bind_eq_some_iff.mp h
  refine pv_e_cvi (d := d + 1) (i := 113) (z := 102) (np := 1) (ml := 2) (ci := 5) (As := [.int x1]) (rs := []) (pc' := 5) (by decide +kernel) rfl rfl rfl rfl (Nat.le_of_ble_eq_true rfl) (Nat.le_of_ble_eq_true rfl) rfl (ee102 (d + 1) x1 e1) ?_
  refine pv_e_ifne (off := 5) (b := 10) (pc' := 8) (by decide +kernel) (by decide +kernel) rfl (fun c3 => ?_) (fun c3 => ?_)
  · rw [if_pos c3] at h
    refine pv_e_bk (ps := [(8, .iconst (-1), 1)]) (t' := (0, 0, 9, [some (.ref 0), some (.int x1)], [.int (-1:Int32)], pv_mm s T)) (by decide +kernel) rfl ?_
    obtain rfl := Option.some.inj h
    cases hr
    exact pv_e_ri (by decide +kernel)
  · rw [if_neg c3] at h
    refine pv_e_bk (ps := [(10, .aload_n 0, 1)]) (t' := (0, 0, 11, [some (.ref 0), some (.int x1)], [.ref 0], pv_mm s T)) (by decide +kernel) rfl ?_
    refine pv_e_gr (i := 21) (ci := 5) (j := 2) (b := 3) (pc' := 14) (by decide +kernel) rfl rfl rfl ?_
    refine pv_e_gr (i := 109) (ci := 4) (j := 1) (b := 8) (pc' := 17) (by decide +kernel) rfl rfl rfl ?_
    refine pv_e_bk (ps := [(17, .aload_n 0, 1)]) (t' := (0, 0, 18, [some (.ref 0), some (.int x1)], [.ref 0, .ref 8], pv_mm s T)) (by decide +kernel) rfl ?_
    refine pv_e_gr (i := 21) (ci := 5) (j := 2) (b := 3) (pc' := 21) (by decide +kernel) rfl rfl rfl ?_
    refine pv_e_gr (i := 109) (ci := 4) (j := 1) (b := 8) (pc' := 24) (by decide +kernel) rfl rfl rfl ?_
    refine pv_e_gr (i := 120) (ci := 1) (j := 1) (b := 10) (pc' := 27) (by decide +kernel) rfl rfl rfl ?_
    refine pv_e_bk (ps := [(27, .iload_n 1, 1)]) (t' := (0, 0, 28, [some (.ref 0), some (.int x1)], [.int x1, .ref 10, .ref 8], pv_mm s T)) (by decide +kernel) rfl ?_
    obtain ⟨q4, e5, h⟩ := Option.bind_eq_some_iff.mp h
    refine pv_e_rc (pc' := 29) (by decide +kernel) (by decide) rfl e5 rfl ?_
    obtain ⟨q7, e6, h⟩ := Option.bind_eq_some_iff.mp h
    refine pv_e_cvi (d := d + 1) (i := 147) (z := 13) (np := 1) (ml := 4) (ci := 1) (As := [.int q4]) (rs := []) (pc' := 32) (by decide +kernel) rfl rfl rfl rfl (Nat.le_of_ble_eq_true rfl) (Nat.le_of_ble_eq_true rfl) rfl (ee13 (d + 0) 8 q4 (by decide) e6) ?_
    refine pv_e_bk (ps := [(32, .iconst 1, 1), (33, .iload_n 1, 1), (34, .ishl, 1), (35, .ior, 1)]) (t' := (0, 0, 36, [some (.ref 0), some (.int x1)], [.int (q7 ||| ((1:Int32) <<< (x1 &&& 31)))], pv_mm s T)) (by decide +kernel) rfl ?_
    obtain rfl := Option.some.inj h
    cases hr
    exact pv_e_ri (by decide +kernel)
def f101_isKeepingPlace (x0 : Int32) : Option (Int32) :=
  ((
    if x0 < 0 then
      some (0:Int32)
    else
      if (3:Int32) ≤ x0 then
        some (0:Int32)
      else
        some (1:Int32)) : Option (Int32)).bind fun t1 =>
  (pv_bl t1).bind fun q2 => some q2
theorem ee101 {xs : Nat → Int32} {L : Nat} (d : Nat) (x0 : Int32) {M : pv_M} {q : Int32}  (h : f101_isKeepingPlace x0 = some q) : pv_Ev xs L (d + 0) 101 (0, 0, 0, [some (.int x0)], [], M) (some (.int q), M) := by
  generalize hr : ((some (.int q), M) : Option Value × pv_M) = r
  unfold f101_isKeepingPlace at h
  refine pv_e_bk (ps := [(0, .iload_n 0, 1)]) (t' := (0, 0, 1, [some (.int x0)], [.int x0], M)) (by decide +kernel) rfl ?_
  obtain ⟨t1, hv4, h⟩ := Option.bind_eq_some_iff.mp h
  have hJ5 : pv_Ev xs L (d + 0) 101 (0, 0, 14, [some (.int x0)], [.int t1], M) r := by
    obtain ⟨q2, e3, h⟩ := Option.bind_eq_some_iff.mp h
    obtain rfl := Option.some.inj h
    cases hr
    exact pv_e_rz (by decide +kernel) e3
  clear h
  have h := hv4
  clear hv4
  refine pv_e_iflt (off := 12) (b := 13) (pc' := 4) (by decide +kernel) (by decide +kernel) rfl (fun c6 => ?_) (fun c6 => ?_)
  · rw [if_pos c6] at h
    refine pv_e_bk (ps := [(13, .iconst 0, 1)]) (t' := (0, 0, 14, [some (.int x0)], [.int (0:Int32)], M)) (by decide +kernel) rfl ?_
    obtain rfl := Option.some.inj h
    exact hJ5
  · rw [if_neg c6] at h
    refine pv_e_bk (ps := [(4, .iload_n 0, 1), (5, .iconst 3, 1)]) (t' := (0, 0, 6, [some (.int x0)], [.int (3:Int32), .int x0], M)) (by decide +kernel) rfl ?_
    refine pv_e_icmpge (off := 7) (b := 13) (pc' := 9) (by decide +kernel) (by decide +kernel) rfl (fun c7 => ?_) (fun c7 => ?_)
    · rw [if_pos c7] at h
      refine pv_e_bk (ps := [(13, .iconst 0, 1)]) (t' := (0, 0, 14, [some (.int x0)], [.int (0:Int32)], M)) (by decide +kernel) rfl ?_
      obtain rfl := Option.some.inj h
      exact hJ5
    · rw [if_neg c7] at h
      refine pv_e_bk (ps := [(9, .iconst 1, 1), (10, .goto 4, 3)]) (t' := (0, 0, 14, [some (.int x0)], [.int (1:Int32)], M)) (by decide +kernel) rfl ?_
      obtain rfl := Option.some.inj h
      exact hJ5
