-- printed by wip/whole/gen/parts.py: methods as functions over the ints of the memory, and that the pure machine runs so
def f43_goBack_b1 (v1 : Int32) (st : Int32 × pv_F) : Option ((Int32 × pv_F) ⊕ (Int32 × pv_F)) := match st with
  | (v2, s) =>
    if (7:Int32) ≤ v2 then
      some (.inr (v2, s))
    else
      (pv_wr s 12 7 v2 (0:Int32)).bind fun s8 =>
      (pv_wr s8 13 7 v2 (0:Int32)).bind fun s10 =>
      (pv_wr s10 14 7 v2 (0:Int32)).bind fun s12 =>
      some (.inl (v2 + (1:Int32), s12))
def f43_goBack_b1_H (xs : Nat → Int32) (L d : Nat) (r : Option Value × pv_M) (T : pv_T) (v1 : Int32) (st : Int32 × pv_F) : Prop := match st with
  | (v2, s) => pv_Ev xs L (d + 5) 43 (0, 0, 26, [some (.ref 3), some (.int v1), some (.int v2)], [], pv_mm s T) r
def f43_goBack_b1_X (xs : Nat → Int32) (L d : Nat) (r : Option Value × pv_M) (T : pv_T) (v1 : Int32) (st : Int32 × pv_F) : Prop := match st with
  | (v2, s) => ∀ z2 : Option Value, pv_Ev xs L (d + 5) 43 (0, 0, 59, [some (.ref 3), some (.int v1), z2], [], pv_mm s T) r
def f43_goBack_b2 (v1 : Int32) (st : Int32 × pv_F) : Option ((Int32 × pv_F) ⊕ (Int32 × pv_F)) := match st with
  | (v2, s) =>
    if v1 ≤ v2 then
      some (.inr (v2, s))
    else
      (pv_rd s 18 60 v2).bind fun q17 =>
      ((
        if q17 = 0 then
          (pv_rd s 16 60 v2).bind fun q23 =>
          (pv_rd s 17 60 v2).bind fun q25 =>
          (pv_rd s 19 60 v2).bind fun q27 =>
          (f46_carryOutCall q23 q25 q27 s).bind fun (q30, s31) =>
          some s31
        else
          (pv_rd s 17 60 v2).bind fun q32 =>
          (pv_rd s 18 60 v2).bind fun q34 =>
          (pv_rd s 19 60 v2).bind fun q36 =>
          (f47_carryOutMending q32 q34 q36 s).bind fun s39 =>
          some s39) : Option (pv_F)).bind fun s19 =>
      some (.inl (v2 + (1:Int32), s19))
def f43_goBack_b2_H (xs : Nat → Int32) (L d : Nat) (r : Option Value × pv_M) (T : pv_T) (v1 : Int32) (st : Int32 × pv_F) : Prop := match st with
  | (v2, s) => pv_Ev xs L (d + 5) 43 (0, 0, 61, [some (.ref 3), some (.int v1), some (.int v2)], [], pv_mm s T) r
def f43_goBack_b2_X (xs : Nat → Int32) (L d : Nat) (r : Option Value × pv_M) (T : pv_T) (v1 : Int32) (st : Int32 × pv_F) : Prop := match st with
  | (v2, s) => ∀ z2 : Option Value, pv_Ev xs L (d + 5) 43 (0, 0, 150, [some (.ref 3), some (.int v1), z2], [], pv_mm s T) r
def f43_goBack (x1 : Int32) (s : pv_F) : Option (pv_F) :=
  (pv_pf s 15 4 x1).bind fun s1 =>
  (f5_take 8 4 s1).bind fun s4 =>
  (pv_pf s4 3 7 (0:Int32)).bind fun s5 =>
  (pv_lq (f43_goBack_b1 x1) 20000 ((0:Int32), s5)).bind fun (w14, s15) =>
  (pv_lq (f43_goBack_b2 x1) 20000 ((0:Int32), s15)).bind fun (w40, s41) =>
  some s41
theorem f43_goBack_b1_ok {xs : Nat → Int32} {L d : Nat} {r : Option Value × pv_M} {T : pv_T} {v1 : Int32} (st : Int32 × pv_F) (o : (Int32 × pv_F) ⊕ (Int32 × pv_F)) (h : f43_goBack_b1 v1 st = some o) (hK : pv_Kq (f43_goBack_b1_H xs L d r T v1) (f43_goBack_b1_X xs L d r T v1) o) : f43_goBack_b1_H xs L d r T v1 st := by
  obtain ⟨v2, s⟩ := st
  show pv_Ev xs L (d + 5) 43 (0, 0, 26, [some (.ref 3), some (.int v1), some (.int v2)], [], pv_mm s T) r
  unfold f43_goBack_b1 at h
  dsimp only at h
  refine pv_e_bk (ps := [(26, .iload_n 2, 1), (27, .bipush 7, 2)]) (t' := (0, 0, 29, [some (.ref 3), some (.int v1), some (.int v2)], [.int (7:Int32), .int v2], pv_mm s T)) (by decide +kernel) rfl ?_
  refine pv_e_icmpge (off := 30) (b := 59) (pc' := 32) (by decide +kernel) (by decide +kernel) rfl (fun c7 => ?_) (fun c7 => ?_)
  · rw [if_pos c7] at h
    obtain rfl := Option.some.inj h
    exact hK _
  · rw [if_neg c7] at h
    refine pv_e_bk (ps := [(32, .aload_n 0, 1)]) (t' := (0, 0, 33, [some (.ref 3), some (.int v1), some (.int v2)], [.ref 3], pv_mm s T)) (by decide +kernel) rfl ?_
    refine pv_e_gr (i := 21) (ci := 4) (j := 2) (b := 12) (pc' := 36) (by decide +kernel) rfl rfl rfl ?_
    refine pv_e_bk (ps := [(36, .iload_n 2, 1), (37, .iconst 0, 1)]) (t' := (0, 0, 38, [some (.ref 3), some (.int v1), some (.int v2)], [.int (0:Int32), .int v2, .ref 12], pv_mm s T)) (by decide +kernel) rfl ?_
    obtain ⟨s8, e9, h⟩ := Option.bind_eq_some_iff.mp h
    refine pv_e_wc (pc' := 39) (by decide +kernel) (by decide) rfl e9 rfl ?_
    refine pv_e_bk (ps := [(39, .aload_n 0, 1)]) (t' := (0, 0, 40, [some (.ref 3), some (.int v1), some (.int v2)], [.ref 3], pv_mm s8 T)) (by decide +kernel) rfl ?_
    refine pv_e_gr (i := 25) (ci := 4) (j := 3) (b := 13) (pc' := 43) (by decide +kernel) rfl rfl rfl ?_
    refine pv_e_bk (ps := [(43, .iload_n 2, 1), (44, .iconst 0, 1)]) (t' := (0, 0, 45, [some (.ref 3), some (.int v1), some (.int v2)], [.int (0:Int32), .int v2, .ref 13], pv_mm s8 T)) (by decide +kernel) rfl ?_
    obtain ⟨s10, e11, h⟩ := Option.bind_eq_some_iff.mp h
    refine pv_e_wc (pc' := 46) (by decide +kernel) (by decide) rfl e11 rfl ?_
    refine pv_e_bk (ps := [(46, .aload_n 0, 1)]) (t' := (0, 0, 47, [some (.ref 3), some (.int v1), some (.int v2)], [.ref 3], pv_mm s10 T)) (by decide +kernel) rfl ?_
    refine pv_e_gr (i := 28) (ci := 4) (j := 4) (b := 14) (pc' := 50) (by decide +kernel) rfl rfl rfl ?_
    refine pv_e_bk (ps := [(50, .iload_n 2, 1), (51, .iconst 0, 1)]) (t' := (0, 0, 52, [some (.ref 3), some (.int v1), some (.int v2)], [.int (0:Int32), .int v2, .ref 14], pv_mm s10 T)) (by decide +kernel) rfl ?_
    obtain ⟨s12, e13, h⟩ := Option.bind_eq_some_iff.mp h
    refine pv_e_wc (pc' := 53) (by decide +kernel) (by decide) rfl e13 rfl ?_
    refine pv_e_bk (ps := [(53, .iinc 2 1, 3), (56, .goto (-30), 3)]) (t' := (0, 0, 26, [some (.ref 3), some (.int v1), some (.int (v2 + (1:Int32)))], [], pv_mm s12 T)) (by decide +kernel) rfl ?_
    obtain rfl := Option.some.inj h
    exact hK
theorem f43_goBack_b2_ok {xs : Nat → Int32} {L d : Nat} {r : Option Value × pv_M} {T : pv_T} {v1 : Int32} (st : Int32 × pv_F) (o : (Int32 × pv_F) ⊕ (Int32 × pv_F)) (h : f43_goBack_b2 v1 st = some o) (hK : pv_Kq (f43_goBack_b2_H xs L d r T v1) (f43_goBack_b2_X xs L d r T v1) o) : f43_goBack_b2_H xs L d r T v1 st := by
  obtain ⟨v2, s⟩ := st
  show pv_Ev xs L (d + 5) 43 (0, 0, 61, [some (.ref 3), some (.int v1), some (.int v2)], [], pv_mm s T) r
  unfold f43_goBack_b2 at h
  dsimp only at h
  refine pv_e_bk (ps := [(61, .iload_n 2, 1), (62, .iload_n 1, 1)]) (t' := (0, 0, 63, [some (.ref 3), some (.int v1), some (.int v2)], [.int v1, .int v2], pv_mm s T)) (by decide +kernel) rfl ?_
  refine pv_e_icmpge (off := 87) (b := 150) (pc' := 66) (by decide +kernel) (by decide +kernel) rfl (fun c16 => ?_) (fun c16 => ?_)
  · rw [if_pos c16] at h
    obtain rfl := Option.some.inj h
    exact hK _
  · rw [if_neg c16] at h
    refine pv_e_bk (ps := [(66, .aload_n 0, 1)]) (t' := (0, 0, 67, [some (.ref 3), some (.int v1), some (.int v2)], [.ref 3], pv_mm s T)) (by decide +kernel) rfl ?_
    refine pv_e_gr (i := 34) (ci := 4) (j := 5) (b := 15) (pc' := 70) (by decide +kernel) rfl rfl rfl ?_
    refine pv_e_gr (i := 61) (ci := 0) (j := 2) (b := 18) (pc' := 73) (by decide +kernel) rfl rfl rfl ?_
    refine pv_e_bk (ps := [(73, .iload_n 2, 1)]) (t' := (0, 0, 74, [some (.ref 3), some (.int v1), some (.int v2)], [.int v2, .ref 18], pv_mm s T)) (by decide +kernel) rfl ?_
    obtain ⟨q17, e18, h⟩ := Option.bind_eq_some_iff.mp h
    refine pv_e_rc (pc' := 75) (by decide +kernel) (by decide) rfl e18 rfl ?_
    obtain ⟨s19, hv20, h⟩ := Option.bind_eq_some_iff.mp h
    have hJ21 : pv_Ev xs L (d + 5) 43 (0, 0, 144, [some (.ref 3), some (.int v1), some (.int v2)], [], pv_mm s19 T) r := by
      refine pv_e_bk (ps := [(144, .iinc 2 1, 3), (147, .goto (-86), 3)]) (t' := (0, 0, 61, [some (.ref 3), some (.int v1), some (.int (v2 + (1:Int32)))], [], pv_mm s19 T)) (by decide +kernel) rfl ?_
      obtain rfl := Option.some.inj h
      exact hK
    clear h
    have h := hv20
    clear hv20
    refine pv_e_ifne (off := 38) (b := 113) (pc' := 78) (by decide +kernel) (by decide +kernel) rfl (fun c22 => ?_) (fun c22 => ?_)
    · rw [if_pos c22] at h
      refine pv_e_bk (ps := [(78, .aload_n 0, 1), (79, .aload_n 0, 1)]) (t' := (0, 0, 80, [some (.ref 3), some (.int v1), some (.int v2)], [.ref 3, .ref 3], pv_mm s T)) (by decide +kernel) rfl ?_
      refine pv_e_gr (i := 34) (ci := 4) (j := 5) (b := 15) (pc' := 83) (by decide +kernel) rfl rfl rfl ?_
      refine pv_e_gr (i := 64) (ci := 0) (j := 0) (b := 16) (pc' := 86) (by decide +kernel) rfl rfl rfl ?_
      refine pv_e_bk (ps := [(86, .iload_n 2, 1)]) (t' := (0, 0, 87, [some (.ref 3), some (.int v1), some (.int v2)], [.int v2, .ref 16, .ref 3], pv_mm s T)) (by decide +kernel) rfl ?_
      obtain ⟨q23, e24, h⟩ := Option.bind_eq_some_iff.mp h
      refine pv_e_rc (pc' := 88) (by decide +kernel) (by decide) rfl e24 rfl ?_
      refine pv_e_bk (ps := [(88, .aload_n 0, 1)]) (t' := (0, 0, 89, [some (.ref 3), some (.int v1), some (.int v2)], [.ref 3, .int q23, .ref 3], pv_mm s T)) (by decide +kernel) rfl ?_
      refine pv_e_gr (i := 34) (ci := 4) (j := 5) (b := 15) (pc' := 92) (by decide +kernel) rfl rfl rfl ?_
      refine pv_e_gr (i := 67) (ci := 0) (j := 1) (b := 17) (pc' := 95) (by decide +kernel) rfl rfl rfl ?_
      refine pv_e_bk (ps := [(95, .iload_n 2, 1)]) (t' := (0, 0, 96, [some (.ref 3), some (.int v1), some (.int v2)], [.int v2, .ref 17, .int q23, .ref 3], pv_mm s T)) (by decide +kernel) rfl ?_
      obtain ⟨q25, e26, h⟩ := Option.bind_eq_some_iff.mp h
      refine pv_e_rc (pc' := 97) (by decide +kernel) (by decide) rfl e26 rfl ?_
      refine pv_e_bk (ps := [(97, .aload_n 0, 1)]) (t' := (0, 0, 98, [some (.ref 3), some (.int v1), some (.int v2)], [.ref 3, .int q25, .int q23, .ref 3], pv_mm s T)) (by decide +kernel) rfl ?_
      refine pv_e_gr (i := 34) (ci := 4) (j := 5) (b := 15) (pc' := 101) (by decide +kernel) rfl rfl rfl ?_
      refine pv_e_gr (i := 70) (ci := 0) (j := 3) (b := 19) (pc' := 104) (by decide +kernel) rfl rfl rfl ?_
      refine pv_e_bk (ps := [(104, .iload_n 2, 1)]) (t' := (0, 0, 105, [some (.ref 3), some (.int v1), some (.int v2)], [.int v2, .ref 19, .int q25, .int q23, .ref 3], pv_mm s T)) (by decide +kernel) rfl ?_
      obtain ⟨q27, e28, h⟩ := Option.bind_eq_some_iff.mp h
      refine pv_e_rc (pc' := 106) (by decide +kernel) (by decide) rfl e28 rfl ?_
      obtain ⟨⟨q30, s31⟩, e29, h⟩ := Option.bind_eq_some_iff.mp h
      dsimp only at h
      refine pv_e_cvi (d := d + 4) (i := 73) (z := 46) (np := 3) (ml := 7) (ci := 4) (As := [.int q23, .int q25, .int q27]) (rs := []) (pc' := 109) (by decide +kernel) rfl rfl rfl rfl (Nat.le_of_ble_eq_true rfl) (Nat.le_of_ble_eq_true rfl) rfl (ee46 (d + 0) q23 q25 q27 e29) ?_
      refine pv_e_bk (ps := [(109, .pop, 1), (110, .goto 34, 3)]) (t' := (0, 0, 144, [some (.ref 3), some (.int v1), some (.int v2)], [], pv_mm s31 T)) (by decide +kernel) rfl ?_
      obtain rfl := Option.some.inj h
      exact hJ21
    · rw [if_neg c22] at h
      refine pv_e_bk (ps := [(113, .aload_n 0, 1), (114, .aload_n 0, 1)]) (t' := (0, 0, 115, [some (.ref 3), some (.int v1), some (.int v2)], [.ref 3, .ref 3], pv_mm s T)) (by decide +kernel) rfl ?_
      refine pv_e_gr (i := 34) (ci := 4) (j := 5) (b := 15) (pc' := 118) (by decide +kernel) rfl rfl rfl ?_
      refine pv_e_gr (i := 67) (ci := 0) (j := 1) (b := 17) (pc' := 121) (by decide +kernel) rfl rfl rfl ?_
      refine pv_e_bk (ps := [(121, .iload_n 2, 1)]) (t' := (0, 0, 122, [some (.ref 3), some (.int v1), some (.int v2)], [.int v2, .ref 17, .ref 3], pv_mm s T)) (by decide +kernel) rfl ?_
      obtain ⟨q32, e33, h⟩ := Option.bind_eq_some_iff.mp h
      refine pv_e_rc (pc' := 123) (by decide +kernel) (by decide) rfl e33 rfl ?_
      refine pv_e_bk (ps := [(123, .aload_n 0, 1)]) (t' := (0, 0, 124, [some (.ref 3), some (.int v1), some (.int v2)], [.ref 3, .int q32, .ref 3], pv_mm s T)) (by decide +kernel) rfl ?_
      refine pv_e_gr (i := 34) (ci := 4) (j := 5) (b := 15) (pc' := 127) (by decide +kernel) rfl rfl rfl ?_
      refine pv_e_gr (i := 61) (ci := 0) (j := 2) (b := 18) (pc' := 130) (by decide +kernel) rfl rfl rfl ?_
      refine pv_e_bk (ps := [(130, .iload_n 2, 1)]) (t' := (0, 0, 131, [some (.ref 3), some (.int v1), some (.int v2)], [.int v2, .ref 18, .int q32, .ref 3], pv_mm s T)) (by decide +kernel) rfl ?_
      obtain ⟨q34, e35, h⟩ := Option.bind_eq_some_iff.mp h
      refine pv_e_rc (pc' := 132) (by decide +kernel) (by decide) rfl e35 rfl ?_
      refine pv_e_bk (ps := [(132, .aload_n 0, 1)]) (t' := (0, 0, 133, [some (.ref 3), some (.int v1), some (.int v2)], [.ref 3, .int q34, .int q32, .ref 3], pv_mm s T)) (by decide +kernel) rfl ?_
      refine pv_e_gr (i := 34) (ci := 4) (j := 5) (b := 15) (pc' := 136) (by decide +kernel) rfl rfl rfl ?_
      refine pv_e_gr (i := 70) (ci := 0) (j := 3) (b := 19) (pc' := 139) (by decide +kernel) rfl rfl rfl ?_
      refine pv_e_bk (ps := [(139, .iload_n 2, 1)]) (t' := (0, 0, 140, [some (.ref 3), some (.int v1), some (.int v2)], [.int v2, .ref 19, .int q34, .int q32, .ref 3], pv_mm s T)) (by decide +kernel) rfl ?_
      obtain ⟨q36, e37, h⟩ := Option.bind_eq_some_iff.mp h
      refine pv_e_rc (pc' := 141) (by decide +kernel) (by decide) rfl e37 rfl ?_
      obtain ⟨s39, e38, h⟩ := Option.bind_eq_some_iff.mp h
      refine pv_e_cvv (d := d + 4) (i := 77) (z := 47) (np := 3) (ml := 4) (ci := 4) (As := [.int q32, .int q34, .int q36]) (rs := []) (pc' := 144) (by decide +kernel) rfl rfl rfl rfl (Nat.le_of_ble_eq_true rfl) (Nat.le_of_ble_eq_true rfl) rfl (ee47 (d + 2) q32 q34 q36 e38) ?_
      obtain rfl := Option.some.inj h
      exact hJ21
theorem ee43 {xs : Nat → Int32} {L : Nat} (d : Nat) (x1 : Int32) {s : pv_F} {T : pv_T} {q : pv_F}  (h : f43_goBack x1 s = some q) : pv_Ev xs L (d + 5) 43 (0, 0, 0, [some (.ref 3), some (.int x1), none], [], pv_mm s T) (none, pv_mm q T) := by
  generalize hr : ((none, pv_mm q T) : Option Value × pv_M) = r
  unfold f43_goBack at h
  refine pv_e_bk (ps := [(0, .aload_n 0, 1)]) (t' := (0, 0, 1, [some (.ref 3), some (.int x1), none], [.ref 3], pv_mm s T)) (by decide +kernel) rfl ?_
  refine pv_e_gr (i := 34) (ci := 4) (j := 5) (b := 15) (pc' := 4) (by decide +kernel) rfl rfl rfl ?_
  refine pv_e_bk (ps := [(4, .iload_n 1, 1)]) (t' := (0, 0, 5, [some (.ref 3), some (.int x1), none], [.int x1, .ref 15], pv_mm s T)) (by decide +kernel) rfl ?_
  obtain ⟨s1, e2, h⟩ := Option.bind_eq_some_iff.mp h
  refine pv_e_pcs (i := 58) (ci := 0) (j := 4) (pc' := 8) (by decide +kernel) rfl rfl (by decide) rfl rfl e2 rfl ?_
  refine pv_e_bk (ps := [(8, .aload_n 0, 1)]) (t' := (0, 0, 9, [some (.ref 3), some (.int x1), none], [.ref 3], pv_mm s1 T)) (by decide +kernel) rfl ?_
  refine pv_e_gr (i := 18) (ci := 4) (j := 1) (b := 8) (pc' := 12) (by decide +kernel) rfl rfl rfl ?_
  refine pv_e_bk (ps := [(12, .aload_n 0, 1)]) (t' := (0, 0, 13, [some (.ref 3), some (.int x1), none], [.ref 3, .ref 8], pv_mm s1 T)) (by decide +kernel) rfl ?_
  refine pv_e_gr (i := 12) (ci := 4) (j := 0) (b := 4) (pc' := 16) (by decide +kernel) rfl rfl rfl ?_
  obtain ⟨s4, e3, h⟩ := Option.bind_eq_some_iff.mp h
  refine pv_e_cvv (d := d + 4) (i := 46) (z := 5) (np := 1) (ml := 2) (ci := 1) (As := [.ref 4]) (rs := []) (pc' := 19) (by decide +kernel) rfl rfl rfl rfl (Nat.le_of_ble_eq_true rfl) (Nat.le_of_ble_eq_true rfl) rfl (ee5 (d + 3) 8 4 (by decide) (by decide) e3) ?_
  refine pv_e_bk (ps := [(19, .aload_n 0, 1), (20, .iconst 0, 1)]) (t' := (0, 0, 21, [some (.ref 3), some (.int x1), none], [.int (0:Int32), .ref 3], pv_mm s4 T)) (by decide +kernel) rfl ?_
  obtain ⟨s5, e6, h⟩ := Option.bind_eq_some_iff.mp h
  refine pv_e_pcs (i := 42) (ci := 4) (j := 7) (pc' := 24) (by decide +kernel) rfl rfl (by decide) rfl rfl e6 rfl ?_
  refine pv_e_bk (ps := [(24, .iconst 0, 1), (25, .istore_n 2, 1)]) (t' := (0, 0, 26, [some (.ref 3), some (.int x1), some (.int (0:Int32))], [], pv_mm s5 T)) (by decide +kernel) rfl ?_
  obtain ⟨⟨w14, s15⟩, e45, h⟩ := Option.bind_eq_some_iff.mp h
  dsimp only at h
  have hx44 : f43_goBack_b1_X xs L d r T x1 (w14, s15) := by
    show ∀ z2 : Option Value, pv_Ev xs L (d + 5) 43 (0, 0, 59, [some (.ref 3), some (.int x1), z2], [], pv_mm s15 T) r
    intro z2
    refine pv_e_bk (ps := [(59, .iconst 0, 1), (60, .istore_n 2, 1)]) (t' := (0, 0, 61, [some (.ref 3), some (.int x1), some (.int (0:Int32))], [], pv_mm s15 T)) (by decide +kernel) rfl ?_
    obtain ⟨⟨w40, s41⟩, e43, h⟩ := Option.bind_eq_some_iff.mp h
    dsimp only at h
    have hx42 : f43_goBack_b2_X xs L d r T x1 (w40, s41) := by
      show ∀ z2 : Option Value, pv_Ev xs L (d + 5) 43 (0, 0, 150, [some (.ref 3), some (.int x1), z2], [], pv_mm s41 T) r
      intro z2
      obtain rfl := Option.some.inj h
      cases hr
      exact pv_e_rv (by decide +kernel)
    exact pv_lq_ok (H := f43_goBack_b2_H xs L d r T x1) (X := f43_goBack_b2_X xs L d r T x1) (f43_goBack_b2_ok (xs := xs) (L := L) (d := d) (r := r) (T := T) (v1 := x1)) 20000 _ _ e43 hx42
  exact pv_lq_ok (H := f43_goBack_b1_H xs L d r T x1) (X := f43_goBack_b1_X xs L d r T x1) (f43_goBack_b1_ok (xs := xs) (L := L) (d := d) (r := r) (T := T) (v1 := x1)) 20000 _ _ e45 hx44
def f42_found_b1 (st : Int32 × pv_F) : Option ((Int32 × pv_F) ⊕ (Int32 × pv_F)) := match st with
  | (v2, s) =>
    if (3:Int32) ≤ v2 then
      some (.inr (v2, s))
    else
      (pv_ra 20 3 v2).bind fun o4 =>
      (pv_pf s o4 5 (0:Int32)).bind fun s7 =>
      some (.inl (v2 + (1:Int32), s7))
def f42_found_b1_H (xs : Nat → Int32) (L d : Nat) (r : Option Value × pv_M) (T : pv_T) (v1 : Nat) (st : Int32 × pv_F) : Prop := match st with
  | (v2, s) => pv_Ev xs L (d + 6) 42 (0, 0, 10, [some (.ref 3), some (.ref v1), some (.int v2)], [], pv_mm s T) r
def f42_found_b1_X (xs : Nat → Int32) (L d : Nat) (r : Option Value × pv_M) (T : pv_T) (v1 : Nat) (st : Int32 × pv_F) : Prop := match st with
  | (v2, s) => ∀ z2 : Option Value, pv_Ev xs L (d + 6) 42 (0, 0, 31, [some (.ref 3), some (.ref v1), z2], [], pv_mm s T) r
def f42_found (x1 : Nat) (s : pv_F) : Option (pv_F) :=
  (f5_take 4 x1 s).bind fun s2 =>
  (pv_lq (f42_found_b1) 20000 ((0:Int32), s2)).bind fun (w9, s10) =>
  (f43_goBack (0:Int32) s10).bind fun s12 =>
  some s12
theorem f42_found_b1_ok {xs : Nat → Int32} {L d : Nat} {r : Option Value × pv_M} {T : pv_T} {v1 : Nat} (st : Int32 × pv_F) (o : (Int32 × pv_F) ⊕ (Int32 × pv_F)) (h : f42_found_b1 st = some o) (hK : pv_Kq (f42_found_b1_H xs L d r T v1) (f42_found_b1_X xs L d r T v1) o) : f42_found_b1_H xs L d r T v1 st := by
  obtain ⟨v2, s⟩ := st
  show pv_Ev xs L (d + 6) 42 (0, 0, 10, [some (.ref 3), some (.ref v1), some (.int v2)], [], pv_mm s T) r
  unfold f42_found_b1 at h
  dsimp only at h
  refine pv_e_bk (ps := [(10, .iload_n 2, 1), (11, .iconst 3, 1)]) (t' := (0, 0, 12, [some (.ref 3), some (.ref v1), some (.int v2)], [.int (3:Int32), .int v2], pv_mm s T)) (by decide +kernel) rfl ?_
  refine pv_e_icmpge (off := 19) (b := 31) (pc' := 15) (by decide +kernel) (by decide +kernel) rfl (fun c3 => ?_) (fun c3 => ?_)
  · rw [if_pos c3] at h
    obtain rfl := Option.some.inj h
    exact hK _
  · rw [if_neg c3] at h
    refine pv_e_bk (ps := [(15, .aload_n 0, 1)]) (t' := (0, 0, 16, [some (.ref 3), some (.ref v1), some (.int v2)], [.ref 3], pv_mm s T)) (by decide +kernel) rfl ?_
    refine pv_e_gr (i := 38) (ci := 4) (j := 6) (b := 20) (pc' := 19) (by decide +kernel) rfl rfl rfl ?_
    refine pv_e_bk (ps := [(19, .iload_n 2, 1)]) (t' := (0, 0, 20, [some (.ref 3), some (.ref v1), some (.int v2)], [.int v2, .ref 20], pv_mm s T)) (by decide +kernel) rfl ?_
    obtain ⟨o4, e5, h⟩ := Option.bind_eq_some_iff.mp h
    have g6 := ra_kept e5
    refine pv_e_ra (zz := 3) (pc' := 21) (by decide +kernel) rfl (by decide) e5 rfl ?_
    refine pv_e_bk (ps := [(21, .iconst 0, 1)]) (t' := (0, 0, 22, [some (.ref 3), some (.ref v1), some (.int v2)], [.int (0:Int32), .ref o4], pv_mm s T)) (by decide +kernel) rfl ?_
    obtain ⟨s7, e8, h⟩ := Option.bind_eq_some_iff.mp h
    refine pv_e_pcs (i := 50) (ci := 0) (j := 5) (pc' := 25) (by decide +kernel) (by decide +kernel) (by decide +kernel) (by have := (dd g6).2.2.2.2.2; omega) (dd g6).1 rfl e8 rfl ?_
    refine pv_e_bk (ps := [(25, .iinc 2 1, 3), (28, .goto (-18), 3)]) (t' := (0, 0, 10, [some (.ref 3), some (.ref v1), some (.int (v2 + (1:Int32)))], [], pv_mm s7 T)) (by decide +kernel) rfl ?_
    obtain rfl := Option.some.inj h
    exact hK
theorem ee42 {xs : Nat → Int32} {L : Nat} (d : Nat) (x1 : Nat) {s : pv_F} {T : pv_T} {q : pv_F} (g1 : x1 ∈ pv_folks) (h : f42_found x1 s = some q) : pv_Ev xs L (d + 6) 42 (0, 0, 0, [some (.ref 3), some (.ref x1), none], [], pv_mm s T) (none, pv_mm q T) := by
  generalize hr : ((none, pv_mm q T) : Option Value × pv_M) = r
  unfold f42_found at h
  refine pv_e_bk (ps := [(0, .aload_n 0, 1)]) (t' := (0, 0, 1, [some (.ref 3), some (.ref x1), none], [.ref 3], pv_mm s T)) (by decide +kernel) rfl ?_
  refine pv_e_gr (i := 12) (ci := 4) (j := 0) (b := 4) (pc' := 4) (by decide +kernel) rfl rfl rfl ?_
  refine pv_e_bk (ps := [(4, .aload_n 1, 1)]) (t' := (0, 0, 5, [some (.ref 3), some (.ref x1), none], [.ref x1, .ref 4], pv_mm s T)) (by decide +kernel) rfl ?_
  obtain ⟨s2, e1, h⟩ := Option.bind_eq_some_iff.mp h
  refine pv_e_cvv (d := d + 5) (i := 46) (z := 5) (np := 1) (ml := 2) (ci := 1) (As := [.ref x1]) (rs := []) (pc' := 8) (by decide +kernel) rfl rfl rfl rfl (Nat.le_of_ble_eq_true rfl) (Nat.le_of_ble_eq_true rfl) rfl (ee5 (d + 4) 4 x1 (by decide) g1 e1) ?_
  refine pv_e_bk (ps := [(8, .iconst 0, 1), (9, .istore_n 2, 1)]) (t' := (0, 0, 10, [some (.ref 3), some (.ref x1), some (.int (0:Int32))], [], pv_mm s2 T)) (by decide +kernel) rfl ?_
  obtain ⟨⟨w9, s10⟩, e14, h⟩ := Option.bind_eq_some_iff.mp h
  dsimp only at h
  have hx13 : f42_found_b1_X xs L d r T x1 (w9, s10) := by
    show ∀ z2 : Option Value, pv_Ev xs L (d + 6) 42 (0, 0, 31, [some (.ref 3), some (.ref x1), z2], [], pv_mm s10 T) r
    intro z2
    refine pv_e_bk (ps := [(31, .aload_n 0, 1), (32, .iconst 0, 1)]) (t' := (0, 0, 33, [some (.ref 3), some (.ref x1), z2], [.int (0:Int32), .ref 3], pv_mm s10 T)) (by decide +kernel) rfl ?_
    obtain ⟨s12, e11, h⟩ := Option.bind_eq_some_iff.mp h
    refine pv_e_cvv (d := d + 5) (i := 54) (z := 43) (np := 1) (ml := 3) (ci := 4) (As := [.int (0:Int32)]) (rs := []) (pc' := 36) (by decide +kernel) rfl rfl rfl rfl (Nat.le_of_ble_eq_true rfl) (Nat.le_of_ble_eq_true rfl) rfl (ee43 (d + 0) (0:Int32) e11) ?_
    obtain rfl := Option.some.inj h
    cases hr
    exact pv_e_rv (by decide +kernel)
  exact pv_lq_ok (H := f42_found_b1_H xs L d r T x1) (X := f42_found_b1_X xs L d r T x1) (f42_found_b1_ok (xs := xs) (L := L) (d := d) (r := r) (T := T) (v1 := x1)) 20000 _ _ e14 hx13
def f44_callOut (x1 : Int32) (x2 : Int32) (x3 : Int32) (s : pv_F) : Option (Int32 × pv_F) :=
  (f2_add 15 x1 x2 (0:Int32) x3 s).bind fun s2 =>
  (f46_carryOutCall x1 x2 x3 s2).bind fun (q4, s5) =>
  some (q4, s5)
theorem ee44 {xs : Nat → Int32} {L : Nat} (d : Nat) (x1 : Int32) (x2 : Int32) (x3 : Int32) {s : pv_F} {T : pv_T} {q : Int32 × pv_F}  (h : f44_callOut x1 x2 x3 s = some q) : pv_Ev xs L (d + 5) 44 (0, 0, 0, [some (.ref 3), some (.int x1), some (.int x2), some (.int x3)], [], pv_mm s T) (some (.int q.1), pv_mm q.2 T) := by
  generalize hr : ((some (.int q.1), pv_mm q.2 T) : Option Value × pv_M) = r
  unfold f44_callOut at h
  refine pv_e_bk (ps := [(0, .aload_n 0, 1)]) (t' := (0, 0, 1, [some (.ref 3), some (.int x1), some (.int x2), some (.int x3)], [.ref 3], pv_mm s T)) (by decide +kernel) rfl ?_
  refine pv_e_gr (i := 34) (ci := 4) (j := 5) (b := 15) (pc' := 4) (by decide +kernel) rfl rfl rfl ?_
  refine pv_e_bk (ps := [(4, .iload_n 1, 1), (5, .iload_n 2, 1), (6, .iconst 0, 1), (7, .iload_n 3, 1)]) (t' := (0, 0, 8, [some (.ref 3), some (.int x1), some (.int x2), some (.int x3)], [.int x3, .int (0:Int32), .int x2, .int x1, .ref 15], pv_mm s T)) (by decide +kernel) rfl ?_
  obtain ⟨s2, e1, h⟩ := Option.bind_eq_some_iff.mp h
  refine pv_e_cvv (d := d + 4) (i := 81) (z := 2) (np := 4) (ml := 5) (ci := 0) (As := [.int x1, .int x2, .int (0:Int32), .int x3]) (rs := []) (pc' := 11) (by decide +kernel) rfl rfl rfl rfl (Nat.le_of_ble_eq_true rfl) (Nat.le_of_ble_eq_true rfl) rfl (ee2 (d + 3) 15 x1 x2 (0:Int32) x3 (by decide) e1) ?_
  refine pv_e_bk (ps := [(11, .aload_n 0, 1), (12, .iload_n 1, 1), (13, .iload_n 2, 1), (14, .iload_n 3, 1)]) (t' := (0, 0, 15, [some (.ref 3), some (.int x1), some (.int x2), some (.int x3)], [.int x3, .int x2, .int x1, .ref 3], pv_mm s2 T)) (by decide +kernel) rfl ?_
  obtain ⟨⟨q4, s5⟩, e3, h⟩ := Option.bind_eq_some_iff.mp h
  dsimp only at h
  refine pv_e_cvi (d := d + 4) (i := 73) (z := 46) (np := 3) (ml := 7) (ci := 4) (As := [.int x1, .int x2, .int x3]) (rs := []) (pc' := 18) (by decide +kernel) rfl rfl rfl rfl (Nat.le_of_ble_eq_true rfl) (Nat.le_of_ble_eq_true rfl) rfl (ee46 (d + 0) x1 x2 x3 e3) ?_
  obtain rfl := Option.some.inj h
  cases hr
  exact pv_e_ri (by decide +kernel)
def f45_mendName (x1 : Int32) (x2 : Int32) (x3 : Int32) (x4 : Int32) (s : pv_F) : Option (pv_F) :=
  (f2_add 15 x1 x2 x3 x4 s).bind fun s2 =>
  (f47_carryOutMending x2 x3 x4 s2).bind fun s4 =>
  some s4
theorem ee45 {xs : Nat → Int32} {L : Nat} (d : Nat) (x1 : Int32) (x2 : Int32) (x3 : Int32) (x4 : Int32) {s : pv_F} {T : pv_T} {q : pv_F}  (h : f45_mendName x1 x2 x3 x4 s = some q) : pv_Ev xs L (d + 3) 45 (0, 0, 0, [some (.ref 3), some (.int x1), some (.int x2), some (.int x3), some (.int x4)], [], pv_mm s T) (none, pv_mm q T) := by
  generalize hr : ((none, pv_mm q T) : Option Value × pv_M) = r
  unfold f45_mendName at h
  refine pv_e_bk (ps := [(0, .aload_n 0, 1)]) (t' := (0, 0, 1, [some (.ref 3), some (.int x1), some (.int x2), some (.int x3), some (.int x4)], [.ref 3], pv_mm s T)) (by decide +kernel) rfl ?_
  refine pv_e_gr (i := 34) (ci := 4) (j := 5) (b := 15) (pc' := 4) (by decide +kernel) rfl rfl rfl ?_
  refine pv_e_bk (ps := [(4, .iload_n 1, 1), (5, .iload_n 2, 1), (6, .iload_n 3, 1), (7, .iload 4, 2)]) (t' := (0, 0, 9, [some (.ref 3), some (.int x1), some (.int x2), some (.int x3), some (.int x4)], [.int x4, .int x3, .int x2, .int x1, .ref 15], pv_mm s T)) (by decide +kernel) rfl ?_
  obtain ⟨s2, e1, h⟩ := Option.bind_eq_some_iff.mp h
  refine pv_e_cvv (d := d + 2) (i := 81) (z := 2) (np := 4) (ml := 5) (ci := 0) (As := [.int x1, .int x2, .int x3, .int x4]) (rs := []) (pc' := 12) (by decide +kernel) rfl rfl rfl rfl (Nat.le_of_ble_eq_true rfl) (Nat.le_of_ble_eq_true rfl) rfl (ee2 (d + 1) 15 x1 x2 x3 x4 (by decide) e1) ?_
  refine pv_e_bk (ps := [(12, .aload_n 0, 1), (13, .iload_n 2, 1), (14, .iload_n 3, 1), (15, .iload 4, 2)]) (t' := (0, 0, 17, [some (.ref 3), some (.int x1), some (.int x2), some (.int x3), some (.int x4)], [.int x4, .int x3, .int x2, .ref 3], pv_mm s2 T)) (by decide +kernel) rfl ?_
  obtain ⟨s4, e3, h⟩ := Option.bind_eq_some_iff.mp h
  refine pv_e_cvv (d := d + 2) (i := 77) (z := 47) (np := 3) (ml := 4) (ci := 4) (As := [.int x2, .int x3, .int x4]) (rs := []) (pc' := 20) (by decide +kernel) rfl rfl rfl rfl (Nat.le_of_ble_eq_true rfl) (Nat.le_of_ble_eq_true rfl) rfl (ee47 (d + 0) x2 x3 x4 e3) ?_
  obtain rfl := Option.some.inj h
  cases hr
  exact pv_e_rv (by decide +kernel)
def f48_fact (x1 : Int32) (x2 : Int32) (s : pv_F) : Option (Int32) :=
  if x2 = (0:Int32) then
    (pv_rd s 9 7 x1).bind fun q2 =>
    some q2
  else
    if x2 = (1:Int32) then
      (pv_rd s 10 7 x1).bind fun q5 =>
      (f217_size q5).bind fun q8 =>
      some q8
    else
      if x2 = (2:Int32) then
        (pv_rd s 12 7 x1).bind fun q10 =>
        some q10
      else
        if x2 = (3:Int32) then
          (pv_rd s 13 7 x1).bind fun q13 =>
          some q13
        else
          (pv_rd s 14 7 x1).bind fun q15 =>
          some q15
theorem ee48 {xs : Nat → Int32} {L : Nat} (d : Nat) (x1 : Int32) (x2 : Int32) {s : pv_F} {T : pv_T} {q : Int32}  (h : f48_fact x1 x2 s = some q) : pv_Ev xs L (d + 1) 48 (0, 0, 0, [some (.ref 3), some (.int x1), some (.int x2)], [], pv_mm s T) (some (.int q), pv_mm s T) := by
  generalize hr : ((some (.int q), pv_mm s T) : Option Value × pv_M) = r
  unfold f48_fact at h
  refine pv_e_bk (ps := [(0, .iload_n 2, 1)]) (t' := (0, 0, 1, [some (.ref 3), some (.int x1), some (.int x2)], [.int x2], pv_mm s T)) (by decide +kernel) rfl ?_
  by_cases c1 : x2 = (0:Int32)
  · rw [if_pos c1] at h
    refine pv_e_swin (dflt := 68) (lo := 0) (hi := 3) (offs := #[31, 41, 54, 61]) (len := 31) (off := 31) (b := 32) (by decide +kernel) (by rw [c1]; decide +kernel) (by rw [c1]; decide +kernel) (by decide +kernel) ?_
    refine pv_e_bk (ps := [(32, .aload_n 0, 1)]) (t' := (0, 0, 33, [some (.ref 3), some (.int x1), some (.int x2)], [.ref 3], pv_mm s T)) (by decide +kernel) rfl ?_
    refine pv_e_gr (i := 18) (ci := 4) (j := 1) (b := 8) (pc' := 36) (by decide +kernel) rfl rfl rfl ?_
    refine pv_e_gr (i := 101) (ci := 1) (j := 0) (b := 9) (pc' := 39) (by decide +kernel) rfl rfl rfl ?_
    refine pv_e_bk (ps := [(39, .iload_n 1, 1)]) (t' := (0, 0, 40, [some (.ref 3), some (.int x1), some (.int x2)], [.int x1, .ref 9], pv_mm s T)) (by decide +kernel) rfl ?_
    obtain ⟨q2, e3, h⟩ := Option.bind_eq_some_iff.mp h
    refine pv_e_rc (pc' := 41) (by decide +kernel) (by decide) rfl e3 rfl ?_
    obtain rfl := Option.some.inj h
    cases hr
    exact pv_e_ri (by decide +kernel)
  · rw [if_neg c1] at h
    by_cases c4 : x2 = (1:Int32)
    · rw [if_pos c4] at h
      refine pv_e_swin (dflt := 68) (lo := 0) (hi := 3) (offs := #[31, 41, 54, 61]) (len := 31) (off := 41) (b := 42) (by decide +kernel) (by rw [c4]; decide +kernel) (by rw [c4]; decide +kernel) (by decide +kernel) ?_
      refine pv_e_bk (ps := [(42, .aload_n 0, 1)]) (t' := (0, 0, 43, [some (.ref 3), some (.int x1), some (.int x2)], [.ref 3], pv_mm s T)) (by decide +kernel) rfl ?_
      refine pv_e_gr (i := 18) (ci := 4) (j := 1) (b := 8) (pc' := 46) (by decide +kernel) rfl rfl rfl ?_
      refine pv_e_gr (i := 93) (ci := 1) (j := 1) (b := 10) (pc' := 49) (by decide +kernel) rfl rfl rfl ?_
      refine pv_e_bk (ps := [(49, .iload_n 1, 1)]) (t' := (0, 0, 50, [some (.ref 3), some (.int x1), some (.int x2)], [.int x1, .ref 10], pv_mm s T)) (by decide +kernel) rfl ?_
      obtain ⟨q5, e6, h⟩ := Option.bind_eq_some_iff.mp h
      refine pv_e_rc (pc' := 51) (by decide +kernel) (by decide) rfl e6 rfl ?_
      obtain ⟨q8, e7, h⟩ := Option.bind_eq_some_iff.mp h
      refine pv_e_csi (d := d + 0) (i := 104) (z := 217) (np := 1) (ml := 2) (As := [.int q5]) (rs := []) (pc' := 54) (by decide +kernel) rfl rfl rfl (Nat.le_of_ble_eq_true rfl) (Nat.le_of_ble_eq_true rfl) rfl (ee217 (d + 0) q5 e7) ?_
      obtain rfl := Option.some.inj h
      cases hr
      exact pv_e_ri (by decide +kernel)
    · rw [if_neg c4] at h
      by_cases c9 : x2 = (2:Int32)
      · rw [if_pos c9] at h
        refine pv_e_swin (dflt := 68) (lo := 0) (hi := 3) (offs := #[31, 41, 54, 61]) (len := 31) (off := 54) (b := 55) (by decide +kernel) (by rw [c9]; decide +kernel) (by rw [c9]; decide +kernel) (by decide +kernel) ?_
        refine pv_e_bk (ps := [(55, .aload_n 0, 1)]) (t' := (0, 0, 56, [some (.ref 3), some (.int x1), some (.int x2)], [.ref 3], pv_mm s T)) (by decide +kernel) rfl ?_
        refine pv_e_gr (i := 21) (ci := 4) (j := 2) (b := 12) (pc' := 59) (by decide +kernel) rfl rfl rfl ?_
        refine pv_e_bk (ps := [(59, .iload_n 1, 1)]) (t' := (0, 0, 60, [some (.ref 3), some (.int x1), some (.int x2)], [.int x1, .ref 12], pv_mm s T)) (by decide +kernel) rfl ?_
        obtain ⟨q10, e11, h⟩ := Option.bind_eq_some_iff.mp h
        refine pv_e_rc (pc' := 61) (by decide +kernel) (by decide) rfl e11 rfl ?_
        obtain rfl := Option.some.inj h
        cases hr
        exact pv_e_ri (by decide +kernel)
      · rw [if_neg c9] at h
        by_cases c12 : x2 = (3:Int32)
        · rw [if_pos c12] at h
          refine pv_e_swin (dflt := 68) (lo := 0) (hi := 3) (offs := #[31, 41, 54, 61]) (len := 31) (off := 61) (b := 62) (by decide +kernel) (by rw [c12]; decide +kernel) (by rw [c12]; decide +kernel) (by decide +kernel) ?_
          refine pv_e_bk (ps := [(62, .aload_n 0, 1)]) (t' := (0, 0, 63, [some (.ref 3), some (.int x1), some (.int x2)], [.ref 3], pv_mm s T)) (by decide +kernel) rfl ?_
          refine pv_e_gr (i := 25) (ci := 4) (j := 3) (b := 13) (pc' := 66) (by decide +kernel) rfl rfl rfl ?_
          refine pv_e_bk (ps := [(66, .iload_n 1, 1)]) (t' := (0, 0, 67, [some (.ref 3), some (.int x1), some (.int x2)], [.int x1, .ref 13], pv_mm s T)) (by decide +kernel) rfl ?_
          obtain ⟨q13, e14, h⟩ := Option.bind_eq_some_iff.mp h
          refine pv_e_rc (pc' := 68) (by decide +kernel) (by decide) rfl e14 rfl ?_
          obtain rfl := Option.some.inj h
          cases hr
          exact pv_e_ri (by decide +kernel)
        · rw [if_neg c12] at h
          refine pv_e_swout (dflt := 68) (lo := 0) (hi := 3) (offs := #[31, 41, 54, 61]) (len := 31) (b := 69) (by decide +kernel) ?_ (by decide +kernel) ?_
          · have nc1 : x2.toInt ≠ (0 : Int) := fun e9 => c1 (Int32.toInt_inj.mp (e9.trans (by decide +kernel)))
            have nc4 : x2.toInt ≠ (1 : Int) := fun e9 => c4 (Int32.toInt_inj.mp (e9.trans (by decide +kernel)))
            have nc9 : x2.toInt ≠ (2 : Int) := fun e9 => c9 (Int32.toInt_inj.mp (e9.trans (by decide +kernel)))
            have nc12 : x2.toInt ≠ (3 : Int) := fun e9 => c12 (Int32.toInt_inj.mp (e9.trans (by decide +kernel)))
            omega
          · refine pv_e_bk (ps := [(69, .aload_n 0, 1)]) (t' := (0, 0, 70, [some (.ref 3), some (.int x1), some (.int x2)], [.ref 3], pv_mm s T)) (by decide +kernel) rfl ?_
            refine pv_e_gr (i := 28) (ci := 4) (j := 4) (b := 14) (pc' := 73) (by decide +kernel) rfl rfl rfl ?_
            refine pv_e_bk (ps := [(73, .iload_n 1, 1)]) (t' := (0, 0, 74, [some (.ref 3), some (.int x1), some (.int x2)], [.int x1, .ref 14], pv_mm s T)) (by decide +kernel) rfl ?_
            obtain ⟨q15, e16, h⟩ := Option.bind_eq_some_iff.mp h
            refine pv_e_rc (pc' := 75) (by decide +kernel) (by decide) rfl e16 rfl ?_
            obtain rfl := Option.some.inj h
            cases hr
            exact pv_e_ri (by decide +kernel)
def f49_sum_b1 (v1 : Nat) (s : pv_F) (st : Int32 × Int32) : Option ((Int32 × Int32) ⊕ (Int32 × Int32)) := match st with
  | (v2, v3) =>
    if (s 8 3) ≤ v3 then
      some (.inr (v2, v3))
    else
      (pv_rd s v1 (pv_an v1) v3).bind fun q2 =>
      some (.inl (v2 + q2, v3 + (1:Int32)))
def f49_sum_b1_H (xs : Nat → Int32) (L d : Nat) (r : Option Value × pv_M) (T : pv_T) (v1 : Nat) (s : pv_F) (st : Int32 × Int32) : Prop := match st with
  | (v2, v3) => pv_Ev xs L (d + 0) 49 (0, 0, 4, [some (.ref 3), some (.ref v1), some (.int v2), some (.int v3)], [], pv_mm s T) r
def f49_sum_b1_X (xs : Nat → Int32) (L d : Nat) (r : Option Value × pv_M) (T : pv_T) (v1 : Nat) (s : pv_F) (st : Int32 × Int32) : Prop := match st with
  | (v2, v3) => ∀ z3 : Option Value, pv_Ev xs L (d + 0) 49 (0, 0, 27, [some (.ref 3), some (.ref v1), some (.int v2), z3], [], pv_mm s T) r
def f49_sum (x1 : Nat) (s : pv_F) : Option (Int32) :=
  (pv_lq (f49_sum_b1 x1 s) 20000 ((0:Int32), (0:Int32))).bind fun (w4, w5) =>
  some w4
theorem f49_sum_b1_ok {xs : Nat → Int32} {L d : Nat} {r : Option Value × pv_M} {T : pv_T} {v1 : Nat} {s : pv_F} (g1 : v1 ∈ pv_ias) (st : Int32 × Int32) (o : (Int32 × Int32) ⊕ (Int32 × Int32)) (h : f49_sum_b1 v1 s st = some o) (hK : pv_Kq (f49_sum_b1_H xs L d r T v1 s) (f49_sum_b1_X xs L d r T v1 s) o) : f49_sum_b1_H xs L d r T v1 s st := by
  obtain ⟨v2, v3⟩ := st
  show pv_Ev xs L (d + 0) 49 (0, 0, 4, [some (.ref 3), some (.ref v1), some (.int v2), some (.int v3)], [], pv_mm s T) r
  unfold f49_sum_b1 at h
  dsimp only at h
  refine pv_e_bk (ps := [(4, .iload_n 3, 1), (5, .aload_n 0, 1)]) (t' := (0, 0, 6, [some (.ref 3), some (.ref v1), some (.int v2), some (.int v3)], [.ref 3, .int v3], pv_mm s T)) (by decide +kernel) rfl ?_
  refine pv_e_gr (i := 18) (ci := 4) (j := 1) (b := 8) (pc' := 9) (by decide +kernel) rfl rfl rfl ?_
  refine pv_e_gc (i := 92) (ci := 1) (j := 3) (pc' := 12) (by decide +kernel) (by decide) rfl rfl rfl ?_
  refine pv_e_icmpge (off := 15) (b := 27) (pc' := 15) (by decide +kernel) (by decide +kernel) rfl (fun c1 => ?_) (fun c1 => ?_)
  · rw [if_pos c1] at h
    obtain rfl := Option.some.inj h
    exact hK _
  · rw [if_neg c1] at h
    refine pv_e_bk (ps := [(15, .iload_n 2, 1), (16, .aload_n 1, 1), (17, .iload_n 3, 1)]) (t' := (0, 0, 18, [some (.ref 3), some (.ref v1), some (.int v2), some (.int v3)], [.int v3, .ref v1, .int v2], pv_mm s T)) (by decide +kernel) rfl ?_
    obtain ⟨q2, e3, h⟩ := Option.bind_eq_some_iff.mp h
    refine pv_e_rc (pc' := 19) (by decide +kernel) (ia g1).2 (ia g1).1 e3 rfl ?_
    refine pv_e_bk (ps := [(19, .iadd, 1), (20, .istore_n 2, 1), (21, .iinc 3 1, 3), (24, .goto (-20), 3)]) (t' := (0, 0, 4, [some (.ref 3), some (.ref v1), some (.int (v2 + q2)), some (.int (v3 + (1:Int32)))], [], pv_mm s T)) (by decide +kernel) rfl ?_
    obtain rfl := Option.some.inj h
    exact hK
theorem ee49 {xs : Nat → Int32} {L : Nat} (d : Nat) (x1 : Nat) {s : pv_F} {T : pv_T} {q : Int32} (g1 : x1 ∈ pv_ias) (h : f49_sum x1 s = some q) : pv_Ev xs L (d + 0) 49 (0, 0, 0, [some (.ref 3), some (.ref x1), none, none], [], pv_mm s T) (some (.int q), pv_mm s T) := by
  generalize hr : ((some (.int q), pv_mm s T) : Option Value × pv_M) = r
  unfold f49_sum at h
  refine pv_e_bk (ps := [(0, .iconst 0, 1), (1, .istore_n 2, 1), (2, .iconst 0, 1), (3, .istore_n 3, 1)]) (t' := (0, 0, 4, [some (.ref 3), some (.ref x1), some (.int (0:Int32)), some (.int (0:Int32))], [], pv_mm s T)) (by decide +kernel) rfl ?_
  obtain ⟨⟨w4, w5⟩, e7, h⟩ := Option.bind_eq_some_iff.mp h
  dsimp only at h
  have hx6 : f49_sum_b1_X xs L d r T x1 s (w4, w5) := by
    show ∀ z3 : Option Value, pv_Ev xs L (d + 0) 49 (0, 0, 27, [some (.ref 3), some (.ref x1), some (.int w4), z3], [], pv_mm s T) r
    intro z3
    refine pv_e_bk (ps := [(27, .iload_n 2, 1)]) (t' := (0, 0, 28, [some (.ref 3), some (.ref x1), some (.int w4), z3], [.int w4], pv_mm s T)) (by decide +kernel) rfl ?_
    obtain rfl := Option.some.inj h
    cases hr
    exact pv_e_ri (by decide +kernel)
  exact pv_lq_ok (H := f49_sum_b1_H xs L d r T x1 s) (X := f49_sum_b1_X xs L d r T x1 s) (f49_sum_b1_ok (xs := xs) (L := L) (d := d) (r := r) (T := T) (v1 := x1) (s := s) g1) 20000 _ _ e7 hx6
def f50_keptTowns_b1 (s : pv_F) (st : Int32 × Int32) : Option ((Int32 × Int32) ⊕ (Int32 × Int32)) := match st with
  | (v1, v2) =>
    if (3:Int32) ≤ v2 then
      some (.inr (v1, v2))
    else
      (pv_ra 20 3 v2).bind fun o2 =>
      ((
        if (s o2 5) = 0 then
          some (0:Int32)
        else
          some (1:Int32)) : Option (Int32)).bind fun t5 =>
      some (.inl (v1 + t5, v2 + (1:Int32)))
def f50_keptTowns_b1_H (xs : Nat → Int32) (L d : Nat) (r : Option Value × pv_M) (T : pv_T) (s : pv_F) (st : Int32 × Int32) : Prop := match st with
  | (v1, v2) => pv_Ev xs L (d + 0) 50 (0, 0, 4, [some (.ref 3), some (.int v1), some (.int v2)], [], pv_mm s T) r
def f50_keptTowns_b1_X (xs : Nat → Int32) (L d : Nat) (r : Option Value × pv_M) (T : pv_T) (s : pv_F) (st : Int32 × Int32) : Prop := match st with
  | (v1, v2) => ∀ z2 : Option Value, pv_Ev xs L (d + 0) 50 (0, 0, 35, [some (.ref 3), some (.int v1), z2], [], pv_mm s T) r
def f50_keptTowns (s : pv_F) : Option (Int32) :=
  (pv_lq (f50_keptTowns_b1 s) 20000 ((0:Int32), (0:Int32))).bind fun (w9, w10) =>
  some w9
theorem f50_keptTowns_b1_ok {xs : Nat → Int32} {L d : Nat} {r : Option Value × pv_M} {T : pv_T} {s : pv_F} (st : Int32 × Int32) (o : (Int32 × Int32) ⊕ (Int32 × Int32)) (h : f50_keptTowns_b1 s st = some o) (hK : pv_Kq (f50_keptTowns_b1_H xs L d r T s) (f50_keptTowns_b1_X xs L d r T s) o) : f50_keptTowns_b1_H xs L d r T s st := by
  obtain ⟨v1, v2⟩ := st
  show pv_Ev xs L (d + 0) 50 (0, 0, 4, [some (.ref 3), some (.int v1), some (.int v2)], [], pv_mm s T) r
  unfold f50_keptTowns_b1 at h
  dsimp only at h
  refine pv_e_bk (ps := [(4, .iload_n 2, 1), (5, .iconst 3, 1)]) (t' := (0, 0, 6, [some (.ref 3), some (.int v1), some (.int v2)], [.int (3:Int32), .int v2], pv_mm s T)) (by decide +kernel) rfl ?_
  refine pv_e_icmpge (off := 29) (b := 35) (pc' := 9) (by decide +kernel) (by decide +kernel) rfl (fun c1 => ?_) (fun c1 => ?_)
  · rw [if_pos c1] at h
    obtain rfl := Option.some.inj h
    exact hK _
  · rw [if_neg c1] at h
    refine pv_e_bk (ps := [(9, .iload_n 1, 1), (10, .aload_n 0, 1)]) (t' := (0, 0, 11, [some (.ref 3), some (.int v1), some (.int v2)], [.ref 3, .int v1], pv_mm s T)) (by decide +kernel) rfl ?_
    refine pv_e_gr (i := 38) (ci := 4) (j := 6) (b := 20) (pc' := 14) (by decide +kernel) rfl rfl rfl ?_
    refine pv_e_bk (ps := [(14, .iload_n 2, 1)]) (t' := (0, 0, 15, [some (.ref 3), some (.int v1), some (.int v2)], [.int v2, .ref 20, .int v1], pv_mm s T)) (by decide +kernel) rfl ?_
    obtain ⟨o2, e3, h⟩ := Option.bind_eq_some_iff.mp h
    have g4 := ra_kept e3
    refine pv_e_ra (zz := 3) (pc' := 16) (by decide +kernel) rfl (by decide) e3 rfl ?_
    refine pv_e_gc (i := 50) (ci := 0) (j := 5) (pc' := 19) (by decide +kernel) (by have := (dd g4).2.2.2.2.2; omega) (dd g4).1 rfl rfl ?_
    obtain ⟨t5, hv6, h⟩ := Option.bind_eq_some_iff.mp h
    have hJ7 : pv_Ev xs L (d + 0) 50 (0, 0, 27, [some (.ref 3), some (.int v1), some (.int v2)], [.int t5, .int v1], pv_mm s T) r := by
      refine pv_e_bk (ps := [(27, .iadd, 1), (28, .istore_n 1, 1), (29, .iinc 2 1, 3), (32, .goto (-28), 3)]) (t' := (0, 0, 4, [some (.ref 3), some (.int (v1 + t5)), some (.int (v2 + (1:Int32)))], [], pv_mm s T)) (by decide +kernel) rfl ?_
      obtain rfl := Option.some.inj h
      exact hK
    clear h
    have h := hv6
    clear hv6
    refine pv_e_ifeq (off := 7) (b := 26) (pc' := 22) (by decide +kernel) (by decide +kernel) rfl (fun c8 => ?_) (fun c8 => ?_)
    · rw [if_pos c8] at h
      refine pv_e_bk (ps := [(26, .iconst 0, 1)]) (t' := (0, 0, 27, [some (.ref 3), some (.int v1), some (.int v2)], [.int (0:Int32), .int v1], pv_mm s T)) (by decide +kernel) rfl ?_
      obtain rfl := Option.some.inj h
      exact hJ7
    · rw [if_neg c8] at h
      refine pv_e_bk (ps := [(22, .iconst 1, 1), (23, .goto 4, 3)]) (t' := (0, 0, 27, [some (.ref 3), some (.int v1), some (.int v2)], [.int (1:Int32), .int v1], pv_mm s T)) (by decide +kernel) rfl ?_
      obtain rfl := Option.some.inj h
      exact hJ7
theorem ee50 {xs : Nat → Int32} {L : Nat} (d : Nat)  {s : pv_F} {T : pv_T} {q : Int32}  (h : f50_keptTowns s = some q) : pv_Ev xs L (d + 0) 50 (0, 0, 0, [some (.ref 3), none, none], [], pv_mm s T) (some (.int q), pv_mm s T) := by
  generalize hr : ((some (.int q), pv_mm s T) : Option Value × pv_M) = r
  unfold f50_keptTowns at h
  refine pv_e_bk (ps := [(0, .iconst 0, 1), (1, .istore_n 1, 1), (2, .iconst 0, 1), (3, .istore_n 2, 1)]) (t' := (0, 0, 4, [some (.ref 3), some (.int (0:Int32)), some (.int (0:Int32))], [], pv_mm s T)) (by decide +kernel) rfl ?_
  obtain ⟨⟨w9, w10⟩, e12, h⟩ := Option.bind_eq_some_iff.mp h
  dsimp only at h
  have hx11 : f50_keptTowns_b1_X xs L d r T s (w9, w10) := by
    show ∀ z2 : Option Value, pv_Ev xs L (d + 0) 50 (0, 0, 35, [some (.ref 3), some (.int w9), z2], [], pv_mm s T) r
    intro z2
    refine pv_e_bk (ps := [(35, .iload_n 1, 1)]) (t' := (0, 0, 36, [some (.ref 3), some (.int w9), z2], [.int w9], pv_mm s T)) (by decide +kernel) rfl ?_
    obtain rfl := Option.some.inj h
    cases hr
    exact pv_e_ri (by decide +kernel)
  exact pv_lq_ok (H := f50_keptTowns_b1_H xs L d r T s) (X := f50_keptTowns_b1_X xs L d r T s) (f50_keptTowns_b1_ok (xs := xs) (L := L) (d := d) (r := r) (T := T) (s := s)) 20000 _ _ e12 hx11
def f51_mixedInto_b2 (v5 : Int32) (s : pv_F) (st : Int64 × Int32) : Option ((Int64 × Int32) ⊕ (Int64 × Int32)) := match st with
  | (v3, v6) =>
    if (5:Int32) ≤ v6 then
      some (.inr (v3, v6))
    else
      (f48_fact v5 v6 s).bind fun q4 =>
      some (.inl (((31:Int64) * v3) + q4.toInt64, v6 + (1:Int32)))
def f51_mixedInto_b2_H (xs : Nat → Int32) (L d : Nat) (r : Option Value × pv_M) (T : pv_T) (v5 : Int32) (s : pv_F) (v1 : Int64) (st : Int64 × Int32) : Prop := match st with
  | (v3, v6) => pv_Ev xs L (d + 2) 51 (0, 0, 20, [some (.ref 3), some (.long v1), none, some (.long v3), none, some (.int v5), some (.int v6)], [], pv_mm s T) r
def f51_mixedInto_b2_X (xs : Nat → Int32) (L d : Nat) (r : Option Value × pv_M) (T : pv_T) (v5 : Int32) (s : pv_F) (v1 : Int64) (st : Int64 × Int32) : Prop := match st with
  | (v3, v6) => ∀ z6 : Option Value, pv_Ev xs L (d + 2) 51 (0, 0, 48, [some (.ref 3), some (.long v1), none, some (.long v3), none, some (.int v5), z6], [], pv_mm s T) r
def f51_mixedInto_b3 (v5 : Int32) (s : pv_F) (st : Int64 × Int32) : Option ((Int64 × Int32) ⊕ (Int64 × Int32)) := match st with
  | (v3, v6) =>
    (pv_rd s 10 7 v5).bind fun q7 =>
    (f217_size q7).bind fun q10 =>
    if q10 ≤ v6 then
      some (.inr (v3, v6))
    else
      (pv_rd s 10 7 v5).bind fun q12 =>
      (f218_letterAt q12 v6).bind fun q15 =>
      some (.inl ((((31:Int64) * v3) + (96:Int64)) + q15.toInt64, v6 + (1:Int32)))
def f51_mixedInto_b3_H (xs : Nat → Int32) (L d : Nat) (r : Option Value × pv_M) (T : pv_T) (v5 : Int32) (s : pv_F) (v1 : Int64) (st : Int64 × Int32) : Prop := match st with
  | (v3, v6) => pv_Ev xs L (d + 2) 51 (0, 0, 51, [some (.ref 3), some (.long v1), none, some (.long v3), none, some (.int v5), some (.int v6)], [], pv_mm s T) r
def f51_mixedInto_b3_X (xs : Nat → Int32) (L d : Nat) (r : Option Value × pv_M) (T : pv_T) (v5 : Int32) (s : pv_F) (v1 : Int64) (st : Int64 × Int32) : Prop := match st with
  | (v3, v6) => ∀ z6 : Option Value, pv_Ev xs L (d + 2) 51 (0, 0, 102, [some (.ref 3), some (.long v1), none, some (.long v3), none, some (.int v5), z6], [], pv_mm s T) r
def f51_mixedInto_b1 (s : pv_F) (st : Int64 × Int32) : Option ((Int64 × Int32) ⊕ (Int64 × Int32)) := match st with
  | (v3, v5) =>
    if (s 8 3) ≤ v5 then
      some (.inr (v3, v5))
    else
      (pv_lq (f51_mixedInto_b2 v5 s) 20000 (v3, (0:Int32))).bind fun (w5, w6) =>
      (pv_lq (f51_mixedInto_b3 v5 s) 20000 (w5, (0:Int32))).bind fun (w16, w17) =>
      (pv_rd s 11 7 v5).bind fun q18 =>
      some (.inl (((31:Int64) * w16) + q18.toInt64, v5 + (1:Int32)))
def f51_mixedInto_b1_H (xs : Nat → Int32) (L d : Nat) (r : Option Value × pv_M) (T : pv_T) (s : pv_F) (v1 : Int64) (st : Int64 × Int32) : Prop := match st with
  | (v3, v5) => ∀ z6 : Option Value, pv_Ev xs L (d + 2) 51 (0, 0, 5, [some (.ref 3), some (.long v1), none, some (.long v3), none, some (.int v5), z6], [], pv_mm s T) r
def f51_mixedInto_b1_X (xs : Nat → Int32) (L d : Nat) (r : Option Value × pv_M) (T : pv_T) (s : pv_F) (v1 : Int64) (st : Int64 × Int32) : Prop := match st with
  | (v3, v5) => ∀ z5 : Option Value, ∀ z6 : Option Value, pv_Ev xs L (d + 2) 51 (0, 0, 126, [some (.ref 3), some (.long v1), none, some (.long v3), none, z5, z6], [], pv_mm s T) r
def f51_mixedInto_b4 (s : pv_F) (st : Int64 × Int32) : Option ((Int64 × Int32) ⊕ (Int64 × Int32)) := match st with
  | (v3, v5) =>
    if (3:Int32) ≤ v5 then
      some (.inr (v3, v5))
    else
      (pv_ra 20 3 v5).bind fun o27 =>
      ((
        if (s o27 5) = 0 then
          some (-1:Int32)
        else
          (pv_ra 20 3 v5).bind fun o34 =>
          some (s o34 4)) : Option (Int32)).bind fun t30 =>
      some (.inl (((31:Int64) * v3) + t30.toInt64, v5 + (1:Int32)))
def f51_mixedInto_b4_H (xs : Nat → Int32) (L d : Nat) (r : Option Value × pv_M) (T : pv_T) (s : pv_F) (v1 : Int64) (z6 : Option Value) (st : Int64 × Int32) : Prop := match st with
  | (v3, v5) => pv_Ev xs L (d + 2) 51 (0, 0, 129, [some (.ref 3), some (.long v1), none, some (.long v3), none, some (.int v5), z6], [], pv_mm s T) r
def f51_mixedInto_b4_X (xs : Nat → Int32) (L d : Nat) (r : Option Value × pv_M) (T : pv_T) (s : pv_F) (v1 : Int64) (z6 : Option Value) (st : Int64 × Int32) : Prop := match st with
  | (v3, v5) => ∀ z5 : Option Value, pv_Ev xs L (d + 2) 51 (0, 0, 176, [some (.ref 3), some (.long v1), none, some (.long v3), none, z5, z6], [], pv_mm s T) r
def f51_mixedInto (x1 : Int64) (s : pv_F) : Option (Int64) :=
  (pv_lq (f51_mixedInto_b1 s) 20000 (x1, (0:Int32))).bind fun (w24, w25) =>
  (pv_lq (f51_mixedInto_b4 s) 20000 (w24, (0:Int32))).bind fun (w37, w38) =>
  some w37
theorem f51_mixedInto_b2_ok {xs : Nat → Int32} {L d : Nat} {r : Option Value × pv_M} {T : pv_T} {v5 : Int32} {s : pv_F} {v1 : Int64} (st : Int64 × Int32) (o : (Int64 × Int32) ⊕ (Int64 × Int32)) (h : f51_mixedInto_b2 v5 s st = some o) (hK : pv_Kq (f51_mixedInto_b2_H xs L d r T v5 s v1) (f51_mixedInto_b2_X xs L d r T v5 s v1) o) : f51_mixedInto_b2_H xs L d r T v5 s v1 st := by
  obtain ⟨v3, v6⟩ := st
  show pv_Ev xs L (d + 2) 51 (0, 0, 20, [some (.ref 3), some (.long v1), none, some (.long v3), none, some (.int v5), some (.int v6)], [], pv_mm s T) r
  unfold f51_mixedInto_b2 at h
  dsimp only at h
  refine pv_e_bk (ps := [(20, .iload 6, 2), (22, .iconst 5, 1)]) (t' := (0, 0, 23, [some (.ref 3), some (.long v1), none, some (.long v3), none, some (.int v5), some (.int v6)], [.int (5:Int32), .int v6], pv_mm s T)) (by decide +kernel) rfl ?_
  refine pv_e_icmpge (off := 25) (b := 48) (pc' := 26) (by decide +kernel) (by decide +kernel) rfl (fun c2 => ?_) (fun c2 => ?_)
  · rw [if_pos c2] at h
    obtain rfl := Option.some.inj h
    exact hK _
  · rw [if_neg c2] at h
    refine pv_e_bk (ps := [(26, .ldc2_w 107, 3), (29, .lload_n 3, 1), (30, .lmul, 1), (31, .aload_n 0, 1), (32, .iload 5, 2), (34, .iload 6, 2)]) (t' := (0, 0, 36, [some (.ref 3), some (.long v1), none, some (.long v3), none, some (.int v5), some (.int v6)], [.int v6, .int v5, .ref 3, .long ((31:Int64) * v3)], pv_mm s T)) (by decide +kernel) rfl ?_
    obtain ⟨q4, e3, h⟩ := Option.bind_eq_some_iff.mp h
    refine pv_e_cvi (d := d + 1) (i := 109) (z := 48) (np := 2) (ml := 3) (ci := 4) (As := [.int v5, .int v6]) (rs := [.long ((31:Int64) * v3)]) (pc' := 39) (by decide +kernel) rfl rfl rfl rfl (Nat.le_of_ble_eq_true rfl) (Nat.le_of_ble_eq_true rfl) rfl (ee48 (d + 0) v5 v6 e3) ?_
    refine pv_e_bk (ps := [(39, .i2l, 1), (40, .ladd, 1), (41, .lstore_n 3, 1), (42, .iinc 6 1, 3), (45, .goto (-25), 3)]) (t' := (0, 0, 20, [some (.ref 3), some (.long v1), none, some (.long (((31:Int64) * v3) + q4.toInt64)), none, some (.int v5), some (.int (v6 + (1:Int32)))], [], pv_mm s T)) (by decide +kernel) rfl ?_
    obtain rfl := Option.some.inj h
    exact hK
theorem f51_mixedInto_b3_ok {xs : Nat → Int32} {L d : Nat} {r : Option Value × pv_M} {T : pv_T} {v5 : Int32} {s : pv_F} {v1 : Int64} (st : Int64 × Int32) (o : (Int64 × Int32) ⊕ (Int64 × Int32)) (h : f51_mixedInto_b3 v5 s st = some o) (hK : pv_Kq (f51_mixedInto_b3_H xs L d r T v5 s v1) (f51_mixedInto_b3_X xs L d r T v5 s v1) o) : f51_mixedInto_b3_H xs L d r T v5 s v1 st := by
  obtain ⟨v3, v6⟩ := st
  show pv_Ev xs L (d + 2) 51 (0, 0, 51, [some (.ref 3), some (.long v1), none, some (.long v3), none, some (.int v5), some (.int v6)], [], pv_mm s T) r
  unfold f51_mixedInto_b3 at h
  dsimp only at h
  refine pv_e_bk (ps := [(51, .iload 6, 2), (53, .aload_n 0, 1)]) (t' := (0, 0, 54, [some (.ref 3), some (.long v1), none, some (.long v3), none, some (.int v5), some (.int v6)], [.ref 3, .int v6], pv_mm s T)) (by decide +kernel) rfl ?_
  refine pv_e_gr (i := 18) (ci := 4) (j := 1) (b := 8) (pc' := 57) (by decide +kernel) rfl rfl rfl ?_
  refine pv_e_gr (i := 93) (ci := 1) (j := 1) (b := 10) (pc' := 60) (by decide +kernel) rfl rfl rfl ?_
  refine pv_e_bk (ps := [(60, .iload 5, 2)]) (t' := (0, 0, 62, [some (.ref 3), some (.long v1), none, some (.long v3), none, some (.int v5), some (.int v6)], [.int v5, .ref 10, .int v6], pv_mm s T)) (by decide +kernel) rfl ?_
  obtain ⟨q7, e8, h⟩ := Option.bind_eq_some_iff.mp h
  refine pv_e_rc (pc' := 63) (by decide +kernel) (by decide) rfl e8 rfl ?_
  obtain ⟨q10, e9, h⟩ := Option.bind_eq_some_iff.mp h
  refine pv_e_csi (d := d + 1) (i := 104) (z := 217) (np := 1) (ml := 2) (As := [.int q7]) (rs := [.int v6]) (pc' := 66) (by decide +kernel) rfl rfl rfl (Nat.le_of_ble_eq_true rfl) (Nat.le_of_ble_eq_true rfl) rfl (ee217 (d + 1) q7 e9) ?_
  refine pv_e_icmpge (off := 36) (b := 102) (pc' := 69) (by decide +kernel) (by decide +kernel) rfl (fun c11 => ?_) (fun c11 => ?_)
  · rw [if_pos c11] at h
    obtain rfl := Option.some.inj h
    exact hK _
  · rw [if_neg c11] at h
    refine pv_e_bk (ps := [(69, .ldc2_w 107, 3), (72, .lload_n 3, 1), (73, .lmul, 1), (74, .ldc2_w 112, 3), (77, .ladd, 1), (78, .aload_n 0, 1)]) (t' := (0, 0, 79, [some (.ref 3), some (.long v1), none, some (.long v3), none, some (.int v5), some (.int v6)], [.ref 3, .long (((31:Int64) * v3) + (96:Int64))], pv_mm s T)) (by decide +kernel) rfl ?_
    refine pv_e_gr (i := 18) (ci := 4) (j := 1) (b := 8) (pc' := 82) (by decide +kernel) rfl rfl rfl ?_
    refine pv_e_gr (i := 93) (ci := 1) (j := 1) (b := 10) (pc' := 85) (by decide +kernel) rfl rfl rfl ?_
    refine pv_e_bk (ps := [(85, .iload 5, 2)]) (t' := (0, 0, 87, [some (.ref 3), some (.long v1), none, some (.long v3), none, some (.int v5), some (.int v6)], [.int v5, .ref 10, .long (((31:Int64) * v3) + (96:Int64))], pv_mm s T)) (by decide +kernel) rfl ?_
    obtain ⟨q12, e13, h⟩ := Option.bind_eq_some_iff.mp h
    refine pv_e_rc (pc' := 88) (by decide +kernel) (by decide) rfl e13 rfl ?_
    refine pv_e_bk (ps := [(88, .iload 6, 2)]) (t' := (0, 0, 90, [some (.ref 3), some (.long v1), none, some (.long v3), none, some (.int v5), some (.int v6)], [.int v6, .int q12, .long (((31:Int64) * v3) + (96:Int64))], pv_mm s T)) (by decide +kernel) rfl ?_
    obtain ⟨q15, e14, h⟩ := Option.bind_eq_some_iff.mp h
    refine pv_e_csi (d := d + 1) (i := 114) (z := 218) (np := 2) (ml := 2) (As := [.int q12, .int v6]) (rs := [.long (((31:Int64) * v3) + (96:Int64))]) (pc' := 93) (by decide +kernel) rfl rfl rfl (Nat.le_of_ble_eq_true rfl) (Nat.le_of_ble_eq_true rfl) rfl (ee218 (d + 1) q12 v6 e14) ?_
    refine pv_e_bk (ps := [(93, .i2l, 1), (94, .ladd, 1), (95, .lstore_n 3, 1), (96, .iinc 6 1, 3), (99, .goto (-48), 3)]) (t' := (0, 0, 51, [some (.ref 3), some (.long v1), none, some (.long ((((31:Int64) * v3) + (96:Int64)) + q15.toInt64)), none, some (.int v5), some (.int (v6 + (1:Int32)))], [], pv_mm s T)) (by decide +kernel) rfl ?_
    obtain rfl := Option.some.inj h
    exact hK
theorem f51_mixedInto_b1_ok {xs : Nat → Int32} {L d : Nat} {r : Option Value × pv_M} {T : pv_T} {s : pv_F} {v1 : Int64} (st : Int64 × Int32) (o : (Int64 × Int32) ⊕ (Int64 × Int32)) (h : f51_mixedInto_b1 s st = some o) (hK : pv_Kq (f51_mixedInto_b1_H xs L d r T s v1) (f51_mixedInto_b1_X xs L d r T s v1) o) : f51_mixedInto_b1_H xs L d r T s v1 st := by
  obtain ⟨v3, v5⟩ := st
  show ∀ z6 : Option Value, pv_Ev xs L (d + 2) 51 (0, 0, 5, [some (.ref 3), some (.long v1), none, some (.long v3), none, some (.int v5), z6], [], pv_mm s T) r
  intro z6
  unfold f51_mixedInto_b1 at h
  dsimp only at h
  refine pv_e_bk (ps := [(5, .iload 5, 2), (7, .aload_n 0, 1)]) (t' := (0, 0, 8, [some (.ref 3), some (.long v1), none, some (.long v3), none, some (.int v5), z6], [.ref 3, .int v5], pv_mm s T)) (by decide +kernel) rfl ?_
  refine pv_e_gr (i := 18) (ci := 4) (j := 1) (b := 8) (pc' := 11) (by decide +kernel) rfl rfl rfl ?_
  refine pv_e_gc (i := 92) (ci := 1) (j := 3) (pc' := 14) (by decide +kernel) (by decide) rfl rfl rfl ?_
  refine pv_e_icmpge (off := 112) (b := 126) (pc' := 17) (by decide +kernel) (by decide +kernel) rfl (fun c1 => ?_) (fun c1 => ?_)
  · rw [if_pos c1] at h
    obtain rfl := Option.some.inj h
    exact hK _ _
  · rw [if_neg c1] at h
    refine pv_e_bk (ps := [(17, .iconst 0, 1), (18, .istore 6, 2)]) (t' := (0, 0, 20, [some (.ref 3), some (.long v1), none, some (.long v3), none, some (.int v5), some (.int (0:Int32))], [], pv_mm s T)) (by decide +kernel) rfl ?_
    obtain ⟨⟨w5, w6⟩, e23, h⟩ := Option.bind_eq_some_iff.mp h
    dsimp only at h
    have hx22 : f51_mixedInto_b2_X xs L d r T v5 s v1 (w5, w6) := by
      show ∀ z6 : Option Value, pv_Ev xs L (d + 2) 51 (0, 0, 48, [some (.ref 3), some (.long v1), none, some (.long w5), none, some (.int v5), z6], [], pv_mm s T) r
      intro z6
      refine pv_e_bk (ps := [(48, .iconst 0, 1), (49, .istore 6, 2)]) (t' := (0, 0, 51, [some (.ref 3), some (.long v1), none, some (.long w5), none, some (.int v5), some (.int (0:Int32))], [], pv_mm s T)) (by decide +kernel) rfl ?_
      obtain ⟨⟨w16, w17⟩, e21, h⟩ := Option.bind_eq_some_iff.mp h
      dsimp only at h
      have hx20 : f51_mixedInto_b3_X xs L d r T v5 s v1 (w16, w17) := by
        show ∀ z6 : Option Value, pv_Ev xs L (d + 2) 51 (0, 0, 102, [some (.ref 3), some (.long v1), none, some (.long w16), none, some (.int v5), z6], [], pv_mm s T) r
        intro z6
        refine pv_e_bk (ps := [(102, .ldc2_w 107, 3), (105, .lload_n 3, 1), (106, .lmul, 1), (107, .aload_n 0, 1)]) (t' := (0, 0, 108, [some (.ref 3), some (.long v1), none, some (.long w16), none, some (.int v5), z6], [.ref 3, .long ((31:Int64) * w16)], pv_mm s T)) (by decide +kernel) rfl ?_
        refine pv_e_gr (i := 18) (ci := 4) (j := 1) (b := 8) (pc' := 111) (by decide +kernel) rfl rfl rfl ?_
        refine pv_e_gr (i := 117) (ci := 1) (j := 2) (b := 11) (pc' := 114) (by decide +kernel) rfl rfl rfl ?_
        refine pv_e_bk (ps := [(114, .iload 5, 2)]) (t' := (0, 0, 116, [some (.ref 3), some (.long v1), none, some (.long w16), none, some (.int v5), z6], [.int v5, .ref 11, .long ((31:Int64) * w16)], pv_mm s T)) (by decide +kernel) rfl ?_
        obtain ⟨q18, e19, h⟩ := Option.bind_eq_some_iff.mp h
        refine pv_e_rc (pc' := 117) (by decide +kernel) (by decide) rfl e19 rfl ?_
        refine pv_e_bk (ps := [(117, .i2l, 1), (118, .ladd, 1), (119, .lstore_n 3, 1), (120, .iinc 5 1, 3), (123, .goto (-118), 3)]) (t' := (0, 0, 5, [some (.ref 3), some (.long v1), none, some (.long (((31:Int64) * w16) + q18.toInt64)), none, some (.int (v5 + (1:Int32))), z6], [], pv_mm s T)) (by decide +kernel) rfl ?_
        obtain rfl := Option.some.inj h
        exact hK _
      exact pv_lq_ok (H := f51_mixedInto_b3_H xs L d r T v5 s v1) (X := f51_mixedInto_b3_X xs L d r T v5 s v1) (f51_mixedInto_b3_ok (xs := xs) (L := L) (d := d) (r := r) (T := T) (v5 := v5) (s := s) (v1 := v1)) 20000 _ _ e21 hx20
    exact pv_lq_ok (H := f51_mixedInto_b2_H xs L d r T v5 s v1) (X := f51_mixedInto_b2_X xs L d r T v5 s v1) (f51_mixedInto_b2_ok (xs := xs) (L := L) (d := d) (r := r) (T := T) (v5 := v5) (s := s) (v1 := v1)) 20000 _ _ e23 hx22
theorem f51_mixedInto_b4_ok {xs : Nat → Int32} {L d : Nat} {r : Option Value × pv_M} {T : pv_T} {s : pv_F} {v1 : Int64} {z6 : Option Value} (st : Int64 × Int32) (o : (Int64 × Int32) ⊕ (Int64 × Int32)) (h : f51_mixedInto_b4 s st = some o) (hK : pv_Kq (f51_mixedInto_b4_H xs L d r T s v1 z6) (f51_mixedInto_b4_X xs L d r T s v1 z6) o) : f51_mixedInto_b4_H xs L d r T s v1 z6 st := by
  obtain ⟨v3, v5⟩ := st
  show pv_Ev xs L (d + 2) 51 (0, 0, 129, [some (.ref 3), some (.long v1), none, some (.long v3), none, some (.int v5), z6], [], pv_mm s T) r
  unfold f51_mixedInto_b4 at h
  dsimp only at h
  refine pv_e_bk (ps := [(129, .iload 5, 2), (131, .iconst 3, 1)]) (t' := (0, 0, 132, [some (.ref 3), some (.long v1), none, some (.long v3), none, some (.int v5), z6], [.int (3:Int32), .int v5], pv_mm s T)) (by decide +kernel) rfl ?_
  refine pv_e_icmpge (off := 44) (b := 176) (pc' := 135) (by decide +kernel) (by decide +kernel) rfl (fun c26 => ?_) (fun c26 => ?_)
  · rw [if_pos c26] at h
    obtain rfl := Option.some.inj h
    exact hK _
  · rw [if_neg c26] at h
    refine pv_e_bk (ps := [(135, .ldc2_w 107, 3), (138, .lload_n 3, 1), (139, .lmul, 1), (140, .aload_n 0, 1)]) (t' := (0, 0, 141, [some (.ref 3), some (.long v1), none, some (.long v3), none, some (.int v5), z6], [.ref 3, .long ((31:Int64) * v3)], pv_mm s T)) (by decide +kernel) rfl ?_
    refine pv_e_gr (i := 38) (ci := 4) (j := 6) (b := 20) (pc' := 144) (by decide +kernel) rfl rfl rfl ?_
    refine pv_e_bk (ps := [(144, .iload 5, 2)]) (t' := (0, 0, 146, [some (.ref 3), some (.long v1), none, some (.long v3), none, some (.int v5), z6], [.int v5, .ref 20, .long ((31:Int64) * v3)], pv_mm s T)) (by decide +kernel) rfl ?_
    obtain ⟨o27, e28, h⟩ := Option.bind_eq_some_iff.mp h
    have g29 := ra_kept e28
    refine pv_e_ra (zz := 3) (pc' := 147) (by decide +kernel) rfl (by decide) e28 rfl ?_
    refine pv_e_gc (i := 50) (ci := 0) (j := 5) (pc' := 150) (by decide +kernel) (by have := (dd g29).2.2.2.2.2; omega) (dd g29).1 rfl rfl ?_
    obtain ⟨t30, hv31, h⟩ := Option.bind_eq_some_iff.mp h
    have hJ32 : pv_Ev xs L (d + 2) 51 (0, 0, 167, [some (.ref 3), some (.long v1), none, some (.long v3), none, some (.int v5), z6], [.int t30, .long ((31:Int64) * v3)], pv_mm s T) r := by
      refine pv_e_bk (ps := [(167, .i2l, 1), (168, .ladd, 1), (169, .lstore_n 3, 1), (170, .iinc 5 1, 3), (173, .goto (-44), 3)]) (t' := (0, 0, 129, [some (.ref 3), some (.long v1), none, some (.long (((31:Int64) * v3) + t30.toInt64)), none, some (.int (v5 + (1:Int32))), z6], [], pv_mm s T)) (by decide +kernel) rfl ?_
      obtain rfl := Option.some.inj h
      exact hK
    clear h
    have h := hv31
    clear hv31
    refine pv_e_ifeq (off := 16) (b := 166) (pc' := 153) (by decide +kernel) (by decide +kernel) rfl (fun c33 => ?_) (fun c33 => ?_)
    · rw [if_pos c33] at h
      refine pv_e_bk (ps := [(166, .iconst (-1), 1)]) (t' := (0, 0, 167, [some (.ref 3), some (.long v1), none, some (.long v3), none, some (.int v5), z6], [.int (-1:Int32), .long ((31:Int64) * v3)], pv_mm s T)) (by decide +kernel) rfl ?_
      obtain rfl := Option.some.inj h
      exact hJ32
    · rw [if_neg c33] at h
      refine pv_e_bk (ps := [(153, .aload_n 0, 1)]) (t' := (0, 0, 154, [some (.ref 3), some (.long v1), none, some (.long v3), none, some (.int v5), z6], [.ref 3, .long ((31:Int64) * v3)], pv_mm s T)) (by decide +kernel) rfl ?_
      refine pv_e_gr (i := 38) (ci := 4) (j := 6) (b := 20) (pc' := 157) (by decide +kernel) rfl rfl rfl ?_
      refine pv_e_bk (ps := [(157, .iload 5, 2)]) (t' := (0, 0, 159, [some (.ref 3), some (.long v1), none, some (.long v3), none, some (.int v5), z6], [.int v5, .ref 20, .long ((31:Int64) * v3)], pv_mm s T)) (by decide +kernel) rfl ?_
      obtain ⟨o34, e35, h⟩ := Option.bind_eq_some_iff.mp h
      have g36 := ra_kept e35
      refine pv_e_ra (zz := 3) (pc' := 160) (by decide +kernel) rfl (by decide) e35 rfl ?_
      refine pv_e_gc (i := 58) (ci := 0) (j := 4) (pc' := 163) (by decide +kernel) (by have := (dd g36).2.2.2.2.2; omega) (dd g36).1 rfl rfl ?_
      refine pv_e_bk (ps := [(163, .goto 4, 3)]) (t' := (0, 0, 167, [some (.ref 3), some (.long v1), none, some (.long v3), none, some (.int v5), z6], [.int (s o34 4), .long ((31:Int64) * v3)], pv_mm s T)) (by decide +kernel) rfl ?_
      obtain rfl := Option.some.inj h
      exact hJ32
theorem ee51 {xs : Nat → Int32} {L : Nat} (d : Nat) (x1 : Int64) {s : pv_F} {T : pv_T} {q : Int64}  (h : f51_mixedInto x1 s = some q) : pv_Ev xs L (d + 2) 51 (0, 0, 0, [some (.ref 3), some (.long x1), none, none, none, none, none], [], pv_mm s T) (some (.long q), pv_mm s T) := by
  generalize hr : ((some (.long q), pv_mm s T) : Option Value × pv_M) = r
  unfold f51_mixedInto at h
  refine pv_e_bk (ps := [(0, .lload_n 1, 1), (1, .lstore_n 3, 1), (2, .iconst 0, 1), (3, .istore 5, 2)]) (t' := (0, 0, 5, [some (.ref 3), some (.long x1), none, some (.long x1), none, some (.int (0:Int32)), none], [], pv_mm s T)) (by decide +kernel) rfl ?_
  obtain ⟨⟨w24, w25⟩, e42, h⟩ := Option.bind_eq_some_iff.mp h
  dsimp only at h
  have hx41 : f51_mixedInto_b1_X xs L d r T s x1 (w24, w25) := by
    show ∀ z5 : Option Value, ∀ z6 : Option Value, pv_Ev xs L (d + 2) 51 (0, 0, 126, [some (.ref 3), some (.long x1), none, some (.long w24), none, z5, z6], [], pv_mm s T) r
    intro z5 z6
    refine pv_e_bk (ps := [(126, .iconst 0, 1), (127, .istore 5, 2)]) (t' := (0, 0, 129, [some (.ref 3), some (.long x1), none, some (.long w24), none, some (.int (0:Int32)), z6], [], pv_mm s T)) (by decide +kernel) rfl ?_
    obtain ⟨⟨w37, w38⟩, e40, h⟩ := Option.bind_eq_some_iff.mp h
    dsimp only at h
    have hx39 : f51_mixedInto_b4_X xs L d r T s x1 z6 (w37, w38) := by
      show ∀ z5 : Option Value, pv_Ev xs L (d + 2) 51 (0, 0, 176, [some (.ref 3), some (.long x1), none, some (.long w37), none, z5, z6], [], pv_mm s T) r
      intro z5
      refine pv_e_bk (ps := [(176, .lload_n 3, 1)]) (t' := (0, 0, 177, [some (.ref 3), some (.long x1), none, some (.long w37), none, z5, z6], [.long w37], pv_mm s T)) (by decide +kernel) rfl ?_
      obtain rfl := Option.some.inj h
      cases hr
      exact pv_e_rl (by decide +kernel)
    exact pv_lq_ok (H := f51_mixedInto_b4_H xs L d r T s x1 z6) (X := f51_mixedInto_b4_X xs L d r T s x1 z6) (f51_mixedInto_b4_ok (xs := xs) (L := L) (d := d) (r := r) (T := T) (s := s) (v1 := x1) (z6 := z6)) 20000 _ _ e40 hx39
  exact pv_lq_ok (H := f51_mixedInto_b1_H xs L d r T s x1) (X := f51_mixedInto_b1_X xs L d r T s x1) (f51_mixedInto_b1_ok (xs := xs) (L := L) (d := d) (r := r) (T := T) (s := s) (v1 := x1)) 20000 _ _ e42 hx41 _
def f98_isRow (x0 : Int32) : Option (Int32) :=
  ((
    if x0 < 0 then
      some (0:Int32)
    else
      if (6:Int32) ≤ x0 then
        some (0:Int32)
      else
        some (1:Int32)) : Option (Int32)).bind fun t1 =>
  (pv_bl t1).bind fun q2 => some q2
theorem ee98 {xs : Nat → Int32} {L : Nat} (d : Nat) (x0 : Int32) {M : pv_M} {q : Int32}  (h : f98_isRow x0 = some q) : pv_Ev xs L (d + 0) 98 (0, 0, 0, [some (.int x0)], [], M) (some (.int q), M) := by
  generalize hr : ((some (.int q), M) : Option Value × pv_M) = r
  unfold f98_isRow at h
  refine pv_e_bk (ps := [(0, .iload_n 0, 1)]) (t' := (0, 0, 1, [some (.int x0)], [.int x0], M)) (by decide +kernel) rfl ?_
  obtain ⟨t1, hv4, h⟩ := Option.bind_eq_some_iff.mp h
  have hJ5 : pv_Ev xs L (d + 0) 98 (0, 0, 15, [some (.int x0)], [.int t1], M) r := by
    obtain ⟨q2, e3, h⟩ := Option.bind_eq_some_iff.mp h
    obtain rfl := Option.some.inj h
    cases hr
    exact pv_e_rz (by decide +kernel) e3
  clear h
  have h := hv4
  clear hv4
  refine pv_e_iflt (off := 13) (b := 14) (pc' := 4) (by decide +kernel) (by decide +kernel) rfl (fun c6 => ?_) (fun c6 => ?_)
  · rw [if_pos c6] at h
    refine pv_e_bk (ps := [(14, .iconst 0, 1)]) (t' := (0, 0, 15, [some (.int x0)], [.int (0:Int32)], M)) (by decide +kernel) rfl ?_
    obtain rfl := Option.some.inj h
    exact hJ5
  · rw [if_neg c6] at h
    refine pv_e_bk (ps := [(4, .iload_n 0, 1), (5, .bipush 6, 2)]) (t' := (0, 0, 7, [some (.int x0)], [.int (6:Int32), .int x0], M)) (by decide +kernel) rfl ?_
    refine pv_e_icmpge (off := 7) (b := 14) (pc' := 10) (by decide +kernel) (by decide +kernel) rfl (fun c7 => ?_) (fun c7 => ?_)
    · rw [if_pos c7] at h
      refine pv_e_bk (ps := [(14, .iconst 0, 1)]) (t' := (0, 0, 15, [some (.int x0)], [.int (0:Int32)], M)) (by decide +kernel) rfl ?_
      obtain rfl := Option.some.inj h
      exact hJ5
    · rw [if_neg c7] at h
      refine pv_e_bk (ps := [(10, .iconst 1, 1), (11, .goto 4, 3)]) (t' := (0, 0, 15, [some (.int x0)], [.int (1:Int32)], M)) (by decide +kernel) rfl ?_
      obtain rfl := Option.some.inj h
      exact hJ5
def f103_find (x1 : Int32) (s : pv_F) : Option (Int32 × pv_F) :=
  (pv_pf s 0 9 x1).bind fun s1 =>
  (pv_rd s1 73 6 x1).bind fun q3 =>
  (pv_wr s1 73 6 x1 (q3 + (1:Int32))).bind fun s5 =>
  some ((-3:Int32), s5)
theorem ee103 {xs : Nat → Int32} {L : Nat} (d : Nat) (x1 : Int32) {s : pv_F} {T : pv_T} {q : Int32 × pv_F}  (h : f103_find x1 s = some q) : pv_Ev xs L (d + 0) 103 (0, 0, 0, [some (.ref 0), some (.int x1)], [], pv_mm s T) (some (.int q.1), pv_mm q.2 T) := by
  generalize hr : ((some (.int q.1), pv_mm q.2 T) : Option Value × pv_M) = r
  unfold f103_find at h
  refine pv_e_bk (ps := [(0, .aload_n 0, 1), (1, .iload_n 1, 1)]) (t' := (0, 0, 2, [some (.ref 0), some (.int x1)], [.int x1, .ref 0], pv_mm s T)) (by decide +kernel) rfl ?_
  obtain ⟨s1, e2, h⟩ := Option.bind_eq_some_iff.mp h
  refine pv_e_pcs (i := 53) (ci := 5) (j := 9) (pc' := 5) (by decide +kernel) rfl rfl (by decide) rfl rfl e2 rfl ?_
  refine pv_e_bk (ps := [(5, .aload_n 0, 1)]) (t' := (0, 0, 6, [some (.ref 0), some (.int x1)], [.ref 0], pv_mm s1 T)) (by decide +kernel) rfl ?_
  refine pv_e_gr (i := 39) (ci := 5) (j := 5) (b := 73) (pc' := 9) (by decide +kernel) rfl rfl rfl ?_
  refine pv_e_bk (ps := [(9, .iload_n 1, 1), (10, .dup2, 1)]) (t' := (0, 0, 11, [some (.ref 0), some (.int x1)], [.int x1, .ref 73, .int x1, .ref 73], pv_mm s1 T)) (by decide +kernel) rfl ?_
  obtain ⟨q3, e4, h⟩ := Option.bind_eq_some_iff.mp h
  refine pv_e_rc (pc' := 12) (by decide +kernel) (by decide) rfl e4 rfl ?_
  refine pv_e_bk (ps := [(12, .iconst 1, 1), (13, .iadd, 1)]) (t' := (0, 0, 14, [some (.ref 0), some (.int x1)], [.int (q3 + (1:Int32)), .int x1, .ref 73], pv_mm s1 T)) (by decide +kernel) rfl ?_
  obtain ⟨s5, e6, h⟩ := Option.bind_eq_some_iff.mp h
  refine pv_e_wc (pc' := 15) (by decide +kernel) (by decide) rfl e6 rfl ?_
  refine pv_e_bk (ps := [(15, .bipush (-3), 2)]) (t' := (0, 0, 17, [some (.ref 0), some (.int x1)], [.int (-3:Int32)], pv_mm s5 T)) (by decide +kernel) rfl ?_
  obtain rfl := Option.some.inj h
  cases hr
  exact pv_e_ri (by decide +kernel)
