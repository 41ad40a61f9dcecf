-- printed by wip/whole/gen/parts.py: methods as functions over the ints of the memory, and that the pure machine runs so
def f194_spare_b2 (v1 : Int32) (v3 : Int32) (st : Int32 × pv_T) : Option ((Int32 × pv_T) ⊕ ((Int32 × pv_T) ⊕ (Int32 × pv_T))) := match st with
  | (v4, T) =>
    if (T.1 94 8) ≤ v4 then
      some (.inr (.inl (v4, T)))
    else
      (pv_rd T.1 101 7 v4).bind fun q11 =>
      if q11 = (3:Int32) then
        some (.inl (v4 + (1:Int32), T))
      else
        (f142_lenOf v4 T).bind fun q15 =>
        if (6:Int32) < (q15 + v3) then
          some (.inl (v4 + (1:Int32), T))
        else
          (f193_isSpared v1 v4 v3 T).bind fun (q18, T19) =>
          if q18 = 0 then
            some (.inl (v4 + (1:Int32), T19))
          else
            (f116_ask v4 v3 T19).bind fun (q22, T23) =>
            some (.inr (.inr (q22, T23)))
def f194_spare_b2_H (xs : Nat → Int32) (L d : Nat) (r : Option Value × pv_M) (s : pv_F) (v1 : Int32) (v3 : Int32) (v2 : Int32) (st : Int32 × pv_T) : Prop := match st with
  | (v4, T) => pv_Ev xs L (d + 7) 194 (0, 0, 42, [some (.ref 94), some (.int v1), some (.int v2), some (.int v3), some (.int v4)], [], pv_mm s T) r
def f194_spare_b2_X (xs : Nat → Int32) (L d : Nat) (r : Option Value × pv_M) (s : pv_F) (v1 : Int32) (v3 : Int32) (v2 : Int32) (st : Int32 × pv_T) : Prop := match st with
  | (v4, T) => ∀ z4 : Option Value, pv_Ev xs L (d + 7) 194 (0, 0, 100, [some (.ref 94), some (.int v1), some (.int v2), some (.int v3), z4], [], pv_mm s T) r
def f194_spare_b1 (v1 : Int32) (st : Int32 × pv_T) : Option ((Int32 × pv_T) ⊕ ((Int32 × pv_T) ⊕ (Int32 × pv_T))) := match st with
  | (v3, T) =>
    if (6:Int32) < v3 then
      some (.inr (.inl (v3, T)))
    else
      (pv_lp (f194_spare_b2 v1 v3) 20000 ((0:Int32), T)).bind fun o28 => match o28 with
        | .inl (w24, T25) =>
          some (.inl (v3 + (1:Int32), T25))
        | .inr q => some (.inr (.inr q))
def f194_spare_b1_H (xs : Nat → Int32) (L d : Nat) (r : Option Value × pv_M) (s : pv_F) (v1 : Int32) (v2 : Int32) (st : Int32 × pv_T) : Prop := match st with
  | (v3, T) => ∀ z4 : Option Value, pv_Ev xs L (d + 7) 194 (0, 0, 33, [some (.ref 94), some (.int v1), some (.int v2), some (.int v3), z4], [], pv_mm s T) r
def f194_spare_b1_X (xs : Nat → Int32) (L d : Nat) (r : Option Value × pv_M) (s : pv_F) (v1 : Int32) (v2 : Int32) (st : Int32 × pv_T) : Prop := match st with
  | (v3, T) => ∀ z3 : Option Value, ∀ z4 : Option Value, pv_Ev xs L (d + 7) 194 (0, 0, 106, [some (.ref 94), some (.int v1), some (.int v2), z3, z4], [], pv_mm s T) r
def f194_spare (x1 : Int32) (T : pv_T) : Option (Int32 × pv_T) :=
  (f183_askedCalls x1 (40:Int32) T).bind fun (q2, T3) =>
  if 0 ≤ q2 then
    (f193_isSpared x1 (0:Int32) (0:Int32) T3).bind fun (q6, T7) =>
    if q6 = 0 then
      (pv_lp (f194_spare_b1 x1) 20000 ((1:Int32), T7)).bind fun o33 => match o33 with
        | .inl (w29, T30) =>
          some ((-9:Int32), T30)
        | .inr q => some q
    else
      (f116_ask (0:Int32) (0:Int32) T7).bind fun (q35, T36) =>
      some (q35, T36)
  else
    some (q2, T3)
theorem f194_spare_b2_ok {xs : Nat → Int32} {L d : Nat} {r : Option Value × pv_M} {s : pv_F} {v1 : Int32} {v3 : Int32} {v2 : Int32} (st : Int32 × pv_T) (o : (Int32 × pv_T) ⊕ ((Int32 × pv_T) ⊕ (Int32 × pv_T))) (h : f194_spare_b2 v1 v3 st = some o) (hK : pv_Kp (f194_spare_b2_H xs L d r s v1 v3 v2) (f194_spare_b2_X xs L d r s v1 v3 v2) (fun q => (some (.int q.1), pv_mm s q.2) = r) o) : f194_spare_b2_H xs L d r s v1 v3 v2 st := by
  obtain ⟨v4, T⟩ := st
  show pv_Ev xs L (d + 7) 194 (0, 0, 42, [some (.ref 94), some (.int v1), some (.int v2), some (.int v3), some (.int v4)], [], pv_mm s T) r
  unfold f194_spare_b2 at h
  dsimp only at h
  refine pv_e_bk (ps := [(42, .iload 4, 2), (44, .aload_n 0, 1)]) (t' := (0, 0, 45, [some (.ref 94), some (.int v1), some (.int v2), some (.int v3), some (.int v4)], [.ref 94, .int v4], pv_mm s T)) (by decide +kernel) rfl ?_
  refine pv_e_gm (i := 136) (ci := 6) (j := 8) (pc' := 48) (by decide +kernel) (by decide) rfl rfl rfl ?_
  refine pv_e_icmpge (off := 52) (b := 100) (pc' := 51) (by decide +kernel) (by decide +kernel) rfl (fun c10 => ?_) (fun c10 => ?_)
  · rw [if_pos c10] at h
    obtain rfl := Option.some.inj h
    exact hK _
  · rw [if_neg c10] at h
    refine pv_e_bk (ps := [(51, .aload_n 0, 1)]) (t' := (0, 0, 52, [some (.ref 94), some (.int v1), some (.int v2), some (.int v3), some (.int v4)], [.ref 94], pv_mm s T)) (by decide +kernel) rfl ?_
    refine pv_e_gr (i := 32) (ci := 6) (j := 11) (b := 101) (pc' := 55) (by decide +kernel) rfl rfl rfl ?_
    refine pv_e_bk (ps := [(55, .iload 4, 2)]) (t' := (0, 0, 57, [some (.ref 94), some (.int v1), some (.int v2), some (.int v3), some (.int v4)], [.int v4, .ref 101], pv_mm s T)) (by decide +kernel) rfl ?_
    obtain ⟨q11, e12, h⟩ := Option.bind_eq_some_iff.mp h
    refine pv_e_rm (pc' := 58) (by decide +kernel) (by decide) rfl e12 rfl ?_
    refine pv_e_bk (ps := [(58, .iconst 3, 1)]) (t' := (0, 0, 59, [some (.ref 94), some (.int v1), some (.int v2), some (.int v3), some (.int v4)], [.int (3:Int32), .int q11], pv_mm s T)) (by decide +kernel) rfl ?_
    refine pv_e_icmpeq (off := 35) (b := 94) (pc' := 62) (by decide +kernel) (by decide +kernel) rfl (fun c13 => ?_) (fun c13 => ?_)
    · rw [if_pos c13] at h
      refine pv_e_bk (ps := [(94, .iinc 4 1, 3), (97, .goto (-55), 3)]) (t' := (0, 0, 42, [some (.ref 94), some (.int v1), some (.int v2), some (.int v3), some (.int (v4 + (1:Int32)))], [], pv_mm s T)) (by decide +kernel) rfl ?_
      obtain rfl := Option.some.inj h
      exact hK
    · rw [if_neg c13] at h
      refine pv_e_bk (ps := [(62, .aload_n 0, 1), (63, .iload 4, 2)]) (t' := (0, 0, 65, [some (.ref 94), some (.int v1), some (.int v2), some (.int v3), some (.int v4)], [.int v4, .ref 94], pv_mm s T)) (by decide +kernel) rfl ?_
      obtain ⟨q15, e14, h⟩ := Option.bind_eq_some_iff.mp h
      refine pv_e_cvi (d := d + 6) (i := 142) (z := 142) (np := 1) (ml := 2) (ci := 6) (As := [.int v4]) (rs := []) (pc' := 68) (by decide +kernel) rfl rfl rfl rfl (Nat.le_of_ble_eq_true rfl) (Nat.le_of_ble_eq_true rfl) rfl (ee142 (d + 6) v4 e14) ?_
      refine pv_e_bk (ps := [(68, .iload_n 3, 1), (69, .iadd, 1), (70, .bipush 6, 2)]) (t' := (0, 0, 72, [some (.ref 94), some (.int v1), some (.int v2), some (.int v3), some (.int v4)], [.int (6:Int32), .int (q15 + v3)], pv_mm s T)) (by decide +kernel) rfl ?_
      refine pv_e_icmpgt (off := 22) (b := 94) (pc' := 75) (by decide +kernel) (by decide +kernel) rfl (fun c16 => ?_) (fun c16 => ?_)
      · rw [if_pos c16] at h
        refine pv_e_bk (ps := [(94, .iinc 4 1, 3), (97, .goto (-55), 3)]) (t' := (0, 0, 42, [some (.ref 94), some (.int v1), some (.int v2), some (.int v3), some (.int (v4 + (1:Int32)))], [], pv_mm s T)) (by decide +kernel) rfl ?_
        obtain rfl := Option.some.inj h
        exact hK
      · rw [if_neg c16] at h
        refine pv_e_bk (ps := [(75, .aload_n 0, 1), (76, .iload_n 1, 1), (77, .iload 4, 2), (79, .iload_n 3, 1)]) (t' := (0, 0, 80, [some (.ref 94), some (.int v1), some (.int v2), some (.int v3), some (.int v4)], [.int v3, .int v4, .int v1, .ref 94], pv_mm s T)) (by decide +kernel) rfl ?_
        obtain ⟨⟨q18, T19⟩, e17, h⟩ := Option.bind_eq_some_iff.mp h
        dsimp only at h
        refine pv_e_cvi (d := d + 6) (i := 272) (z := 193) (np := 3) (ml := 6) (ci := 6) (As := [.int v1, .int v4, .int v3]) (rs := []) (pc' := 83) (by decide +kernel) rfl rfl rfl rfl (Nat.le_of_ble_eq_true rfl) (Nat.le_of_ble_eq_true rfl) rfl (ee193 (d + 0) v1 v4 v3 e17) ?_
        refine pv_e_ifeq (off := 11) (b := 94) (pc' := 86) (by decide +kernel) (by decide +kernel) rfl (fun c20 => ?_) (fun c20 => ?_)
        · rw [if_pos c20] at h
          refine pv_e_bk (ps := [(94, .iinc 4 1, 3), (97, .goto (-55), 3)]) (t' := (0, 0, 42, [some (.ref 94), some (.int v1), some (.int v2), some (.int v3), some (.int (v4 + (1:Int32)))], [], pv_mm s T19)) (by decide +kernel) rfl ?_
          obtain rfl := Option.some.inj h
          exact hK
        · rw [if_neg c20] at h
          refine pv_e_bk (ps := [(86, .aload_n 0, 1), (87, .iload 4, 2), (89, .iload_n 3, 1)]) (t' := (0, 0, 90, [some (.ref 94), some (.int v1), some (.int v2), some (.int v3), some (.int v4)], [.int v3, .int v4, .ref 94], pv_mm s T19)) (by decide +kernel) rfl ?_
          obtain ⟨⟨q22, T23⟩, e21, h⟩ := Option.bind_eq_some_iff.mp h
          dsimp only at h
          refine pv_e_cvi (d := d + 6) (i := 109) (z := 116) (np := 2) (ml := 3) (ci := 6) (As := [.int v4, .int v3]) (rs := []) (pc' := 93) (by decide +kernel) rfl rfl rfl rfl (Nat.le_of_ble_eq_true rfl) (Nat.le_of_ble_eq_true rfl) rfl (ee116 (d + 6) v4 v3 e21) ?_
          obtain rfl := Option.some.inj h
          cases hK
          exact pv_e_ri (by decide +kernel)
theorem f194_spare_b1_ok {xs : Nat → Int32} {L d : Nat} {r : Option Value × pv_M} {s : pv_F} {v1 : Int32} {v2 : Int32} (st : Int32 × pv_T) (o : (Int32 × pv_T) ⊕ ((Int32 × pv_T) ⊕ (Int32 × pv_T))) (h : f194_spare_b1 v1 st = some o) (hK : pv_Kp (f194_spare_b1_H xs L d r s v1 v2) (f194_spare_b1_X xs L d r s v1 v2) (fun q => (some (.int q.1), pv_mm s q.2) = r) o) : f194_spare_b1_H xs L d r s v1 v2 st := by
  obtain ⟨v3, T⟩ := st
  show ∀ z4 : Option Value, pv_Ev xs L (d + 7) 194 (0, 0, 33, [some (.ref 94), some (.int v1), some (.int v2), some (.int v3), z4], [], pv_mm s T) r
  intro z4
  unfold f194_spare_b1 at h
  dsimp only at h
  refine pv_e_bk (ps := [(33, .iload_n 3, 1), (34, .bipush 6, 2)]) (t' := (0, 0, 36, [some (.ref 94), some (.int v1), some (.int v2), some (.int v3), z4], [.int (6:Int32), .int v3], pv_mm s T)) (by decide +kernel) rfl ?_
  refine pv_e_icmpgt (off := 70) (b := 106) (pc' := 39) (by decide +kernel) (by decide +kernel) rfl (fun c9 => ?_) (fun c9 => ?_)
  · rw [if_pos c9] at h
    obtain rfl := Option.some.inj h
    exact hK _ _
  · rw [if_neg c9] at h
    refine pv_e_bk (ps := [(39, .iconst 0, 1), (40, .istore 4, 2)]) (t' := (0, 0, 42, [some (.ref 94), some (.int v1), some (.int v2), some (.int v3), some (.int (0:Int32))], [], pv_mm s T)) (by decide +kernel) rfl ?_
    obtain ⟨o28, e27, h⟩ := Option.bind_eq_some_iff.mp h
    refine pv_lp_ok (H := f194_spare_b2_H xs L d r s v1 v3 v2) (X := f194_spare_b2_X xs L d r s v1 v3 v2) (Z := (fun q => (some (.int q.1), pv_mm s q.2) = r)) (f194_spare_b2_ok (xs := xs) (L := L) (d := d) (r := r) (s := s) (v1 := v1) (v3 := v3) (v2 := v2)) 20000 _ _ e27 ?_
    rcases o28 with ⟨w24, T25⟩ | q
    · dsimp only at h ⊢
      show ∀ z4 : Option Value, pv_Ev xs L (d + 7) 194 (0, 0, 100, [some (.ref 94), some (.int v1), some (.int v2), some (.int v3), z4], [], pv_mm s T25) r
      intro z4
      refine pv_e_bk (ps := [(100, .iinc 3 1, 3), (103, .goto (-70), 3)]) (t' := (0, 0, 33, [some (.ref 94), some (.int v1), some (.int v2), some (.int (v3 + (1:Int32))), z4], [], pv_mm s T25)) (by decide +kernel) rfl ?_
      obtain rfl := Option.some.inj h
      exact hK _
    · dsimp only at h ⊢
      obtain rfl := Option.some.inj h
      exact hK
theorem ee194 {xs : Nat → Int32} {L : Nat} (d : Nat) (x1 : Int32) {s : pv_F} {T : pv_T} {q : Int32 × pv_T}  (h : f194_spare x1 T = some q) : pv_Ev xs L (d + 7) 194 (0, 0, 0, [some (.ref 94), some (.int x1), none, none, none], [], pv_mm s T) (some (.int q.1), pv_mm s q.2) := by
  generalize hr : ((some (.int q.1), pv_mm s q.2) : Option Value × pv_M) = r
  unfold f194_spare at h
  refine pv_e_bk (ps := [(0, .aload_n 0, 1), (1, .iload_n 1, 1), (2, .bipush 40, 2)]) (t' := (0, 0, 4, [some (.ref 94), some (.int x1), none, none, none], [.int (40:Int32), .int x1, .ref 94], pv_mm s T)) (by decide +kernel) rfl ?_
  obtain ⟨⟨q2, T3⟩, e1, h⟩ := Option.bind_eq_some_iff.mp h
  dsimp only at h
  refine pv_e_cvi (d := d + 6) (i := 240) (z := 183) (np := 2) (ml := 5) (ci := 6) (As := [.int x1, .int (40:Int32)]) (rs := []) (pc' := 7) (by decide +kernel) rfl rfl rfl rfl (Nat.le_of_ble_eq_true rfl) (Nat.le_of_ble_eq_true rfl) rfl (ee183 (d + 3) x1 (40:Int32) e1) ?_
  refine pv_e_bk (ps := [(7, .istore_n 2, 1), (8, .iload_n 2, 1)]) (t' := (0, 0, 9, [some (.ref 94), some (.int x1), some (.int q2), none, none], [.int q2], pv_mm s T3)) (by decide +kernel) rfl ?_
  refine pv_e_ifge (off := 5) (b := 14) (pc' := 12) (by decide +kernel) (by decide +kernel) rfl (fun c4 => ?_) (fun c4 => ?_)
  · rw [if_pos c4] at h
    refine pv_e_bk (ps := [(14, .aload_n 0, 1), (15, .iload_n 1, 1), (16, .iconst 0, 1), (17, .iconst 0, 1)]) (t' := (0, 0, 18, [some (.ref 94), some (.int x1), some (.int q2), none, none], [.int (0:Int32), .int (0:Int32), .int x1, .ref 94], pv_mm s T3)) (by decide +kernel) rfl ?_
    obtain ⟨⟨q6, T7⟩, e5, h⟩ := Option.bind_eq_some_iff.mp h
    dsimp only at h
    refine pv_e_cvi (d := d + 6) (i := 272) (z := 193) (np := 3) (ml := 6) (ci := 6) (As := [.int x1, .int (0:Int32), .int (0:Int32)]) (rs := []) (pc' := 21) (by decide +kernel) rfl rfl rfl rfl (Nat.le_of_ble_eq_true rfl) (Nat.le_of_ble_eq_true rfl) rfl (ee193 (d + 0) x1 (0:Int32) (0:Int32) e5) ?_
    refine pv_e_ifeq (off := 10) (b := 31) (pc' := 24) (by decide +kernel) (by decide +kernel) rfl (fun c8 => ?_) (fun c8 => ?_)
    · rw [if_pos c8] at h
      refine pv_e_bk (ps := [(31, .iconst 1, 1), (32, .istore_n 3, 1)]) (t' := (0, 0, 33, [some (.ref 94), some (.int x1), some (.int q2), some (.int (1:Int32)), none], [], pv_mm s T7)) (by decide +kernel) rfl ?_
      obtain ⟨o33, e32, h⟩ := Option.bind_eq_some_iff.mp h
      refine pv_lp_ok (H := f194_spare_b1_H xs L d r s x1 q2) (X := f194_spare_b1_X xs L d r s x1 q2) (Z := (fun q => (some (.int q.1), pv_mm s q.2) = r)) (f194_spare_b1_ok (xs := xs) (L := L) (d := d) (r := r) (s := s) (v1 := x1) (v2 := q2)) 20000 _ _ e32 ?_ _
      rcases o33 with ⟨w29, T30⟩ | q
      · dsimp only at h ⊢
        show ∀ z3 : Option Value, ∀ z4 : Option Value, pv_Ev xs L (d + 7) 194 (0, 0, 106, [some (.ref 94), some (.int x1), some (.int q2), z3, z4], [], pv_mm s T30) r
        intro z3 z4
        refine pv_e_bk (ps := [(106, .bipush (-9), 2)]) (t' := (0, 0, 108, [some (.ref 94), some (.int x1), some (.int q2), z3, z4], [.int (-9:Int32)], pv_mm s T30)) (by decide +kernel) rfl ?_
        obtain rfl := Option.some.inj h
        cases hr
        exact pv_e_ri (by decide +kernel)
      · dsimp only at h ⊢
        obtain rfl := Option.some.inj h
        exact hr
    · rw [if_neg c8] at h
      refine pv_e_bk (ps := [(24, .aload_n 0, 1), (25, .iconst 0, 1), (26, .iconst 0, 1)]) (t' := (0, 0, 27, [some (.ref 94), some (.int x1), some (.int q2), none, none], [.int (0:Int32), .int (0:Int32), .ref 94], pv_mm s T7)) (by decide +kernel) rfl ?_
      obtain ⟨⟨q35, T36⟩, e34, h⟩ := Option.bind_eq_some_iff.mp h
      dsimp only at h
      refine pv_e_cvi (d := d + 6) (i := 109) (z := 116) (np := 2) (ml := 3) (ci := 6) (As := [.int (0:Int32), .int (0:Int32)]) (rs := []) (pc' := 30) (by decide +kernel) rfl rfl rfl rfl (Nat.le_of_ble_eq_true rfl) (Nat.le_of_ble_eq_true rfl) rfl (ee116 (d + 6) (0:Int32) (0:Int32) e34) ?_
      obtain rfl := Option.some.inj h
      cases hr
      exact pv_e_ri (by decide +kernel)
  · rw [if_neg c4] at h
    refine pv_e_bk (ps := [(12, .iload_n 2, 1)]) (t' := (0, 0, 13, [some (.ref 94), some (.int x1), some (.int q2), none, none], [.int q2], pv_mm s T3)) (by decide +kernel) rfl ?_
    obtain rfl := Option.some.inj h
    cases hr
    exact pv_e_ri (by decide +kernel)
def f195_whose_b1 (st : Int32 × Int32 × Int32 × pv_T) : Option ((Int32 × Int32 × Int32 × pv_T) ⊕ (Int32 × Int32 × Int32 × pv_T)) := match st with
  | (v3, v4, v5, T) =>
    if (12:Int32) < v5 then
      some (.inr (v3, v4, v5, T))
    else
      (f177_haveOne (-9:Int32) T).bind fun q9 =>
      ((
        if q9 = 0 then
          some v4
        else
          if v4 = (-9:Int32) then
            some v5
          else
            some v4) : Option (Int32)).bind fun t10 =>
      (f172_comeAll T).bind fun T12 =>
      some (.inl (v3 ||| q9, t10, v5 + (1:Int32), T12))
def f195_whose_b1_H (xs : Nat → Int32) (L d : Nat) (r : Option Value × pv_M) (s : pv_F) (v1 : Int32) (v2 : Int32) (st : Int32 × Int32 × Int32 × pv_T) : Prop := match st with
  | (v3, v4, v5, T) => ∀ z6 : Option Value, pv_Ev xs L (d + 5) 195 (0, 0, 25, [some (.ref 94), some (.int v1), some (.int v2), some (.int v3), some (.int v4), some (.int v5), z6], [], pv_mm s T) r
def f195_whose_b1_X (xs : Nat → Int32) (L d : Nat) (r : Option Value × pv_M) (s : pv_F) (v1 : Int32) (v2 : Int32) (st : Int32 × Int32 × Int32 × pv_T) : Prop := match st with
  | (v3, v4, v5, T) => ∀ z5 : Option Value, ∀ z6 : Option Value, pv_Ev xs L (d + 5) 195 (0, 0, 76, [some (.ref 94), some (.int v1), some (.int v2), some (.int v3), some (.int v4), z5, z6], [], pv_mm s T) r
def f195_whose (x1 : Int32) (T : pv_T) : Option (Int32 × pv_T) :=
  (f179_askedName x1 T).bind fun (q2, T3) =>
  if 0 ≤ q2 then
    (f168_putAside T3).bind fun T6 =>
    (pv_lq (f195_whose_b1) 20000 ((0:Int32), (-9:Int32), (0:Int32), T6)).bind fun (w17, w18, w19, T20) =>
    (f169_comeBack T20).bind fun T22 =>
    (f116_ask w18 w17 T22).bind fun (q24, T25) =>
    some (q24, T25)
  else
    some (q2, T3)
theorem f195_whose_b1_ok {xs : Nat → Int32} {L d : Nat} {r : Option Value × pv_M} {s : pv_F} {v1 : Int32} {v2 : Int32} (st : Int32 × Int32 × Int32 × pv_T) (o : (Int32 × Int32 × Int32 × pv_T) ⊕ (Int32 × Int32 × Int32 × pv_T)) (h : f195_whose_b1 st = some o) (hK : pv_Kq (f195_whose_b1_H xs L d r s v1 v2) (f195_whose_b1_X xs L d r s v1 v2) o) : f195_whose_b1_H xs L d r s v1 v2 st := by
  obtain ⟨v3, v4, v5, T⟩ := st
  show ∀ z6 : Option Value, pv_Ev xs L (d + 5) 195 (0, 0, 25, [some (.ref 94), some (.int v1), some (.int v2), some (.int v3), some (.int v4), some (.int v5), z6], [], pv_mm s T) r
  intro z6
  unfold f195_whose_b1 at h
  dsimp only at h
  refine pv_e_bk (ps := [(25, .iload 5, 2), (27, .bipush 12, 2)]) (t' := (0, 0, 29, [some (.ref 94), some (.int v1), some (.int v2), some (.int v3), some (.int v4), some (.int v5), z6], [.int (12:Int32), .int v5], pv_mm s T)) (by decide +kernel) rfl ?_
  refine pv_e_icmpgt (off := 47) (b := 76) (pc' := 32) (by decide +kernel) (by decide +kernel) rfl (fun c7 => ?_) (fun c7 => ?_)
  · rw [if_pos c7] at h
    obtain rfl := Option.some.inj h
    exact hK _ _
  · rw [if_neg c7] at h
    refine pv_e_bk (ps := [(32, .aload_n 0, 1), (33, .bipush (-9), 2)]) (t' := (0, 0, 35, [some (.ref 94), some (.int v1), some (.int v2), some (.int v3), some (.int v4), some (.int v5), z6], [.int (-9:Int32), .ref 94], pv_mm s T)) (by decide +kernel) rfl ?_
    obtain ⟨q9, e8, h⟩ := Option.bind_eq_some_iff.mp h
    refine pv_e_cvi (d := d + 4) (i := 228) (z := 177) (np := 1) (ml := 6) (ci := 6) (As := [.int (-9:Int32)]) (rs := []) (pc' := 38) (by decide +kernel) rfl rfl rfl rfl (Nat.le_of_ble_eq_true rfl) (Nat.le_of_ble_eq_true rfl) rfl (ee177 (d + 3) (-9:Int32) e8) ?_
    refine pv_e_bk (ps := [(38, .istore 6, 2), (40, .iload 6, 2)]) (t' := (0, 0, 42, [some (.ref 94), some (.int v1), some (.int v2), some (.int v3), some (.int v4), some (.int v5), some (.int q9)], [.int q9], pv_mm s T)) (by decide +kernel) rfl ?_
    obtain ⟨t10, hv13, h⟩ := Option.bind_eq_some_iff.mp h
    have hJ14 : pv_Ev xs L (d + 5) 195 (0, 0, 59, [some (.ref 94), some (.int v1), some (.int v2), some (.int v3), some (.int v4), some (.int v5), some (.int q9)], [.int t10], pv_mm s T) r := by
      refine pv_e_bk (ps := [(59, .istore 4, 2), (61, .iload_n 3, 1), (62, .iload 6, 2), (64, .ior, 1), (65, .istore_n 3, 1), (66, .aload_n 0, 1)]) (t' := (0, 0, 67, [some (.ref 94), some (.int v1), some (.int v2), some (.int (v3 ||| q9)), some (.int t10), some (.int v5), some (.int q9)], [.ref 94], pv_mm s T)) (by decide +kernel) rfl ?_
      obtain ⟨T12, e11, h⟩ := Option.bind_eq_some_iff.mp h
      refine pv_e_cvv (d := d + 4) (i := 215) (z := 172) (np := 0) (ml := 2) (ci := 6) (As := []) (rs := []) (pc' := 70) (by decide +kernel) rfl rfl rfl rfl (Nat.le_of_ble_eq_true rfl) (Nat.le_of_ble_eq_true rfl) rfl (ee172 (d + 0) e11) ?_
      refine pv_e_bk (ps := [(70, .iinc 5 1, 3), (73, .goto (-48), 3)]) (t' := (0, 0, 25, [some (.ref 94), some (.int v1), some (.int v2), some (.int (v3 ||| q9)), some (.int t10), some (.int (v5 + (1:Int32))), some (.int q9)], [], pv_mm s T12)) (by decide +kernel) rfl ?_
      obtain rfl := Option.some.inj h
      exact hK _
    clear h
    have h := hv13
    clear hv13
    refine pv_e_ifeq (off := 15) (b := 57) (pc' := 45) (by decide +kernel) (by decide +kernel) rfl (fun c15 => ?_) (fun c15 => ?_)
    · rw [if_pos c15] at h
      refine pv_e_bk (ps := [(57, .iload 4, 2)]) (t' := (0, 0, 59, [some (.ref 94), some (.int v1), some (.int v2), some (.int v3), some (.int v4), some (.int v5), some (.int q9)], [.int v4], pv_mm s T)) (by decide +kernel) rfl ?_
      obtain rfl := Option.some.inj h
      exact hJ14
    · rw [if_neg c15] at h
      refine pv_e_bk (ps := [(45, .iload 4, 2), (47, .bipush (-9), 2)]) (t' := (0, 0, 49, [some (.ref 94), some (.int v1), some (.int v2), some (.int v3), some (.int v4), some (.int v5), some (.int q9)], [.int (-9:Int32), .int v4], pv_mm s T)) (by decide +kernel) rfl ?_
      refine pv_e_icmpne (off := 8) (b := 57) (pc' := 52) (by decide +kernel) (by decide +kernel) rfl (fun c16 => ?_) (fun c16 => ?_)
      · rw [if_pos c16] at h
        refine pv_e_bk (ps := [(52, .iload 5, 2), (54, .goto 5, 3)]) (t' := (0, 0, 59, [some (.ref 94), some (.int v1), some (.int v2), some (.int v3), some (.int v4), some (.int v5), some (.int q9)], [.int v5], pv_mm s T)) (by decide +kernel) rfl ?_
        obtain rfl := Option.some.inj h
        exact hJ14
      · rw [if_neg c16] at h
        refine pv_e_bk (ps := [(57, .iload 4, 2)]) (t' := (0, 0, 59, [some (.ref 94), some (.int v1), some (.int v2), some (.int v3), some (.int v4), some (.int v5), some (.int q9)], [.int v4], pv_mm s T)) (by decide +kernel) rfl ?_
        obtain rfl := Option.some.inj h
        exact hJ14
theorem ee195 {xs : Nat → Int32} {L : Nat} (d : Nat) (x1 : Int32) {s : pv_F} {T : pv_T} {q : Int32 × pv_T}  (h : f195_whose x1 T = some q) : pv_Ev xs L (d + 5) 195 (0, 0, 0, [some (.ref 94), some (.int x1), none, none, none, none, none], [], pv_mm s T) (some (.int q.1), pv_mm s q.2) := by
  generalize hr : ((some (.int q.1), pv_mm s q.2) : Option Value × pv_M) = r
  unfold f195_whose at h
  refine pv_e_bk (ps := [(0, .aload_n 0, 1), (1, .iload_n 1, 1)]) (t' := (0, 0, 2, [some (.ref 94), some (.int x1), none, none, none, none, none], [.int x1, .ref 94], pv_mm s T)) (by decide +kernel) rfl ?_
  obtain ⟨⟨q2, T3⟩, e1, h⟩ := Option.bind_eq_some_iff.mp h
  dsimp only at h
  refine pv_e_cvi (d := d + 4) (i := 231) (z := 179) (np := 1) (ml := 4) (ci := 6) (As := [.int x1]) (rs := []) (pc' := 5) (by decide +kernel) rfl rfl rfl rfl (Nat.le_of_ble_eq_true rfl) (Nat.le_of_ble_eq_true rfl) rfl (ee179 (d + 1) x1 e1) ?_
  refine pv_e_bk (ps := [(5, .istore_n 2, 1), (6, .iload_n 2, 1)]) (t' := (0, 0, 7, [some (.ref 94), some (.int x1), some (.int q2), none, none, none, none], [.int q2], pv_mm s T3)) (by decide +kernel) rfl ?_
  refine pv_e_ifge (off := 5) (b := 12) (pc' := 10) (by decide +kernel) (by decide +kernel) rfl (fun c4 => ?_) (fun c4 => ?_)
  · rw [if_pos c4] at h
    refine pv_e_bk (ps := [(12, .aload_n 0, 1)]) (t' := (0, 0, 13, [some (.ref 94), some (.int x1), some (.int q2), none, none, none, none], [.ref 94], pv_mm s T3)) (by decide +kernel) rfl ?_
    obtain ⟨T6, e5, h⟩ := Option.bind_eq_some_iff.mp h
    refine pv_e_cvv (d := d + 4) (i := 206) (z := 168) (np := 0) (ml := 1) (ci := 6) (As := []) (rs := []) (pc' := 16) (by decide +kernel) rfl rfl rfl rfl (Nat.le_of_ble_eq_true rfl) (Nat.le_of_ble_eq_true rfl) rfl (ee168 (d + 3) e5) ?_
    refine pv_e_bk (ps := [(16, .iconst 0, 1), (17, .istore_n 3, 1), (18, .bipush (-9), 2), (20, .istore 4, 2), (22, .iconst 0, 1), (23, .istore 5, 2)]) (t' := (0, 0, 25, [some (.ref 94), some (.int x1), some (.int q2), some (.int (0:Int32)), some (.int (-9:Int32)), some (.int (0:Int32)), none], [], pv_mm s T6)) (by decide +kernel) rfl ?_
    obtain ⟨⟨w17, w18, w19, T20⟩, e27, h⟩ := Option.bind_eq_some_iff.mp h
    dsimp only at h
    have hx26 : f195_whose_b1_X xs L d r s x1 q2 (w17, w18, w19, T20) := by
      show ∀ z5 : Option Value, ∀ z6 : Option Value, pv_Ev xs L (d + 5) 195 (0, 0, 76, [some (.ref 94), some (.int x1), some (.int q2), some (.int w17), some (.int w18), z5, z6], [], pv_mm s T20) r
      intro z5 z6
      refine pv_e_bk (ps := [(76, .aload_n 0, 1)]) (t' := (0, 0, 77, [some (.ref 94), some (.int x1), some (.int q2), some (.int w17), some (.int w18), z5, z6], [.ref 94], pv_mm s T20)) (by decide +kernel) rfl ?_
      obtain ⟨T22, e21, h⟩ := Option.bind_eq_some_iff.mp h
      refine pv_e_cvv (d := d + 4) (i := 209) (z := 169) (np := 0) (ml := 1) (ci := 6) (As := []) (rs := []) (pc' := 80) (by decide +kernel) rfl rfl rfl rfl (Nat.le_of_ble_eq_true rfl) (Nat.le_of_ble_eq_true rfl) rfl (ee169 (d + 3) e21) ?_
      refine pv_e_bk (ps := [(80, .aload_n 0, 1), (81, .iload 4, 2), (83, .iload_n 3, 1)]) (t' := (0, 0, 84, [some (.ref 94), some (.int x1), some (.int q2), some (.int w17), some (.int w18), z5, z6], [.int w17, .int w18, .ref 94], pv_mm s T22)) (by decide +kernel) rfl ?_
      obtain ⟨⟨q24, T25⟩, e23, h⟩ := Option.bind_eq_some_iff.mp h
      dsimp only at h
      refine pv_e_cvi (d := d + 4) (i := 109) (z := 116) (np := 2) (ml := 3) (ci := 6) (As := [.int w18, .int w17]) (rs := []) (pc' := 87) (by decide +kernel) rfl rfl rfl rfl (Nat.le_of_ble_eq_true rfl) (Nat.le_of_ble_eq_true rfl) rfl (ee116 (d + 4) w18 w17 e23) ?_
      obtain rfl := Option.some.inj h
      cases hr
      exact pv_e_ri (by decide +kernel)
    exact pv_lq_ok (H := f195_whose_b1_H xs L d r s x1 q2) (X := f195_whose_b1_X xs L d r s x1 q2) (f195_whose_b1_ok (xs := xs) (L := L) (d := d) (r := r) (s := s) (v1 := x1) (v2 := q2)) 20000 _ _ e27 hx26 _
  · rw [if_neg c4] at h
    refine pv_e_bk (ps := [(10, .iload_n 2, 1)]) (t' := (0, 0, 11, [some (.ref 94), some (.int x1), some (.int q2), none, none, none, none], [.int q2], pv_mm s T3)) (by decide +kernel) rfl ?_
    obtain rfl := Option.some.inj h
    cases hr
    exact pv_e_ri (by decide +kernel)
def f196_heldOn_b1 (rec : Int32 → Int32 → Int32 → Int32 → pv_T → Option (pv_T)) (v3 : Int32) (st : Int32 × pv_T) : Option ((Int32 × pv_T) ⊕ (Int32 × pv_T)) := match st with
  | (v5, T) =>
    if v3 ≤ v5 then
      some (.inr (v5, T))
    else
      (pv_rd T.1 115 4 v5).bind fun q10 =>
      (pv_rd T.1 113 6 v5).bind fun q12 =>
      (pv_wm T 115 4 v5 (q10 ||| ((1:Int32) <<< (q12 &&& 31)))).bind fun T14 =>
      some (.inl (v5 + (1:Int32), T14))
def f196_heldOn_b1_H (xs : Nat → Int32) (L d : Nat) (r : Option Value × pv_M) (s : pv_F) (v3 : Int32) (v1 : Int32) (v2 : Int32) (v4 : Int32) (st : Int32 × pv_T) : Prop := match st with
  | (v5, T) => pv_Ev xs L (d + 6) 196 (0, 0, 43, [some (.ref 94), some (.int v1), some (.int v2), some (.int v3), some (.int v4), some (.int v5)], [], pv_mm s T) r
def f196_heldOn_b1_X (xs : Nat → Int32) (L d : Nat) (r : Option Value × pv_M) (s : pv_F) (v3 : Int32) (v1 : Int32) (v2 : Int32) (v4 : Int32) (st : Int32 × pv_T) : Prop := match st with
  | (v5, T) => ∀ z5 : Option Value, pv_Ev xs L (d + 6) 196 (0, 0, 74, [some (.ref 94), some (.int v1), some (.int v2), some (.int v3), some (.int v4), z5], [], pv_mm s T) r
def f196_heldOn_b2 (rec : Int32 → Int32 → Int32 → Int32 → pv_T → Option (pv_T)) (v1 : Int32) (v2 : Int32) (v3 : Int32) (v4 : Int32) (st : Int32 × pv_T) : Option ((Int32 × pv_T) ⊕ (Int32 × pv_T)) := match st with
  | (v5, T) =>
    if (T.1 94 8) ≤ v5 then
      some (.inr (v5, T))
    else
      (f152_mayCall v1 v5 T).bind fun q27 =>
      ((
        if q27 = 0 then
          some T
        else
          (f153_comers v1 v5 T).bind fun q33 =>
          (f123_rowAt v2 v3 T).bind fun q35 =>
          if q33 = q35 then
            (pv_wm T 113 6 v3 v5).bind fun T37 =>
            (f157_doCall v1 v5 T37).bind fun (q40, T41) =>
            (rec v1 v2 (v3 + (1:Int32)) (((7:Int32) * v4) + v5) T41).bind fun T43 =>
            (f162_copies 112 ((78:Int32) * v3) 105 (0:Int32) T43).bind fun T45 =>
            some T45
          else
            some T) : Option (pv_T)).bind fun T28 =>
      some (.inl (v5 + (1:Int32), T28))
def f196_heldOn_b2_H (xs : Nat → Int32) (L d : Nat) (r : Option Value × pv_M) (s : pv_F) (v1 : Int32) (v2 : Int32) (v3 : Int32) (v4 : Int32) (st : Int32 × pv_T) : Prop := match st with
  | (v5, T) => pv_Ev xs L (d + 6) 196 (0, 0, 94, [some (.ref 94), some (.int v1), some (.int v2), some (.int v3), some (.int v4), some (.int v5)], [], pv_mm s T) r
def f196_heldOn_b2_X (xs : Nat → Int32) (L d : Nat) (r : Option Value × pv_M) (s : pv_F) (v1 : Int32) (v2 : Int32) (v3 : Int32) (v4 : Int32) (st : Int32 × pv_T) : Prop := match st with
  | (v5, T) => ∀ z5 : Option Value, pv_Ev xs L (d + 6) 196 (0, 0, 184, [some (.ref 94), some (.int v1), some (.int v2), some (.int v3), some (.int v4), z5], [], pv_mm s T) r
def f196_heldOn_s (rec : Int32 → Int32 → Int32 → Int32 → pv_T → Option (pv_T)) (x1 : Int32) (x2 : Int32) (x3 : Int32) (x4 : Int32) (T : pv_T) : Option (pv_T) :=
  (pv_rd T.1 96 6 x2).bind fun q1 =>
  if x3 = q1 then
    ((
      if (T.1 94 32) = 0 then
        some x4
      else
        some (T.1 94 33)) : Option (Int32)).bind fun t4 =>
    (pv_pm T 94 33 t4).bind fun T5 =>
    (pv_pm T5 94 32 ((T5.1 94 32) + (1:Int32))).bind fun T7 =>
    (pv_lq (f196_heldOn_b1 rec x3) 20000 ((0:Int32), T7)).bind fun (w16, T17) =>
    some T17
  else
    (f162_copies 105 (0:Int32) 112 ((78:Int32) * x3) T).bind fun T24 =>
    (pv_lq (f196_heldOn_b2 rec x1 x2 x3 x4) 20000 ((0:Int32), T24)).bind fun (w46, T47) =>
    some T47
def f196_heldOn : Nat → Int32 → Int32 → Int32 → Int32 → pv_T → Option (pv_T)
  | 0 => fun _ _ _ _ _ => none
  | n + 1 => fun x1 x2 x3 x4 T => f196_heldOn_s (f196_heldOn n) x1 x2 x3 x4 T
theorem f196_heldOn_b1_ok {xs : Nat → Int32} {L d : Nat} {r : Option Value × pv_M} {rec : Int32 → Int32 → Int32 → Int32 → pv_T → Option (pv_T)} {s : pv_F} {v3 : Int32} {v1 : Int32} {v2 : Int32} {v4 : Int32} (hrec : ∀ (x1 : Int32) (x2 : Int32) (x3 : Int32) (x4 : Int32) (T : pv_T) (q : pv_T), rec x1 x2 x3 x4 T = some q → pv_Ev xs L (d + 5) 196 (0, 0, 0, [some (.ref 94), some (.int x1), some (.int x2), some (.int x3), some (.int x4), none], [], pv_mm s T) (none, pv_mm s q)) (st : Int32 × pv_T) (o : (Int32 × pv_T) ⊕ (Int32 × pv_T)) (h : f196_heldOn_b1 rec v3 st = some o) (hK : pv_Kq (f196_heldOn_b1_H xs L d r s v3 v1 v2 v4) (f196_heldOn_b1_X xs L d r s v3 v1 v2 v4) o) : f196_heldOn_b1_H xs L d r s v3 v1 v2 v4 st := by
  obtain ⟨v5, T⟩ := st
  show pv_Ev xs L (d + 6) 196 (0, 0, 43, [some (.ref 94), some (.int v1), some (.int v2), some (.int v3), some (.int v4), some (.int v5)], [], pv_mm s T) r
  unfold f196_heldOn_b1 at h
  dsimp only at h
  refine pv_e_bk (ps := [(43, .iload 5, 2), (45, .iload_n 3, 1)]) (t' := (0, 0, 46, [some (.ref 94), some (.int v1), some (.int v2), some (.int v3), some (.int v4), some (.int v5)], [.int v3, .int v5], pv_mm s T)) (by decide +kernel) rfl ?_
  refine pv_e_icmpge (off := 28) (b := 74) (pc' := 49) (by decide +kernel) (by decide +kernel) rfl (fun c9 => ?_) (fun c9 => ?_)
  · rw [if_pos c9] at h
    obtain rfl := Option.some.inj h
    exact hK _
  · rw [if_neg c9] at h
    refine pv_e_bk (ps := [(49, .aload_n 0, 1)]) (t' := (0, 0, 50, [some (.ref 94), some (.int v1), some (.int v2), some (.int v3), some (.int v4), some (.int v5)], [.ref 94], pv_mm s T)) (by decide +kernel) rfl ?_
    refine pv_e_gr (i := 74) (ci := 6) (j := 34) (b := 115) (pc' := 53) (by decide +kernel) rfl rfl rfl ?_
    refine pv_e_bk (ps := [(53, .iload 5, 2), (55, .dup2, 1)]) (t' := (0, 0, 56, [some (.ref 94), some (.int v1), some (.int v2), some (.int v3), some (.int v4), some (.int v5)], [.int v5, .ref 115, .int v5, .ref 115], pv_mm s T)) (by decide +kernel) rfl ?_
    obtain ⟨q10, e11, h⟩ := Option.bind_eq_some_iff.mp h
    refine pv_e_rm (pc' := 57) (by decide +kernel) (by decide) rfl e11 rfl ?_
    refine pv_e_bk (ps := [(57, .iconst 1, 1), (58, .aload_n 0, 1)]) (t' := (0, 0, 59, [some (.ref 94), some (.int v1), some (.int v2), some (.int v3), some (.int v4), some (.int v5)], [.ref 94, .int (1:Int32), .int q10, .int v5, .ref 115], pv_mm s T)) (by decide +kernel) rfl ?_
    refine pv_e_gr (i := 68) (ci := 6) (j := 28) (b := 113) (pc' := 62) (by decide +kernel) rfl rfl rfl ?_
    refine pv_e_bk (ps := [(62, .iload 5, 2)]) (t' := (0, 0, 64, [some (.ref 94), some (.int v1), some (.int v2), some (.int v3), some (.int v4), some (.int v5)], [.int v5, .ref 113, .int (1:Int32), .int q10, .int v5, .ref 115], pv_mm s T)) (by decide +kernel) rfl ?_
    obtain ⟨q12, e13, h⟩ := Option.bind_eq_some_iff.mp h
    refine pv_e_rm (pc' := 65) (by decide +kernel) (by decide) rfl e13 rfl ?_
    refine pv_e_bk (ps := [(65, .ishl, 1), (66, .ior, 1)]) (t' := (0, 0, 67, [some (.ref 94), some (.int v1), some (.int v2), some (.int v3), some (.int v4), some (.int v5)], [.int (q10 ||| ((1:Int32) <<< (q12 &&& 31))), .int v5, .ref 115], pv_mm s T)) (by decide +kernel) rfl ?_
    obtain ⟨T14, e15, h⟩ := Option.bind_eq_some_iff.mp h
    refine pv_e_wm (pc' := 68) (by decide +kernel) (by decide) rfl e15 rfl ?_
    refine pv_e_bk (ps := [(68, .iinc 5 1, 3), (71, .goto (-28), 3)]) (t' := (0, 0, 43, [some (.ref 94), some (.int v1), some (.int v2), some (.int v3), some (.int v4), some (.int (v5 + (1:Int32)))], [], pv_mm s T14)) (by decide +kernel) rfl ?_
    obtain rfl := Option.some.inj h
    exact hK
theorem f196_heldOn_b2_ok {xs : Nat → Int32} {L d : Nat} {r : Option Value × pv_M} {rec : Int32 → Int32 → Int32 → Int32 → pv_T → Option (pv_T)} {s : pv_F} {v1 : Int32} {v2 : Int32} {v3 : Int32} {v4 : Int32} (hrec : ∀ (x1 : Int32) (x2 : Int32) (x3 : Int32) (x4 : Int32) (T : pv_T) (q : pv_T), rec x1 x2 x3 x4 T = some q → pv_Ev xs L (d + 5) 196 (0, 0, 0, [some (.ref 94), some (.int x1), some (.int x2), some (.int x3), some (.int x4), none], [], pv_mm s T) (none, pv_mm s q)) (st : Int32 × pv_T) (o : (Int32 × pv_T) ⊕ (Int32 × pv_T)) (h : f196_heldOn_b2 rec v1 v2 v3 v4 st = some o) (hK : pv_Kq (f196_heldOn_b2_H xs L d r s v1 v2 v3 v4) (f196_heldOn_b2_X xs L d r s v1 v2 v3 v4) o) : f196_heldOn_b2_H xs L d r s v1 v2 v3 v4 st := by
  obtain ⟨v5, T⟩ := st
  show pv_Ev xs L (d + 6) 196 (0, 0, 94, [some (.ref 94), some (.int v1), some (.int v2), some (.int v3), some (.int v4), some (.int v5)], [], pv_mm s T) r
  unfold f196_heldOn_b2 at h
  dsimp only at h
  refine pv_e_bk (ps := [(94, .iload 5, 2), (96, .aload_n 0, 1)]) (t' := (0, 0, 97, [some (.ref 94), some (.int v1), some (.int v2), some (.int v3), some (.int v4), some (.int v5)], [.ref 94, .int v5], pv_mm s T)) (by decide +kernel) rfl ?_
  refine pv_e_gm (i := 136) (ci := 6) (j := 8) (pc' := 100) (by decide +kernel) (by decide) rfl rfl rfl ?_
  refine pv_e_icmpge (off := 84) (b := 184) (pc' := 103) (by decide +kernel) (by decide +kernel) rfl (fun c25 => ?_) (fun c25 => ?_)
  · rw [if_pos c25] at h
    obtain rfl := Option.some.inj h
    exact hK _
  · rw [if_neg c25] at h
    refine pv_e_bk (ps := [(103, .aload_n 0, 1), (104, .iload_n 1, 1), (105, .iload 5, 2)]) (t' := (0, 0, 107, [some (.ref 94), some (.int v1), some (.int v2), some (.int v3), some (.int v4), some (.int v5)], [.int v5, .int v1, .ref 94], pv_mm s T)) (by decide +kernel) rfl ?_
    obtain ⟨q27, e26, h⟩ := Option.bind_eq_some_iff.mp h
    refine pv_e_cvi (d := d + 5) (i := 161) (z := 152) (np := 2) (ml := 3) (ci := 6) (As := [.int v1, .int v5]) (rs := []) (pc' := 110) (by decide +kernel) rfl rfl rfl rfl (Nat.le_of_ble_eq_true rfl) (Nat.le_of_ble_eq_true rfl) rfl (ee152 (d + 4) v1 v5 e26) ?_
    obtain ⟨T28, hv29, h⟩ := Option.bind_eq_some_iff.mp h
    have hJ30 : pv_Ev xs L (d + 6) 196 (0, 0, 178, [some (.ref 94), some (.int v1), some (.int v2), some (.int v3), some (.int v4), some (.int v5)], [], pv_mm s T28) r := by
      refine pv_e_bk (ps := [(178, .iinc 5 1, 3), (181, .goto (-87), 3)]) (t' := (0, 0, 94, [some (.ref 94), some (.int v1), some (.int v2), some (.int v3), some (.int v4), some (.int (v5 + (1:Int32)))], [], pv_mm s T28)) (by decide +kernel) rfl ?_
      obtain rfl := Option.some.inj h
      exact hK
    clear h
    have h := hv29
    clear hv29
    refine pv_e_ifeq (off := 68) (b := 178) (pc' := 113) (by decide +kernel) (by decide +kernel) rfl (fun c31 => ?_) (fun c31 => ?_)
    · rw [if_pos c31] at h
      obtain rfl := Option.some.inj h
      exact hJ30
    · rw [if_neg c31] at h
      refine pv_e_bk (ps := [(113, .aload_n 0, 1), (114, .iload_n 1, 1), (115, .iload 5, 2)]) (t' := (0, 0, 117, [some (.ref 94), some (.int v1), some (.int v2), some (.int v3), some (.int v4), some (.int v5)], [.int v5, .int v1, .ref 94], pv_mm s T)) (by decide +kernel) rfl ?_
      obtain ⟨q33, e32, h⟩ := Option.bind_eq_some_iff.mp h
      refine pv_e_cvi (d := d + 5) (i := 164) (z := 153) (np := 2) (ml := 6) (ci := 6) (As := [.int v1, .int v5]) (rs := []) (pc' := 120) (by decide +kernel) rfl rfl rfl rfl (Nat.le_of_ble_eq_true rfl) (Nat.le_of_ble_eq_true rfl) rfl (ee153 (d + 3) v1 v5 e32) ?_
      refine pv_e_bk (ps := [(120, .aload_n 0, 1), (121, .iload_n 2, 1), (122, .iload_n 3, 1)]) (t' := (0, 0, 123, [some (.ref 94), some (.int v1), some (.int v2), some (.int v3), some (.int v4), some (.int v5)], [.int v3, .int v2, .ref 94, .int q33], pv_mm s T)) (by decide +kernel) rfl ?_
      obtain ⟨q35, e34, h⟩ := Option.bind_eq_some_iff.mp h
      refine pv_e_cvi (d := d + 5) (i := 105) (z := 123) (np := 2) (ml := 3) (ci := 6) (As := [.int v2, .int v3]) (rs := [.int q33]) (pc' := 126) (by decide +kernel) rfl rfl rfl rfl (Nat.le_of_ble_eq_true rfl) (Nat.le_of_ble_eq_true rfl) rfl (ee123 (d + 5) v2 v3 e34) ?_
      refine pv_e_icmpne (off := 52) (b := 178) (pc' := 129) (by decide +kernel) (by decide +kernel) rfl (fun c36 => ?_) (fun c36 => ?_)
      · rw [if_pos c36] at h
        refine pv_e_bk (ps := [(129, .aload_n 0, 1)]) (t' := (0, 0, 130, [some (.ref 94), some (.int v1), some (.int v2), some (.int v3), some (.int v4), some (.int v5)], [.ref 94], pv_mm s T)) (by decide +kernel) rfl ?_
        refine pv_e_gr (i := 68) (ci := 6) (j := 28) (b := 113) (pc' := 133) (by decide +kernel) rfl rfl rfl ?_
        refine pv_e_bk (ps := [(133, .iload_n 3, 1), (134, .iload 5, 2)]) (t' := (0, 0, 136, [some (.ref 94), some (.int v1), some (.int v2), some (.int v3), some (.int v4), some (.int v5)], [.int v5, .int v3, .ref 113], pv_mm s T)) (by decide +kernel) rfl ?_
        obtain ⟨T37, e38, h⟩ := Option.bind_eq_some_iff.mp h
        refine pv_e_wm (pc' := 137) (by decide +kernel) (by decide) rfl e38 rfl ?_
        refine pv_e_bk (ps := [(137, .aload_n 0, 1), (138, .iload_n 1, 1), (139, .iload 5, 2)]) (t' := (0, 0, 141, [some (.ref 94), some (.int v1), some (.int v2), some (.int v3), some (.int v4), some (.int v5)], [.int v5, .int v1, .ref 94], pv_mm s T37)) (by decide +kernel) rfl ?_
        obtain ⟨⟨q40, T41⟩, e39, h⟩ := Option.bind_eq_some_iff.mp h
        dsimp only at h
        refine pv_e_cvi (d := d + 5) (i := 199) (z := 157) (np := 2) (ml := 5) (ci := 6) (As := [.int v1, .int v5]) (rs := []) (pc' := 144) (by decide +kernel) rfl rfl rfl rfl (Nat.le_of_ble_eq_true rfl) (Nat.le_of_ble_eq_true rfl) rfl (ee157 (d + 1) v1 v5 e39) ?_
        refine pv_e_bk (ps := [(144, .pop, 1), (145, .aload_n 0, 1), (146, .iload_n 1, 1), (147, .iload_n 2, 1), (148, .iload_n 3, 1), (149, .iconst 1, 1), (150, .iadd, 1), (151, .bipush 7, 2), (153, .iload 4, 2), (155, .imul, 1), (156, .iload 5, 2), (158, .iadd, 1)]) (t' := (0, 0, 159, [some (.ref 94), some (.int v1), some (.int v2), some (.int v3), some (.int v4), some (.int v5)], [.int (((7:Int32) * v4) + v5), .int (v3 + (1:Int32)), .int v2, .int v1, .ref 94], pv_mm s T41)) (by decide +kernel) rfl ?_
        obtain ⟨T43, e42, h⟩ := Option.bind_eq_some_iff.mp h
        refine pv_e_cvv (d := d + 5) (i := 281) (z := 196) (np := 4) (ml := 6) (ci := 6) (As := [.int v1, .int v2, .int (v3 + (1:Int32)), .int (((7:Int32) * v4) + v5)]) (rs := []) (pc' := 162) (by decide +kernel) rfl rfl rfl rfl (Nat.le_of_ble_eq_true rfl) (Nat.le_of_ble_eq_true rfl) rfl (hrec v1 v2 (v3 + (1:Int32)) (((7:Int32) * v4) + v5) T41 _ e42) ?_
        refine pv_e_bk (ps := [(162, .aload_n 0, 1)]) (t' := (0, 0, 163, [some (.ref 94), some (.int v1), some (.int v2), some (.int v3), some (.int v4), some (.int v5)], [.ref 94], pv_mm s T43)) (by decide +kernel) rfl ?_
        refine pv_e_gr (i := 65) (ci := 6) (j := 27) (b := 112) (pc' := 166) (by decide +kernel) rfl rfl rfl ?_
        refine pv_e_bk (ps := [(166, .bipush 78, 2), (168, .iload_n 3, 1), (169, .imul, 1), (170, .aload_n 0, 1)]) (t' := (0, 0, 171, [some (.ref 94), some (.int v1), some (.int v2), some (.int v3), some (.int v4), some (.int v5)], [.ref 94, .int ((78:Int32) * v3), .ref 112], pv_mm s T43)) (by decide +kernel) rfl ?_
        refine pv_e_gr (i := 44) (ci := 6) (j := 17) (b := 105) (pc' := 174) (by decide +kernel) rfl rfl rfl ?_
        refine pv_e_bk (ps := [(174, .iconst 0, 1)]) (t' := (0, 0, 175, [some (.ref 94), some (.int v1), some (.int v2), some (.int v3), some (.int v4), some (.int v5)], [.int (0:Int32), .ref 105, .int ((78:Int32) * v3), .ref 112], pv_mm s T43)) (by decide +kernel) rfl ?_
        obtain ⟨T45, e44, h⟩ := Option.bind_eq_some_iff.mp h
        refine pv_e_csv (d := d + 5) (i := 202) (z := 162) (np := 4) (ml := 5) (As := [.ref 112, .int ((78:Int32) * v3), .ref 105, .int (0:Int32)]) (rs := []) (pc' := 178) (by decide +kernel) rfl rfl rfl (Nat.le_of_ble_eq_true rfl) (Nat.le_of_ble_eq_true rfl) rfl (ee162 (d + 5) 112 ((78:Int32) * v3) 105 (0:Int32) (by decide) (by decide) e44) ?_
        obtain rfl := Option.some.inj h
        exact hJ30
      · rw [if_neg c36] at h
        obtain rfl := Option.some.inj h
        exact hJ30
theorem ee196_s {xs : Nat → Int32} {L d : Nat} {rec : Int32 → Int32 → Int32 → Int32 → pv_T → Option (pv_T)} {x1 : Int32} {x2 : Int32} {x3 : Int32} {x4 : Int32} {s : pv_F} {T : pv_T} {q : pv_T} (hrec : ∀ (x1 : Int32) (x2 : Int32) (x3 : Int32) (x4 : Int32) (T : pv_T) (q : pv_T), rec x1 x2 x3 x4 T = some q → pv_Ev xs L (d + 5) 196 (0, 0, 0, [some (.ref 94), some (.int x1), some (.int x2), some (.int x3), some (.int x4), none], [], pv_mm s T) (none, pv_mm s q))  (h : f196_heldOn_s rec x1 x2 x3 x4 T = some q) : pv_Ev xs L (d + 6) 196 (0, 0, 0, [some (.ref 94), some (.int x1), some (.int x2), some (.int x3), some (.int x4), none], [], pv_mm s T) (none, pv_mm s q) := by
  generalize hr : ((none, pv_mm s q) : Option Value × pv_M) = r
  unfold f196_heldOn_s at h
  refine pv_e_bk (ps := [(0, .iload_n 3, 1), (1, .aload_n 0, 1)]) (t' := (0, 0, 2, [some (.ref 94), some (.int x1), some (.int x2), some (.int x3), some (.int x4), none], [.ref 94, .int x3], pv_mm s T)) (by decide +kernel) rfl ?_
  refine pv_e_gr (i := 13) (ci := 6) (j := 3) (b := 96) (pc' := 5) (by decide +kernel) rfl rfl rfl ?_
  refine pv_e_bk (ps := [(5, .iload_n 2, 1)]) (t' := (0, 0, 6, [some (.ref 94), some (.int x1), some (.int x2), some (.int x3), some (.int x4), none], [.int x2, .ref 96, .int x3], pv_mm s T)) (by decide +kernel) rfl ?_
  obtain ⟨q1, e2, h⟩ := Option.bind_eq_some_iff.mp h
  refine pv_e_rm (pc' := 7) (by decide +kernel) (by decide) rfl e2 rfl ?_
  refine pv_e_icmpne (off := 68) (b := 75) (pc' := 10) (by decide +kernel) (by decide +kernel) rfl (fun c3 => ?_) (fun c3 => ?_)
  · rw [if_pos c3] at h
    refine pv_e_bk (ps := [(10, .aload_n 0, 1), (11, .aload_n 0, 1)]) (t' := (0, 0, 12, [some (.ref 94), some (.int x1), some (.int x2), some (.int x3), some (.int x4), none], [.ref 94, .ref 94], pv_mm s T)) (by decide +kernel) rfl ?_
    refine pv_e_gm (i := 275) (ci := 6) (j := 32) (pc' := 15) (by decide +kernel) (by decide) rfl rfl rfl ?_
    obtain ⟨t4, hv20, h⟩ := Option.bind_eq_some_iff.mp h
    have hJ21 : pv_Ev xs L (d + 6) 196 (0, 0, 27, [some (.ref 94), some (.int x1), some (.int x2), some (.int x3), some (.int x4), none], [.int t4, .ref 94], pv_mm s T) r := by
      obtain ⟨T5, e6, h⟩ := Option.bind_eq_some_iff.mp h
      refine pv_e_pms (i := 278) (ci := 6) (j := 33) (pc' := 30) (by decide +kernel) rfl rfl (by decide) rfl rfl e6 rfl ?_
      refine pv_e_bk (ps := [(30, .aload_n 0, 1), (31, .dup, 1)]) (t' := (0, 0, 32, [some (.ref 94), some (.int x1), some (.int x2), some (.int x3), some (.int x4), none], [.ref 94, .ref 94], pv_mm s T5)) (by decide +kernel) rfl ?_
      refine pv_e_gm (i := 275) (ci := 6) (j := 32) (pc' := 35) (by decide +kernel) (by decide) rfl rfl rfl ?_
      refine pv_e_bk (ps := [(35, .iconst 1, 1), (36, .iadd, 1)]) (t' := (0, 0, 37, [some (.ref 94), some (.int x1), some (.int x2), some (.int x3), some (.int x4), none], [.int ((T5.1 94 32) + (1:Int32)), .ref 94], pv_mm s T5)) (by decide +kernel) rfl ?_
      obtain ⟨T7, e8, h⟩ := Option.bind_eq_some_iff.mp h
      refine pv_e_pms (i := 275) (ci := 6) (j := 32) (pc' := 40) (by decide +kernel) rfl rfl (by decide) rfl rfl e8 rfl ?_
      refine pv_e_bk (ps := [(40, .iconst 0, 1), (41, .istore 5, 2)]) (t' := (0, 0, 43, [some (.ref 94), some (.int x1), some (.int x2), some (.int x3), some (.int x4), some (.int (0:Int32))], [], pv_mm s T7)) (by decide +kernel) rfl ?_
      obtain ⟨⟨w16, T17⟩, e19, h⟩ := Option.bind_eq_some_iff.mp h
      dsimp only at h
      have hx18 : f196_heldOn_b1_X xs L d r s x3 x1 x2 x4 (w16, T17) := by
        show ∀ z5 : Option Value, pv_Ev xs L (d + 6) 196 (0, 0, 74, [some (.ref 94), some (.int x1), some (.int x2), some (.int x3), some (.int x4), z5], [], pv_mm s T17) r
        intro z5
        obtain rfl := Option.some.inj h
        cases hr
        exact pv_e_rv (by decide +kernel)
      exact pv_lq_ok (H := f196_heldOn_b1_H xs L d r s x3 x1 x2 x4) (X := f196_heldOn_b1_X xs L d r s x3 x1 x2 x4) (f196_heldOn_b1_ok (xs := xs) (L := L) (d := d) (r := r) (s := s) (v3 := x3) (v1 := x1) (v2 := x2) (v4 := x4) hrec) 20000 _ _ e19 hx18
    clear h
    have h := hv20
    clear hv20
    refine pv_e_ifne (off := 8) (b := 23) (pc' := 18) (by decide +kernel) (by decide +kernel) rfl (fun c22 => ?_) (fun c22 => ?_)
    · rw [if_pos c22] at h
      refine pv_e_bk (ps := [(18, .iload 4, 2), (20, .goto 7, 3)]) (t' := (0, 0, 27, [some (.ref 94), some (.int x1), some (.int x2), some (.int x3), some (.int x4), none], [.int x4, .ref 94], pv_mm s T)) (by decide +kernel) rfl ?_
      obtain rfl := Option.some.inj h
      exact hJ21
    · rw [if_neg c22] at h
      refine pv_e_bk (ps := [(23, .aload_n 0, 1)]) (t' := (0, 0, 24, [some (.ref 94), some (.int x1), some (.int x2), some (.int x3), some (.int x4), none], [.ref 94, .ref 94], pv_mm s T)) (by decide +kernel) rfl ?_
      refine pv_e_gm (i := 278) (ci := 6) (j := 33) (pc' := 27) (by decide +kernel) (by decide) rfl rfl rfl ?_
      obtain rfl := Option.some.inj h
      exact hJ21
  · rw [if_neg c3] at h
    refine pv_e_bk (ps := [(75, .aload_n 0, 1)]) (t' := (0, 0, 76, [some (.ref 94), some (.int x1), some (.int x2), some (.int x3), some (.int x4), none], [.ref 94], pv_mm s T)) (by decide +kernel) rfl ?_
    refine pv_e_gr (i := 44) (ci := 6) (j := 17) (b := 105) (pc' := 79) (by decide +kernel) rfl rfl rfl ?_
    refine pv_e_bk (ps := [(79, .iconst 0, 1), (80, .aload_n 0, 1)]) (t' := (0, 0, 81, [some (.ref 94), some (.int x1), some (.int x2), some (.int x3), some (.int x4), none], [.ref 94, .int (0:Int32), .ref 105], pv_mm s T)) (by decide +kernel) rfl ?_
    refine pv_e_gr (i := 65) (ci := 6) (j := 27) (b := 112) (pc' := 84) (by decide +kernel) rfl rfl rfl ?_
    refine pv_e_bk (ps := [(84, .bipush 78, 2), (86, .iload_n 3, 1), (87, .imul, 1)]) (t' := (0, 0, 88, [some (.ref 94), some (.int x1), some (.int x2), some (.int x3), some (.int x4), none], [.int ((78:Int32) * x3), .ref 112, .int (0:Int32), .ref 105], pv_mm s T)) (by decide +kernel) rfl ?_
    obtain ⟨T24, e23, h⟩ := Option.bind_eq_some_iff.mp h
    refine pv_e_csv (d := d + 5) (i := 202) (z := 162) (np := 4) (ml := 5) (As := [.ref 105, .int (0:Int32), .ref 112, .int ((78:Int32) * x3)]) (rs := []) (pc' := 91) (by decide +kernel) rfl rfl rfl (Nat.le_of_ble_eq_true rfl) (Nat.le_of_ble_eq_true rfl) rfl (ee162 (d + 5) 105 (0:Int32) 112 ((78:Int32) * x3) (by decide) (by decide) e23) ?_
    refine pv_e_bk (ps := [(91, .iconst 0, 1), (92, .istore 5, 2)]) (t' := (0, 0, 94, [some (.ref 94), some (.int x1), some (.int x2), some (.int x3), some (.int x4), some (.int (0:Int32))], [], pv_mm s T24)) (by decide +kernel) rfl ?_
    obtain ⟨⟨w46, T47⟩, e49, h⟩ := Option.bind_eq_some_iff.mp h
    dsimp only at h
    have hx48 : f196_heldOn_b2_X xs L d r s x1 x2 x3 x4 (w46, T47) := by
      show ∀ z5 : Option Value, pv_Ev xs L (d + 6) 196 (0, 0, 184, [some (.ref 94), some (.int x1), some (.int x2), some (.int x3), some (.int x4), z5], [], pv_mm s T47) r
      intro z5
      obtain rfl := Option.some.inj h
      cases hr
      exact pv_e_rv (by decide +kernel)
    exact pv_lq_ok (H := f196_heldOn_b2_H xs L d r s x1 x2 x3 x4) (X := f196_heldOn_b2_X xs L d r s x1 x2 x3 x4) (f196_heldOn_b2_ok (xs := xs) (L := L) (d := d) (r := r) (s := s) (v1 := x1) (v2 := x2) (v3 := x3) (v4 := x4) hrec) 20000 _ _ e49 hx48
theorem ee196 {xs : Nat → Int32} {L : Nat} (d : Nat) : ∀ (n : Nat) (x1 : Int32) (x2 : Int32) (x3 : Int32) (x4 : Int32) {s : pv_F} {T : pv_T} {q : pv_T}  (h : f196_heldOn n x1 x2 x3 x4 T = some q), pv_Ev xs L (d + n + 5) 196 (0, 0, 0, [some (.ref 94), some (.int x1), some (.int x2), some (.int x3), some (.int x4), none], [], pv_mm s T) (none, pv_mm s q) := by
  intro n
  induction n with
  | zero => intros; next h => cases h
  | succ n ih =>
    intro x1 x2 x3 x4 s T q h
    exact ee196_s (d := d + n) (fun x1 x2 x3 x4 T q h => ih x1 x2 x3 x4 h)  h
def f197_askedHeld_b1 (v1 : Int32) (v2 : Int32) (T : pv_T) (st : Int32) : Option (Int32 ⊕ (Int32 ⊕ (Int32 × pv_T))) := match st with
  | v4 =>
    (pv_rd T.1 96 6 v2).bind fun q11 =>
    if q11 ≤ v4 then
      some (.inr (.inl v4))
    else
      (f123_rowAt v2 v4 T).bind fun q15 =>
      (f114_in q15 (0:Int32) (((1:Int32) <<< ((T.1 94 8) &&& 31)) - (1:Int32))).bind fun q17 =>
      if q17 = 0 then
        (f115_meet (3:Int32) T).bind fun (q20, T21) =>
        some (.inr (.inr (q20, T21)))
      else
        some (.inl (v4 + (1:Int32)))
def f197_askedHeld_b1_H (xs : Nat → Int32) (L d : Nat) (r : Option Value × pv_M) (s : pv_F) (v1 : Int32) (v2 : Int32) (T : pv_T) (v3 : Int32) (st : Int32) : Prop := match st with
  | v4 => pv_Ev xs L (d + 14) 197 (0, 0, 44, [some (.ref 94), some (.int v1), some (.int v2), some (.int v3), some (.int v4)], [], pv_mm s T) r
def f197_askedHeld_b1_X (xs : Nat → Int32) (L d : Nat) (r : Option Value × pv_M) (s : pv_F) (v1 : Int32) (v2 : Int32) (T : pv_T) (v3 : Int32) (st : Int32) : Prop := match st with
  | v4 => ∀ z4 : Option Value, pv_Ev xs L (d + 14) 197 (0, 0, 89, [some (.ref 94), some (.int v1), some (.int v2), some (.int v3), z4], [], pv_mm s T) r
def f197_askedHeld_b2 (v1 : Int32) (v2 : Int32) (st : Int32 × pv_T) : Option ((Int32 × pv_T) ⊕ (Int32 × pv_T)) := match st with
  | (v4, T) =>
    if (4:Int32) ≤ v4 then
      some (.inr (v4, T))
    else
      (pv_wm T 115 4 v4 (0:Int32)).bind fun T28 =>
      some (.inl (v4 + (1:Int32), T28))
def f197_askedHeld_b2_H (xs : Nat → Int32) (L d : Nat) (r : Option Value × pv_M) (s : pv_F) (v1 : Int32) (v2 : Int32) (v3 : Int32) (st : Int32 × pv_T) : Prop := match st with
  | (v4, T) => pv_Ev xs L (d + 14) 197 (0, 0, 103, [some (.ref 94), some (.int v1), some (.int v2), some (.int v3), some (.int v4)], [], pv_mm s T) r
def f197_askedHeld_b2_X (xs : Nat → Int32) (L d : Nat) (r : Option Value × pv_M) (s : pv_F) (v1 : Int32) (v2 : Int32) (v3 : Int32) (st : Int32 × pv_T) : Prop := match st with
  | (v4, T) => ∀ z4 : Option Value, pv_Ev xs L (d + 14) 197 (0, 0, 123, [some (.ref 94), some (.int v1), some (.int v2), some (.int v3), z4], [], pv_mm s T) r
def f197_askedHeld (x1 : Int32) (x2 : Int32) (T : pv_T) : Option (Int32 × pv_T) :=
  (pv_rd T.1 101 7 x1).bind fun q1 =>
  if q1 = (3:Int32) then
    some ((-4:Int32), T)
  else
    (f121_askedRow x2 T).bind fun (q5, T6) =>
    if 0 ≤ q5 then
      (pv_rd T6.1 96 6 x2).bind fun q8 =>
      if q8 ≤ (4:Int32) then
        (pv_lp (f197_askedHeld_b1 x1 x2 T6) 20000 (0:Int32)).bind fun o38 => match o38 with
          | .inl w22 =>
            (pv_pm T6 94 32 (0:Int32)).bind fun T23 =>
            (pv_pm T23 94 33 (-9:Int32)).bind fun T25 =>
            (pv_lq (f197_askedHeld_b2 x1 x2) 20000 ((0:Int32), T25)).bind fun (w30, T31) =>
            (f196_heldOn 8 x1 x2 (0:Int32) (0:Int32) T31).bind fun T33 =>
            some ((0:Int32), T33)
          | .inr q => some q
      else
        (f115_meet (5:Int32) T6).bind fun (q40, T41) =>
        some (q40, T41)
    else
      some (q5, T6)
theorem f197_askedHeld_b1_ok {xs : Nat → Int32} {L d : Nat} {r : Option Value × pv_M} {s : pv_F} {v1 : Int32} {v2 : Int32} {T : pv_T} {v3 : Int32} (st : Int32) (o : Int32 ⊕ (Int32 ⊕ (Int32 × pv_T))) (h : f197_askedHeld_b1 v1 v2 T st = some o) (hK : pv_Kp (f197_askedHeld_b1_H xs L d r s v1 v2 T v3) (f197_askedHeld_b1_X xs L d r s v1 v2 T v3) (fun q => (some (.int q.1), pv_mm s q.2) = r) o) : f197_askedHeld_b1_H xs L d r s v1 v2 T v3 st := by
  obtain ⟨v4, rfl⟩ : ∃ z, z = st := ⟨st, rfl⟩
  show pv_Ev xs L (d + 14) 197 (0, 0, 44, [some (.ref 94), some (.int v1), some (.int v2), some (.int v3), some (.int v4)], [], pv_mm s T) r
  unfold f197_askedHeld_b1 at h
  dsimp only at h
  refine pv_e_bk (ps := [(44, .iload 4, 2), (46, .aload_n 0, 1)]) (t' := (0, 0, 47, [some (.ref 94), some (.int v1), some (.int v2), some (.int v3), some (.int v4)], [.ref 94, .int v4], pv_mm s T)) (by decide +kernel) rfl ?_
  refine pv_e_gr (i := 13) (ci := 6) (j := 3) (b := 96) (pc' := 50) (by decide +kernel) rfl rfl rfl ?_
  refine pv_e_bk (ps := [(50, .iload_n 2, 1)]) (t' := (0, 0, 51, [some (.ref 94), some (.int v1), some (.int v2), some (.int v3), some (.int v4)], [.int v2, .ref 96, .int v4], pv_mm s T)) (by decide +kernel) rfl ?_
  obtain ⟨q11, e12, h⟩ := Option.bind_eq_some_iff.mp h
  refine pv_e_rm (pc' := 52) (by decide +kernel) (by decide) rfl e12 rfl ?_
  refine pv_e_icmpge (off := 37) (b := 89) (pc' := 55) (by decide +kernel) (by decide +kernel) rfl (fun c13 => ?_) (fun c13 => ?_)
  · rw [if_pos c13] at h
    obtain rfl := Option.some.inj h
    exact hK _
  · rw [if_neg c13] at h
    refine pv_e_bk (ps := [(55, .aload_n 0, 1), (56, .iload_n 2, 1), (57, .iload 4, 2)]) (t' := (0, 0, 59, [some (.ref 94), some (.int v1), some (.int v2), some (.int v3), some (.int v4)], [.int v4, .int v2, .ref 94], pv_mm s T)) (by decide +kernel) rfl ?_
    obtain ⟨q15, e14, h⟩ := Option.bind_eq_some_iff.mp h
    refine pv_e_cvi (d := d + 13) (i := 105) (z := 123) (np := 2) (ml := 3) (ci := 6) (As := [.int v2, .int v4]) (rs := []) (pc' := 62) (by decide +kernel) rfl rfl rfl rfl (Nat.le_of_ble_eq_true rfl) (Nat.le_of_ble_eq_true rfl) rfl (ee123 (d + 13) v2 v4 e14) ?_
    refine pv_e_bk (ps := [(62, .iconst 0, 1), (63, .iconst 1, 1), (64, .aload_n 0, 1)]) (t' := (0, 0, 65, [some (.ref 94), some (.int v1), some (.int v2), some (.int v3), some (.int v4)], [.ref 94, .int (1:Int32), .int (0:Int32), .int q15], pv_mm s T)) (by decide +kernel) rfl ?_
    refine pv_e_gm (i := 136) (ci := 6) (j := 8) (pc' := 68) (by decide +kernel) (by decide) rfl rfl rfl ?_
    refine pv_e_bk (ps := [(68, .ishl, 1), (69, .iconst 1, 1), (70, .isub, 1)]) (t' := (0, 0, 71, [some (.ref 94), some (.int v1), some (.int v2), some (.int v3), some (.int v4)], [.int (((1:Int32) <<< ((T.1 94 8) &&& 31)) - (1:Int32)), .int (0:Int32), .int q15], pv_mm s T)) (by decide +kernel) rfl ?_
    obtain ⟨q17, e16, h⟩ := Option.bind_eq_some_iff.mp h
    refine pv_e_csi (d := d + 13) (i := 83) (z := 114) (np := 3) (ml := 3) (As := [.int q15, .int (0:Int32), .int (((1:Int32) <<< ((T.1 94 8) &&& 31)) - (1:Int32))]) (rs := []) (pc' := 74) (by decide +kernel) rfl rfl rfl (Nat.le_of_ble_eq_true rfl) (Nat.le_of_ble_eq_true rfl) rfl (ee114 (d + 13) q15 (0:Int32) (((1:Int32) <<< ((T.1 94 8) &&& 31)) - (1:Int32)) e16) ?_
    refine pv_e_ifne (off := 9) (b := 83) (pc' := 77) (by decide +kernel) (by decide +kernel) rfl (fun c18 => ?_) (fun c18 => ?_)
    · rw [if_pos c18] at h
      refine pv_e_bk (ps := [(77, .aload_n 0, 1), (78, .iconst 3, 1)]) (t' := (0, 0, 79, [some (.ref 94), some (.int v1), some (.int v2), some (.int v3), some (.int v4)], [.int (3:Int32), .ref 94], pv_mm s T)) (by decide +kernel) rfl ?_
      obtain ⟨⟨q20, T21⟩, e19, h⟩ := Option.bind_eq_some_iff.mp h
      dsimp only at h
      refine pv_e_cvi (d := d + 13) (i := 91) (z := 115) (np := 1) (ml := 2) (ci := 6) (As := [.int (3:Int32)]) (rs := []) (pc' := 82) (by decide +kernel) rfl rfl rfl rfl (Nat.le_of_ble_eq_true rfl) (Nat.le_of_ble_eq_true rfl) rfl (ee115 (d + 13) (3:Int32) e19) ?_
      obtain rfl := Option.some.inj h
      cases hK
      exact pv_e_ri (by decide +kernel)
    · rw [if_neg c18] at h
      refine pv_e_bk (ps := [(83, .iinc 4 1, 3), (86, .goto (-42), 3)]) (t' := (0, 0, 44, [some (.ref 94), some (.int v1), some (.int v2), some (.int v3), some (.int (v4 + (1:Int32)))], [], pv_mm s T)) (by decide +kernel) rfl ?_
      obtain rfl := Option.some.inj h
      exact hK
theorem f197_askedHeld_b2_ok {xs : Nat → Int32} {L d : Nat} {r : Option Value × pv_M} {s : pv_F} {v1 : Int32} {v2 : Int32} {v3 : Int32} (st : Int32 × pv_T) (o : (Int32 × pv_T) ⊕ (Int32 × pv_T)) (h : f197_askedHeld_b2 v1 v2 st = some o) (hK : pv_Kq (f197_askedHeld_b2_H xs L d r s v1 v2 v3) (f197_askedHeld_b2_X xs L d r s v1 v2 v3) o) : f197_askedHeld_b2_H xs L d r s v1 v2 v3 st := by
  obtain ⟨v4, T⟩ := st
  show pv_Ev xs L (d + 14) 197 (0, 0, 103, [some (.ref 94), some (.int v1), some (.int v2), some (.int v3), some (.int v4)], [], pv_mm s T) r
  unfold f197_askedHeld_b2 at h
  dsimp only at h
  refine pv_e_bk (ps := [(103, .iload 4, 2), (105, .iconst 4, 1)]) (t' := (0, 0, 106, [some (.ref 94), some (.int v1), some (.int v2), some (.int v3), some (.int v4)], [.int (4:Int32), .int v4], pv_mm s T)) (by decide +kernel) rfl ?_
  refine pv_e_icmpge (off := 17) (b := 123) (pc' := 109) (by decide +kernel) (by decide +kernel) rfl (fun c27 => ?_) (fun c27 => ?_)
  · rw [if_pos c27] at h
    obtain rfl := Option.some.inj h
    exact hK _
  · rw [if_neg c27] at h
    refine pv_e_bk (ps := [(109, .aload_n 0, 1)]) (t' := (0, 0, 110, [some (.ref 94), some (.int v1), some (.int v2), some (.int v3), some (.int v4)], [.ref 94], pv_mm s T)) (by decide +kernel) rfl ?_
    refine pv_e_gr (i := 74) (ci := 6) (j := 34) (b := 115) (pc' := 113) (by decide +kernel) rfl rfl rfl ?_
    refine pv_e_bk (ps := [(113, .iload 4, 2), (115, .iconst 0, 1)]) (t' := (0, 0, 116, [some (.ref 94), some (.int v1), some (.int v2), some (.int v3), some (.int v4)], [.int (0:Int32), .int v4, .ref 115], pv_mm s T)) (by decide +kernel) rfl ?_
    obtain ⟨T28, e29, h⟩ := Option.bind_eq_some_iff.mp h
    refine pv_e_wm (pc' := 117) (by decide +kernel) (by decide) rfl e29 rfl ?_
    refine pv_e_bk (ps := [(117, .iinc 4 1, 3), (120, .goto (-17), 3)]) (t' := (0, 0, 103, [some (.ref 94), some (.int v1), some (.int v2), some (.int v3), some (.int (v4 + (1:Int32)))], [], pv_mm s T28)) (by decide +kernel) rfl ?_
    obtain rfl := Option.some.inj h
    exact hK
theorem ee197 {xs : Nat → Int32} {L : Nat} (d : Nat) (x1 : Int32) (x2 : Int32) {s : pv_F} {T : pv_T} {q : Int32 × pv_T}  (h : f197_askedHeld x1 x2 T = some q) : pv_Ev xs L (d + 14) 197 (0, 0, 0, [some (.ref 94), some (.int x1), some (.int x2), none, none], [], pv_mm s T) (some (.int q.1), pv_mm s q.2) := by
  generalize hr : ((some (.int q.1), pv_mm s q.2) : Option Value × pv_M) = r
  unfold f197_askedHeld at h
  refine pv_e_bk (ps := [(0, .aload_n 0, 1)]) (t' := (0, 0, 1, [some (.ref 94), some (.int x1), some (.int x2), none, none], [.ref 94], pv_mm s T)) (by decide +kernel) rfl ?_
  refine pv_e_gr (i := 32) (ci := 6) (j := 11) (b := 101) (pc' := 4) (by decide +kernel) rfl rfl rfl ?_
  refine pv_e_bk (ps := [(4, .iload_n 1, 1)]) (t' := (0, 0, 5, [some (.ref 94), some (.int x1), some (.int x2), none, none], [.int x1, .ref 101], pv_mm s T)) (by decide +kernel) rfl ?_
  obtain ⟨q1, e2, h⟩ := Option.bind_eq_some_iff.mp h
  refine pv_e_rm (pc' := 6) (by decide +kernel) (by decide) rfl e2 rfl ?_
  refine pv_e_bk (ps := [(6, .iconst 3, 1)]) (t' := (0, 0, 7, [some (.ref 94), some (.int x1), some (.int x2), none, none], [.int (3:Int32), .int q1], pv_mm s T)) (by decide +kernel) rfl ?_
  refine pv_e_icmpne (off := 6) (b := 13) (pc' := 10) (by decide +kernel) (by decide +kernel) rfl (fun c3 => ?_) (fun c3 => ?_)
  · rw [if_pos c3] at h
    refine pv_e_bk (ps := [(10, .bipush (-4), 2)]) (t' := (0, 0, 12, [some (.ref 94), some (.int x1), some (.int x2), none, none], [.int (-4:Int32)], pv_mm s T)) (by decide +kernel) rfl ?_
    obtain rfl := Option.some.inj h
    cases hr
    exact pv_e_ri (by decide +kernel)
  · rw [if_neg c3] at h
    refine pv_e_bk (ps := [(13, .aload_n 0, 1), (14, .iload_n 2, 1)]) (t' := (0, 0, 15, [some (.ref 94), some (.int x1), some (.int x2), none, none], [.int x2, .ref 94], pv_mm s T)) (by decide +kernel) rfl ?_
    obtain ⟨⟨q5, T6⟩, e4, h⟩ := Option.bind_eq_some_iff.mp h
    dsimp only at h
    refine pv_e_cvi (d := d + 13) (i := 102) (z := 121) (np := 1) (ml := 2) (ci := 6) (As := [.int x2]) (rs := []) (pc' := 18) (by decide +kernel) rfl rfl rfl rfl (Nat.le_of_ble_eq_true rfl) (Nat.le_of_ble_eq_true rfl) rfl (ee121 (d + 11) x2 e4) ?_
    refine pv_e_bk (ps := [(18, .istore_n 3, 1), (19, .iload_n 3, 1)]) (t' := (0, 0, 20, [some (.ref 94), some (.int x1), some (.int x2), some (.int q5), none], [.int q5], pv_mm s T6)) (by decide +kernel) rfl ?_
    refine pv_e_ifge (off := 5) (b := 25) (pc' := 23) (by decide +kernel) (by decide +kernel) rfl (fun c7 => ?_) (fun c7 => ?_)
    · rw [if_pos c7] at h
      refine pv_e_bk (ps := [(25, .aload_n 0, 1)]) (t' := (0, 0, 26, [some (.ref 94), some (.int x1), some (.int x2), some (.int q5), none], [.ref 94], pv_mm s T6)) (by decide +kernel) rfl ?_
      refine pv_e_gr (i := 13) (ci := 6) (j := 3) (b := 96) (pc' := 29) (by decide +kernel) rfl rfl rfl ?_
      refine pv_e_bk (ps := [(29, .iload_n 2, 1)]) (t' := (0, 0, 30, [some (.ref 94), some (.int x1), some (.int x2), some (.int q5), none], [.int x2, .ref 96], pv_mm s T6)) (by decide +kernel) rfl ?_
      obtain ⟨q8, e9, h⟩ := Option.bind_eq_some_iff.mp h
      refine pv_e_rm (pc' := 31) (by decide +kernel) (by decide) rfl e9 rfl ?_
      refine pv_e_bk (ps := [(31, .iconst 4, 1)]) (t' := (0, 0, 32, [some (.ref 94), some (.int x1), some (.int x2), some (.int q5), none], [.int (4:Int32), .int q8], pv_mm s T6)) (by decide +kernel) rfl ?_
      refine pv_e_icmple (off := 9) (b := 41) (pc' := 35) (by decide +kernel) (by decide +kernel) rfl (fun c10 => ?_) (fun c10 => ?_)
      · rw [if_pos c10] at h
        refine pv_e_bk (ps := [(41, .iconst 0, 1), (42, .istore 4, 2)]) (t' := (0, 0, 44, [some (.ref 94), some (.int x1), some (.int x2), some (.int q5), some (.int (0:Int32))], [], pv_mm s T6)) (by decide +kernel) rfl ?_
        obtain ⟨o38, e37, h⟩ := Option.bind_eq_some_iff.mp h
        refine pv_lp_ok (H := f197_askedHeld_b1_H xs L d r s x1 x2 T6 q5) (X := f197_askedHeld_b1_X xs L d r s x1 x2 T6 q5) (Z := (fun q => (some (.int q.1), pv_mm s q.2) = r)) (f197_askedHeld_b1_ok (xs := xs) (L := L) (d := d) (r := r) (s := s) (v1 := x1) (v2 := x2) (T := T6) (v3 := q5)) 20000 _ _ e37 ?_
        rcases o38 with w22 | q
        · dsimp only at h ⊢
          show ∀ z4 : Option Value, pv_Ev xs L (d + 14) 197 (0, 0, 89, [some (.ref 94), some (.int x1), some (.int x2), some (.int q5), z4], [], pv_mm s T6) r
          intro z4
          refine pv_e_bk (ps := [(89, .aload_n 0, 1), (90, .iconst 0, 1)]) (t' := (0, 0, 91, [some (.ref 94), some (.int x1), some (.int x2), some (.int q5), z4], [.int (0:Int32), .ref 94], pv_mm s T6)) (by decide +kernel) rfl ?_
          obtain ⟨T23, e24, h⟩ := Option.bind_eq_some_iff.mp h
          refine pv_e_pms (i := 275) (ci := 6) (j := 32) (pc' := 94) (by decide +kernel) rfl rfl (by decide) rfl rfl e24 rfl ?_
          refine pv_e_bk (ps := [(94, .aload_n 0, 1), (95, .bipush (-9), 2)]) (t' := (0, 0, 97, [some (.ref 94), some (.int x1), some (.int x2), some (.int q5), z4], [.int (-9:Int32), .ref 94], pv_mm s T23)) (by decide +kernel) rfl ?_
          obtain ⟨T25, e26, h⟩ := Option.bind_eq_some_iff.mp h
          refine pv_e_pms (i := 278) (ci := 6) (j := 33) (pc' := 100) (by decide +kernel) rfl rfl (by decide) rfl rfl e26 rfl ?_
          refine pv_e_bk (ps := [(100, .iconst 0, 1), (101, .istore 4, 2)]) (t' := (0, 0, 103, [some (.ref 94), some (.int x1), some (.int x2), some (.int q5), some (.int (0:Int32))], [], pv_mm s T25)) (by decide +kernel) rfl ?_
          obtain ⟨⟨w30, T31⟩, e35, h⟩ := Option.bind_eq_some_iff.mp h
          dsimp only at h
          have hx34 : f197_askedHeld_b2_X xs L d r s x1 x2 q5 (w30, T31) := by
            show ∀ z4 : Option Value, pv_Ev xs L (d + 14) 197 (0, 0, 123, [some (.ref 94), some (.int x1), some (.int x2), some (.int q5), z4], [], pv_mm s T31) r
            intro z4
            refine pv_e_bk (ps := [(123, .aload_n 0, 1), (124, .iload_n 1, 1), (125, .iload_n 2, 1), (126, .iconst 0, 1), (127, .iconst 0, 1)]) (t' := (0, 0, 128, [some (.ref 94), some (.int x1), some (.int x2), some (.int q5), z4], [.int (0:Int32), .int (0:Int32), .int x2, .int x1, .ref 94], pv_mm s T31)) (by decide +kernel) rfl ?_
            obtain ⟨T33, e32, h⟩ := Option.bind_eq_some_iff.mp h
            refine pv_e_cvv (d := d + 13) (i := 281) (z := 196) (np := 4) (ml := 6) (ci := 6) (As := [.int x1, .int x2, .int (0:Int32), .int (0:Int32)]) (rs := []) (pc' := 131) (by decide +kernel) rfl rfl rfl rfl (Nat.le_of_ble_eq_true rfl) (Nat.le_of_ble_eq_true rfl) rfl (ee196 (d + 0) 8 x1 x2 (0:Int32) (0:Int32) e32) ?_
            refine pv_e_bk (ps := [(131, .iconst 0, 1)]) (t' := (0, 0, 132, [some (.ref 94), some (.int x1), some (.int x2), some (.int q5), z4], [.int (0:Int32)], pv_mm s T33)) (by decide +kernel) rfl ?_
            obtain rfl := Option.some.inj h
            cases hr
            exact pv_e_ri (by decide +kernel)
          exact pv_lq_ok (H := f197_askedHeld_b2_H xs L d r s x1 x2 q5) (X := f197_askedHeld_b2_X xs L d r s x1 x2 q5) (f197_askedHeld_b2_ok (xs := xs) (L := L) (d := d) (r := r) (s := s) (v1 := x1) (v2 := x2) (v3 := q5)) 20000 _ _ e35 hx34
        · dsimp only at h ⊢
          obtain rfl := Option.some.inj h
          exact hr
      · rw [if_neg c10] at h
        refine pv_e_bk (ps := [(35, .aload_n 0, 1), (36, .iconst 5, 1)]) (t' := (0, 0, 37, [some (.ref 94), some (.int x1), some (.int x2), some (.int q5), none], [.int (5:Int32), .ref 94], pv_mm s T6)) (by decide +kernel) rfl ?_
        obtain ⟨⟨q40, T41⟩, e39, h⟩ := Option.bind_eq_some_iff.mp h
        dsimp only at h
        refine pv_e_cvi (d := d + 13) (i := 91) (z := 115) (np := 1) (ml := 2) (ci := 6) (As := [.int (5:Int32)]) (rs := []) (pc' := 40) (by decide +kernel) rfl rfl rfl rfl (Nat.le_of_ble_eq_true rfl) (Nat.le_of_ble_eq_true rfl) rfl (ee115 (d + 13) (5:Int32) e39) ?_
        obtain rfl := Option.some.inj h
        cases hr
        exact pv_e_ri (by decide +kernel)
    · rw [if_neg c7] at h
      refine pv_e_bk (ps := [(23, .iload_n 3, 1)]) (t' := (0, 0, 24, [some (.ref 94), some (.int x1), some (.int x2), some (.int q5), none], [.int q5], pv_mm s T6)) (by decide +kernel) rfl ?_
      obtain rfl := Option.some.inj h
      cases hr
      exact pv_e_ri (by decide +kernel)
