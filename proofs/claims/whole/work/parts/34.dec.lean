-- printed by wip/whole/gen/parts.py: methods as functions over the ints of the memory, and that the pure machine runs so
def f139_town_b1 (st : Int32 × pv_T) : Option ((Int32 × pv_T) ⊕ (Int32 × pv_T)) := match st with
  | (v3, T) =>
    if (78:Int32) ≤ v3 then
      some (.inr (v3, T))
    else
      (pv_wm T 105 78 v3 (0:Int32)).bind fun T12 =>
      some (.inl (v3 + (1:Int32), T12))
def f139_town_b1_H (xs : Nat → Int32) (L d : Nat) (r : Option Value × pv_M) (s : pv_F) (v1 : Int32) (v2 : Int32) (st : Int32 × pv_T) : Prop := match st with
  | (v3, T) => pv_Ev xs L (d + 4) 139 (0, 0, 35, [some (.ref 94), some (.int v1), some (.int v2), some (.int v3), none], [], pv_mm s T) r
def f139_town_b1_X (xs : Nat → Int32) (L d : Nat) (r : Option Value × pv_M) (s : pv_F) (v1 : Int32) (v2 : Int32) (st : Int32 × pv_T) : Prop := match st with
  | (v3, T) => ∀ z3 : Option Value, pv_Ev xs L (d + 4) 139 (0, 0, 54, [some (.ref 94), some (.int v1), some (.int v2), z3, none], [], pv_mm s T) r
def f139_town_b3 (v3 : Int32) (st : Int32 × pv_T) : Option ((Int32 × pv_T) ⊕ (Int32 × pv_T)) := match st with
  | (v4, T) =>
    (pv_rd T.1 103 7 v3).bind fun q25 =>
    if q25 ≤ v4 then
      some (.inr (v4, T))
    else
      (pv_rd T.1 104 42 (((6:Int32) * v3) + v4)).bind fun q28 =>
      (pv_wm T 105 78 (((6:Int32) * v3) + v4) q28).bind fun T30 =>
      some (.inl (v4 + (1:Int32), T30))
def f139_town_b3_H (xs : Nat → Int32) (L d : Nat) (r : Option Value × pv_M) (s : pv_F) (v3 : Int32) (v1 : Int32) (v2 : Int32) (st : Int32 × pv_T) : Prop := match st with
  | (v4, T) => pv_Ev xs L (d + 4) 139 (0, 0, 94, [some (.ref 94), some (.int v1), some (.int v2), some (.int v3), some (.int v4)], [], pv_mm s T) r
def f139_town_b3_X (xs : Nat → Int32) (L d : Nat) (r : Option Value × pv_M) (s : pv_F) (v3 : Int32) (v1 : Int32) (v2 : Int32) (st : Int32 × pv_T) : Prop := match st with
  | (v4, T) => ∀ z4 : Option Value, pv_Ev xs L (d + 4) 139 (0, 0, 135, [some (.ref 94), some (.int v1), some (.int v2), some (.int v3), z4], [], pv_mm s T) r
def f139_town_b2 (st : Int32 × pv_T) : Option ((Int32 × pv_T) ⊕ (Int32 × pv_T)) := match st with
  | (v3, T) =>
    if (T.1 94 8) ≤ v3 then
      some (.inr (v3, T))
    else
      (pv_rd T.1 102 7 v3).bind fun q17 =>
      (pv_wm T 101 7 v3 q17).bind fun T19 =>
      (pv_rd T19.1 103 7 v3).bind fun q21 =>
      (pv_wm T19 105 78 ((42:Int32) + v3) q21).bind fun T23 =>
      (pv_lq (f139_town_b3 v3) 20000 ((0:Int32), T23)).bind fun (w32, T33) =>
      some (.inl (v3 + (1:Int32), T33))
def f139_town_b2_H (xs : Nat → Int32) (L d : Nat) (r : Option Value × pv_M) (s : pv_F) (v1 : Int32) (v2 : Int32) (st : Int32 × pv_T) : Prop := match st with
  | (v3, T) => ∀ z4 : Option Value, pv_Ev xs L (d + 4) 139 (0, 0, 56, [some (.ref 94), some (.int v1), some (.int v2), some (.int v3), z4], [], pv_mm s T) r
def f139_town_b2_X (xs : Nat → Int32) (L d : Nat) (r : Option Value × pv_M) (s : pv_F) (v1 : Int32) (v2 : Int32) (st : Int32 × pv_T) : Prop := match st with
  | (v3, T) => ∀ z3 : Option Value, ∀ z4 : Option Value, pv_Ev xs L (d + 4) 139 (0, 0, 141, [some (.ref 94), some (.int v1), some (.int v2), z3, z4], [], pv_mm s T) r
def f139_town_b4 (st : Int32 × pv_T) : Option ((Int32 × pv_T) ⊕ (Int32 × pv_T)) := match st with
  | (v3, T) =>
    if (3:Int32) ≤ v3 then
      some (.inr (v3, T))
    else
      (pv_wm T 107 3 v3 (-9:Int32)).bind fun T41 =>
      some (.inl (v3 + (1:Int32), T41))
def f139_town_b4_H (xs : Nat → Int32) (L d : Nat) (r : Option Value × pv_M) (s : pv_F) (v1 : Int32) (v2 : Int32) (z4 : Option Value) (st : Int32 × pv_T) : Prop := match st with
  | (v3, T) => pv_Ev xs L (d + 4) 139 (0, 0, 148, [some (.ref 94), some (.int v1), some (.int v2), some (.int v3), z4], [], pv_mm s T) r
def f139_town_b4_X (xs : Nat → Int32) (L d : Nat) (r : Option Value × pv_M) (s : pv_F) (v1 : Int32) (v2 : Int32) (z4 : Option Value) (st : Int32 × pv_T) : Prop := match st with
  | (v3, T) => ∀ z3 : Option Value, pv_Ev xs L (d + 4) 139 (0, 0, 167, [some (.ref 94), some (.int v1), some (.int v2), z3, z4], [], pv_mm s T) r
def f139_town (x1 : Int32) (T : pv_T) : Option (Int32 × pv_T) :=
  (f122_askedText x1 T).bind fun (q2, T3) =>
  if 0 ≤ q2 then
    (f137_goesOn x1 T3).bind fun (q6, T7) =>
    if q6 = (-9:Int32) then
      (pv_pm T7 94 8 (T7.1 94 13)).bind fun T9 =>
      (pv_lq (f139_town_b1) 20000 ((0:Int32), T9)).bind fun (w14, T15) =>
      (pv_lq (f139_town_b2) 20000 ((0:Int32), T15)).bind fun (w36, T37) =>
      (pv_pm T37 94 18 (0:Int32)).bind fun T38 =>
      (pv_lq (f139_town_b4) 20000 ((0:Int32), T38)).bind fun (w43, T44) =>
      some (T44.1 94 8, T44)
    else
      some ((-4:Int32), T7)
  else
    some (q2, T3)
theorem f139_town_b1_ok {xs : Nat → Int32} {L d : Nat} {r : Option Value × pv_M} {s : pv_F} {v1 : Int32} {v2 : Int32} (st : Int32 × pv_T) (o : (Int32 × pv_T) ⊕ (Int32 × pv_T)) (h : f139_town_b1 st = some o) (hK : pv_Kq (f139_town_b1_H xs L d r s v1 v2) (f139_town_b1_X xs L d r s v1 v2) o) : f139_town_b1_H xs L d r s v1 v2 st := by
  obtain ⟨v3, T⟩ := st
  show pv_Ev xs L (d + 4) 139 (0, 0, 35, [some (.ref 94), some (.int v1), some (.int v2), some (.int v3), none], [], pv_mm s T) r
  unfold f139_town_b1 at h
  dsimp only at h
  refine pv_e_bk (ps := [(35, .iload_n 3, 1), (36, .bipush 78, 2)]) (t' := (0, 0, 38, [some (.ref 94), some (.int v1), some (.int v2), some (.int v3), none], [.int (78:Int32), .int v3], pv_mm s T)) (by decide +kernel) rfl ?_
  refine pv_e_icmpge (off := 16) (b := 54) (pc' := 41) (by decide +kernel) (by decide +kernel) rfl (fun c11 => ?_) (fun c11 => ?_)
  · rw [if_pos c11] at h
    obtain rfl := Option.some.inj h
    exact hK _
  · rw [if_neg c11] at h
    refine pv_e_bk (ps := [(41, .aload_n 0, 1)]) (t' := (0, 0, 42, [some (.ref 94), some (.int v1), some (.int v2), some (.int v3), none], [.ref 94], pv_mm s T)) (by decide +kernel) rfl ?_
    refine pv_e_gr (i := 44) (ci := 6) (j := 17) (b := 105) (pc' := 45) (by decide +kernel) rfl rfl rfl ?_
    refine pv_e_bk (ps := [(45, .iload_n 3, 1), (46, .iconst 0, 1)]) (t' := (0, 0, 47, [some (.ref 94), some (.int v1), some (.int v2), some (.int v3), none], [.int (0:Int32), .int v3, .ref 105], pv_mm s T)) (by decide +kernel) rfl ?_
    obtain ⟨T12, e13, h⟩ := Option.bind_eq_some_iff.mp h
    refine pv_e_wm (pc' := 48) (by decide +kernel) (by decide) rfl e13 rfl ?_
    refine pv_e_bk (ps := [(48, .iinc 3 1, 3), (51, .goto (-16), 3)]) (t' := (0, 0, 35, [some (.ref 94), some (.int v1), some (.int v2), some (.int (v3 + (1:Int32))), none], [], pv_mm s T12)) (by decide +kernel) rfl ?_
    obtain rfl := Option.some.inj h
    exact hK
theorem f139_town_b3_ok {xs : Nat → Int32} {L d : Nat} {r : Option Value × pv_M} {s : pv_F} {v3 : Int32} {v1 : Int32} {v2 : Int32} (st : Int32 × pv_T) (o : (Int32 × pv_T) ⊕ (Int32 × pv_T)) (h : f139_town_b3 v3 st = some o) (hK : pv_Kq (f139_town_b3_H xs L d r s v3 v1 v2) (f139_town_b3_X xs L d r s v3 v1 v2) o) : f139_town_b3_H xs L d r s v3 v1 v2 st := by
  obtain ⟨v4, T⟩ := st
  show pv_Ev xs L (d + 4) 139 (0, 0, 94, [some (.ref 94), some (.int v1), some (.int v2), some (.int v3), some (.int v4)], [], pv_mm s T) r
  unfold f139_town_b3 at h
  dsimp only at h
  refine pv_e_bk (ps := [(94, .iload 4, 2), (96, .aload_n 0, 1)]) (t' := (0, 0, 97, [some (.ref 94), some (.int v1), some (.int v2), some (.int v3), some (.int v4)], [.ref 94, .int v4], pv_mm s T)) (by decide +kernel) rfl ?_
  refine pv_e_gr (i := 38) (ci := 6) (j := 15) (b := 103) (pc' := 100) (by decide +kernel) rfl rfl rfl ?_
  refine pv_e_bk (ps := [(100, .iload_n 3, 1)]) (t' := (0, 0, 101, [some (.ref 94), some (.int v1), some (.int v2), some (.int v3), some (.int v4)], [.int v3, .ref 103, .int v4], pv_mm s T)) (by decide +kernel) rfl ?_
  obtain ⟨q25, e26, h⟩ := Option.bind_eq_some_iff.mp h
  refine pv_e_rm (pc' := 102) (by decide +kernel) (by decide) rfl e26 rfl ?_
  refine pv_e_icmpge (off := 33) (b := 135) (pc' := 105) (by decide +kernel) (by decide +kernel) rfl (fun c27 => ?_) (fun c27 => ?_)
  · rw [if_pos c27] at h
    obtain rfl := Option.some.inj h
    exact hK _
  · rw [if_neg c27] at h
    refine pv_e_bk (ps := [(105, .aload_n 0, 1)]) (t' := (0, 0, 106, [some (.ref 94), some (.int v1), some (.int v2), some (.int v3), some (.int v4)], [.ref 94], pv_mm s T)) (by decide +kernel) rfl ?_
    refine pv_e_gr (i := 44) (ci := 6) (j := 17) (b := 105) (pc' := 109) (by decide +kernel) rfl rfl rfl ?_
    refine pv_e_bk (ps := [(109, .bipush 6, 2), (111, .iload_n 3, 1), (112, .imul, 1), (113, .iload 4, 2), (115, .iadd, 1), (116, .aload_n 0, 1)]) (t' := (0, 0, 117, [some (.ref 94), some (.int v1), some (.int v2), some (.int v3), some (.int v4)], [.ref 94, .int (((6:Int32) * v3) + v4), .ref 105], pv_mm s T)) (by decide +kernel) rfl ?_
    refine pv_e_gr (i := 41) (ci := 6) (j := 16) (b := 104) (pc' := 120) (by decide +kernel) rfl rfl rfl ?_
    refine pv_e_bk (ps := [(120, .bipush 6, 2), (122, .iload_n 3, 1), (123, .imul, 1), (124, .iload 4, 2), (126, .iadd, 1)]) (t' := (0, 0, 127, [some (.ref 94), some (.int v1), some (.int v2), some (.int v3), some (.int v4)], [.int (((6:Int32) * v3) + v4), .ref 104, .int (((6:Int32) * v3) + v4), .ref 105], pv_mm s T)) (by decide +kernel) rfl ?_
    obtain ⟨q28, e29, h⟩ := Option.bind_eq_some_iff.mp h
    refine pv_e_rm (pc' := 128) (by decide +kernel) (by decide) rfl e29 rfl ?_
    obtain ⟨T30, e31, h⟩ := Option.bind_eq_some_iff.mp h
    refine pv_e_wm (pc' := 129) (by decide +kernel) (by decide) rfl e31 rfl ?_
    refine pv_e_bk (ps := [(129, .iinc 4 1, 3), (132, .goto (-38), 3)]) (t' := (0, 0, 94, [some (.ref 94), some (.int v1), some (.int v2), some (.int v3), some (.int (v4 + (1:Int32)))], [], pv_mm s T30)) (by decide +kernel) rfl ?_
    obtain rfl := Option.some.inj h
    exact hK
theorem f139_town_b2_ok {xs : Nat → Int32} {L d : Nat} {r : Option Value × pv_M} {s : pv_F} {v1 : Int32} {v2 : Int32} (st : Int32 × pv_T) (o : (Int32 × pv_T) ⊕ (Int32 × pv_T)) (h : f139_town_b2 st = some o) (hK : pv_Kq (f139_town_b2_H xs L d r s v1 v2) (f139_town_b2_X xs L d r s v1 v2) o) : f139_town_b2_H xs L d r s v1 v2 st := by
  obtain ⟨v3, T⟩ := st
  show ∀ z4 : Option Value, pv_Ev xs L (d + 4) 139 (0, 0, 56, [some (.ref 94), some (.int v1), some (.int v2), some (.int v3), z4], [], pv_mm s T) r
  intro z4
  unfold f139_town_b2 at h
  dsimp only at h
  refine pv_e_bk (ps := [(56, .iload_n 3, 1), (57, .aload_n 0, 1)]) (t' := (0, 0, 58, [some (.ref 94), some (.int v1), some (.int v2), some (.int v3), z4], [.ref 94, .int v3], pv_mm s T)) (by decide +kernel) rfl ?_
  refine pv_e_gm (i := 136) (ci := 6) (j := 8) (pc' := 61) (by decide +kernel) (by decide) rfl rfl rfl ?_
  refine pv_e_icmpge (off := 80) (b := 141) (pc' := 64) (by decide +kernel) (by decide +kernel) rfl (fun c16 => ?_) (fun c16 => ?_)
  · rw [if_pos c16] at h
    obtain rfl := Option.some.inj h
    exact hK _ _
  · rw [if_neg c16] at h
    refine pv_e_bk (ps := [(64, .aload_n 0, 1)]) (t' := (0, 0, 65, [some (.ref 94), some (.int v1), some (.int v2), some (.int v3), z4], [.ref 94], pv_mm s T)) (by decide +kernel) rfl ?_
    refine pv_e_gr (i := 32) (ci := 6) (j := 11) (b := 101) (pc' := 68) (by decide +kernel) rfl rfl rfl ?_
    refine pv_e_bk (ps := [(68, .iload_n 3, 1), (69, .aload_n 0, 1)]) (t' := (0, 0, 70, [some (.ref 94), some (.int v1), some (.int v2), some (.int v3), z4], [.ref 94, .int v3, .ref 101], pv_mm s T)) (by decide +kernel) rfl ?_
    refine pv_e_gr (i := 35) (ci := 6) (j := 14) (b := 102) (pc' := 73) (by decide +kernel) rfl rfl rfl ?_
    refine pv_e_bk (ps := [(73, .iload_n 3, 1)]) (t' := (0, 0, 74, [some (.ref 94), some (.int v1), some (.int v2), some (.int v3), z4], [.int v3, .ref 102, .int v3, .ref 101], pv_mm s T)) (by decide +kernel) rfl ?_
    obtain ⟨q17, e18, h⟩ := Option.bind_eq_some_iff.mp h
    refine pv_e_rm (pc' := 75) (by decide +kernel) (by decide) rfl e18 rfl ?_
    obtain ⟨T19, e20, h⟩ := Option.bind_eq_some_iff.mp h
    refine pv_e_wm (pc' := 76) (by decide +kernel) (by decide) rfl e20 rfl ?_
    refine pv_e_bk (ps := [(76, .aload_n 0, 1)]) (t' := (0, 0, 77, [some (.ref 94), some (.int v1), some (.int v2), some (.int v3), z4], [.ref 94], pv_mm s T19)) (by decide +kernel) rfl ?_
    refine pv_e_gr (i := 44) (ci := 6) (j := 17) (b := 105) (pc' := 80) (by decide +kernel) rfl rfl rfl ?_
    refine pv_e_bk (ps := [(80, .bipush 42, 2), (82, .iload_n 3, 1), (83, .iadd, 1), (84, .aload_n 0, 1)]) (t' := (0, 0, 85, [some (.ref 94), some (.int v1), some (.int v2), some (.int v3), z4], [.ref 94, .int ((42:Int32) + v3), .ref 105], pv_mm s T19)) (by decide +kernel) rfl ?_
    refine pv_e_gr (i := 38) (ci := 6) (j := 15) (b := 103) (pc' := 88) (by decide +kernel) rfl rfl rfl ?_
    refine pv_e_bk (ps := [(88, .iload_n 3, 1)]) (t' := (0, 0, 89, [some (.ref 94), some (.int v1), some (.int v2), some (.int v3), z4], [.int v3, .ref 103, .int ((42:Int32) + v3), .ref 105], pv_mm s T19)) (by decide +kernel) rfl ?_
    obtain ⟨q21, e22, h⟩ := Option.bind_eq_some_iff.mp h
    refine pv_e_rm (pc' := 90) (by decide +kernel) (by decide) rfl e22 rfl ?_
    obtain ⟨T23, e24, h⟩ := Option.bind_eq_some_iff.mp h
    refine pv_e_wm (pc' := 91) (by decide +kernel) (by decide) rfl e24 rfl ?_
    refine pv_e_bk (ps := [(91, .iconst 0, 1), (92, .istore 4, 2)]) (t' := (0, 0, 94, [some (.ref 94), some (.int v1), some (.int v2), some (.int v3), some (.int (0:Int32))], [], pv_mm s T23)) (by decide +kernel) rfl ?_
    obtain ⟨⟨w32, T33⟩, e35, h⟩ := Option.bind_eq_some_iff.mp h
    dsimp only at h
    have hx34 : f139_town_b3_X xs L d r s v3 v1 v2 (w32, T33) := by
      show ∀ z4 : Option Value, pv_Ev xs L (d + 4) 139 (0, 0, 135, [some (.ref 94), some (.int v1), some (.int v2), some (.int v3), z4], [], pv_mm s T33) r
      intro z4
      refine pv_e_bk (ps := [(135, .iinc 3 1, 3), (138, .goto (-82), 3)]) (t' := (0, 0, 56, [some (.ref 94), some (.int v1), some (.int v2), some (.int (v3 + (1:Int32))), z4], [], pv_mm s T33)) (by decide +kernel) rfl ?_
      obtain rfl := Option.some.inj h
      exact hK _
    exact pv_lq_ok (H := f139_town_b3_H xs L d r s v3 v1 v2) (X := f139_town_b3_X xs L d r s v3 v1 v2) (f139_town_b3_ok (xs := xs) (L := L) (d := d) (r := r) (s := s) (v3 := v3) (v1 := v1) (v2 := v2)) 20000 _ _ e35 hx34
theorem f139_town_b4_ok {xs : Nat → Int32} {L d : Nat} {r : Option Value × pv_M} {s : pv_F} {v1 : Int32} {v2 : Int32} {z4 : Option Value} (st : Int32 × pv_T) (o : (Int32 × pv_T) ⊕ (Int32 × pv_T)) (h : f139_town_b4 st = some o) (hK : pv_Kq (f139_town_b4_H xs L d r s v1 v2 z4) (f139_town_b4_X xs L d r s v1 v2 z4) o) : f139_town_b4_H xs L d r s v1 v2 z4 st := by
  obtain ⟨v3, T⟩ := st
  show pv_Ev xs L (d + 4) 139 (0, 0, 148, [some (.ref 94), some (.int v1), some (.int v2), some (.int v3), z4], [], pv_mm s T) r
  unfold f139_town_b4 at h
  dsimp only at h
  refine pv_e_bk (ps := [(148, .iload_n 3, 1), (149, .iconst 3, 1)]) (t' := (0, 0, 150, [some (.ref 94), some (.int v1), some (.int v2), some (.int v3), z4], [.int (3:Int32), .int v3], pv_mm s T)) (by decide +kernel) rfl ?_
  refine pv_e_icmpge (off := 17) (b := 167) (pc' := 153) (by decide +kernel) (by decide +kernel) rfl (fun c40 => ?_) (fun c40 => ?_)
  · rw [if_pos c40] at h
    obtain rfl := Option.some.inj h
    exact hK _
  · rw [if_neg c40] at h
    refine pv_e_bk (ps := [(153, .aload_n 0, 1)]) (t' := (0, 0, 154, [some (.ref 94), some (.int v1), some (.int v2), some (.int v3), z4], [.ref 94], pv_mm s T)) (by decide +kernel) rfl ?_
    refine pv_e_gr (i := 50) (ci := 6) (j := 20) (b := 107) (pc' := 157) (by decide +kernel) rfl rfl rfl ?_
    refine pv_e_bk (ps := [(157, .iload_n 3, 1), (158, .bipush (-9), 2)]) (t' := (0, 0, 160, [some (.ref 94), some (.int v1), some (.int v2), some (.int v3), z4], [.int (-9:Int32), .int v3, .ref 107], pv_mm s T)) (by decide +kernel) rfl ?_
    obtain ⟨T41, e42, h⟩ := Option.bind_eq_some_iff.mp h
    refine pv_e_wm (pc' := 161) (by decide +kernel) (by decide) rfl e42 rfl ?_
    refine pv_e_bk (ps := [(161, .iinc 3 1, 3), (164, .goto (-16), 3)]) (t' := (0, 0, 148, [some (.ref 94), some (.int v1), some (.int v2), some (.int (v3 + (1:Int32))), z4], [], pv_mm s T41)) (by decide +kernel) rfl ?_
    obtain rfl := Option.some.inj h
    exact hK
theorem ee139 {xs : Nat → Int32} {L : Nat} (d : Nat) (x1 : Int32) {s : pv_F} {T : pv_T} {q : Int32 × pv_T}  (h : f139_town x1 T = some q) : pv_Ev xs L (d + 4) 139 (0, 0, 0, [some (.ref 94), some (.int x1), none, none, none], [], pv_mm s T) (some (.int q.1), pv_mm s q.2) := by
  generalize hr : ((some (.int q.1), pv_mm s q.2) : Option Value × pv_M) = r
  unfold f139_town at h
  refine pv_e_bk (ps := [(0, .aload_n 0, 1), (1, .iload_n 1, 1)]) (t' := (0, 0, 2, [some (.ref 94), some (.int x1), none, none, none], [.int x1, .ref 94], pv_mm s T)) (by decide +kernel) rfl ?_
  obtain ⟨⟨q2, T3⟩, e1, h⟩ := Option.bind_eq_some_iff.mp h
  dsimp only at h
  refine pv_e_cvi (d := d + 3) (i := 115) (z := 122) (np := 1) (ml := 2) (ci := 6) (As := [.int x1]) (rs := []) (pc' := 5) (by decide +kernel) rfl rfl rfl rfl (Nat.le_of_ble_eq_true rfl) (Nat.le_of_ble_eq_true rfl) rfl (ee122 (d + 1) x1 e1) ?_
  refine pv_e_bk (ps := [(5, .istore_n 2, 1), (6, .iload_n 2, 1)]) (t' := (0, 0, 7, [some (.ref 94), some (.int x1), some (.int q2), none, none], [.int q2], pv_mm s T3)) (by decide +kernel) rfl ?_
  refine pv_e_ifge (off := 5) (b := 12) (pc' := 10) (by decide +kernel) (by decide +kernel) rfl (fun c4 => ?_) (fun c4 => ?_)
  · rw [if_pos c4] at h
    refine pv_e_bk (ps := [(12, .aload_n 0, 1), (13, .iload_n 1, 1)]) (t' := (0, 0, 14, [some (.ref 94), some (.int x1), some (.int q2), none, none], [.int x1, .ref 94], pv_mm s T3)) (by decide +kernel) rfl ?_
    obtain ⟨⟨q6, T7⟩, e5, h⟩ := Option.bind_eq_some_iff.mp h
    dsimp only at h
    refine pv_e_cvi (d := d + 3) (i := 133) (z := 137) (np := 1) (ml := 2) (ci := 6) (As := [.int x1]) (rs := []) (pc' := 17) (by decide +kernel) rfl rfl rfl rfl (Nat.le_of_ble_eq_true rfl) (Nat.le_of_ble_eq_true rfl) rfl (ee137 (d + 0) x1 e5) ?_
    refine pv_e_bk (ps := [(17, .bipush (-9), 2)]) (t' := (0, 0, 19, [some (.ref 94), some (.int x1), some (.int q2), none, none], [.int (-9:Int32), .int q6], pv_mm s T7)) (by decide +kernel) rfl ?_
    refine pv_e_icmpeq (off := 6) (b := 25) (pc' := 22) (by decide +kernel) (by decide +kernel) rfl (fun c8 => ?_) (fun c8 => ?_)
    · rw [if_pos c8] at h
      refine pv_e_bk (ps := [(25, .aload_n 0, 1), (26, .aload_n 0, 1)]) (t' := (0, 0, 27, [some (.ref 94), some (.int x1), some (.int q2), none, none], [.ref 94, .ref 94], pv_mm s T7)) (by decide +kernel) rfl ?_
      refine pv_e_gm (i := 124) (ci := 6) (j := 13) (pc' := 30) (by decide +kernel) (by decide) rfl rfl rfl ?_
      obtain ⟨T9, e10, h⟩ := Option.bind_eq_some_iff.mp h
      refine pv_e_pms (i := 136) (ci := 6) (j := 8) (pc' := 33) (by decide +kernel) rfl rfl (by decide) rfl rfl e10 rfl ?_
      refine pv_e_bk (ps := [(33, .iconst 0, 1), (34, .istore_n 3, 1)]) (t' := (0, 0, 35, [some (.ref 94), some (.int x1), some (.int q2), some (.int (0:Int32)), none], [], pv_mm s T9)) (by decide +kernel) rfl ?_
      obtain ⟨⟨w14, T15⟩, e50, h⟩ := Option.bind_eq_some_iff.mp h
      dsimp only at h
      have hx49 : f139_town_b1_X xs L d r s x1 q2 (w14, T15) := by
        show ∀ z3 : Option Value, pv_Ev xs L (d + 4) 139 (0, 0, 54, [some (.ref 94), some (.int x1), some (.int q2), z3, none], [], pv_mm s T15) r
        intro z3
        refine pv_e_bk (ps := [(54, .iconst 0, 1), (55, .istore_n 3, 1)]) (t' := (0, 0, 56, [some (.ref 94), some (.int x1), some (.int q2), some (.int (0:Int32)), none], [], pv_mm s T15)) (by decide +kernel) rfl ?_
        obtain ⟨⟨w36, T37⟩, e48, h⟩ := Option.bind_eq_some_iff.mp h
        dsimp only at h
        have hx47 : f139_town_b2_X xs L d r s x1 q2 (w36, T37) := by
          show ∀ z3 : Option Value, ∀ z4 : Option Value, pv_Ev xs L (d + 4) 139 (0, 0, 141, [some (.ref 94), some (.int x1), some (.int q2), z3, z4], [], pv_mm s T37) r
          intro z3 z4
          refine pv_e_bk (ps := [(141, .aload_n 0, 1), (142, .iconst 0, 1)]) (t' := (0, 0, 143, [some (.ref 94), some (.int x1), some (.int q2), z3, z4], [.int (0:Int32), .ref 94], pv_mm s T37)) (by decide +kernel) rfl ?_
          obtain ⟨T38, e39, h⟩ := Option.bind_eq_some_iff.mp h
          refine pv_e_pms (i := 139) (ci := 6) (j := 18) (pc' := 146) (by decide +kernel) rfl rfl (by decide) rfl rfl e39 rfl ?_
          refine pv_e_bk (ps := [(146, .iconst 0, 1), (147, .istore_n 3, 1)]) (t' := (0, 0, 148, [some (.ref 94), some (.int x1), some (.int q2), some (.int (0:Int32)), z4], [], pv_mm s T38)) (by decide +kernel) rfl ?_
          obtain ⟨⟨w43, T44⟩, e46, h⟩ := Option.bind_eq_some_iff.mp h
          dsimp only at h
          have hx45 : f139_town_b4_X xs L d r s x1 q2 z4 (w43, T44) := by
            show ∀ z3 : Option Value, pv_Ev xs L (d + 4) 139 (0, 0, 167, [some (.ref 94), some (.int x1), some (.int q2), z3, z4], [], pv_mm s T44) r
            intro z3
            refine pv_e_bk (ps := [(167, .aload_n 0, 1)]) (t' := (0, 0, 168, [some (.ref 94), some (.int x1), some (.int q2), z3, z4], [.ref 94], pv_mm s T44)) (by decide +kernel) rfl ?_
            refine pv_e_gm (i := 136) (ci := 6) (j := 8) (pc' := 171) (by decide +kernel) (by decide) rfl rfl rfl ?_
            obtain rfl := Option.some.inj h
            cases hr
            exact pv_e_ri (by decide +kernel)
          exact pv_lq_ok (H := f139_town_b4_H xs L d r s x1 q2 z4) (X := f139_town_b4_X xs L d r s x1 q2 z4) (f139_town_b4_ok (xs := xs) (L := L) (d := d) (r := r) (s := s) (v1 := x1) (v2 := q2) (z4 := z4)) 20000 _ _ e46 hx45
        exact pv_lq_ok (H := f139_town_b2_H xs L d r s x1 q2) (X := f139_town_b2_X xs L d r s x1 q2) (f139_town_b2_ok (xs := xs) (L := L) (d := d) (r := r) (s := s) (v1 := x1) (v2 := q2)) 20000 _ _ e48 hx47 _
      exact pv_lq_ok (H := f139_town_b1_H xs L d r s x1 q2) (X := f139_town_b1_X xs L d r s x1 q2) (f139_town_b1_ok (xs := xs) (L := L) (d := d) (r := r) (s := s) (v1 := x1) (v2 := q2)) 20000 _ _ e50 hx49
    · rw [if_neg c8] at h
      refine pv_e_bk (ps := [(22, .bipush (-4), 2)]) (t' := (0, 0, 24, [some (.ref 94), some (.int x1), some (.int q2), none, none], [.int (-4:Int32)], pv_mm s T7)) (by decide +kernel) rfl ?_
      obtain rfl := Option.some.inj h
      cases hr
      exact pv_e_ri (by decide +kernel)
  · rw [if_neg c4] at h
    refine pv_e_bk (ps := [(10, .iload_n 2, 1)]) (t' := (0, 0, 11, [some (.ref 94), some (.int x1), some (.int q2), none, none], [.int q2], pv_mm s T3)) (by decide +kernel) rfl ?_
    obtain rfl := Option.some.inj h
    cases hr
    exact pv_e_ri (by decide +kernel)
def f140_isOne (x1 : Int32) (T : pv_T) : Option (Int32) :=
  (f114_in x1 (0:Int32) ((T.1 94 8) - (1:Int32))).bind fun q2 =>
  (pv_bl q2).bind fun q3 => some q3
theorem ee140 {xs : Nat → Int32} {L : Nat} (d : Nat) (x1 : Int32) {s : pv_F} {T : pv_T} {q : Int32}  (h : f140_isOne x1 T = some q) : pv_Ev xs L (d + 1) 140 (0, 0, 0, [some (.ref 94), some (.int x1)], [], pv_mm s T) (some (.int q), pv_mm s T) := by
  generalize hr : ((some (.int q), pv_mm s T) : Option Value × pv_M) = r
  unfold f140_isOne at h
  refine pv_e_bk (ps := [(0, .iload_n 1, 1), (1, .iconst 0, 1), (2, .aload_n 0, 1)]) (t' := (0, 0, 3, [some (.ref 94), some (.int x1)], [.ref 94, .int (0:Int32), .int x1], pv_mm s T)) (by decide +kernel) rfl ?_
  refine pv_e_gm (i := 136) (ci := 6) (j := 8) (pc' := 6) (by decide +kernel) (by decide) rfl rfl rfl ?_
  refine pv_e_bk (ps := [(6, .iconst 1, 1), (7, .isub, 1)]) (t' := (0, 0, 8, [some (.ref 94), some (.int x1)], [.int ((T.1 94 8) - (1:Int32)), .int (0:Int32), .int x1], pv_mm s T)) (by decide +kernel) rfl ?_
  obtain ⟨q2, e1, h⟩ := Option.bind_eq_some_iff.mp h
  refine pv_e_csi (d := d + 0) (i := 83) (z := 114) (np := 3) (ml := 3) (As := [.int x1, .int (0:Int32), .int ((T.1 94 8) - (1:Int32))]) (rs := []) (pc' := 11) (by decide +kernel) rfl rfl rfl (Nat.le_of_ble_eq_true rfl) (Nat.le_of_ble_eq_true rfl) rfl (ee114 (d + 0) x1 (0:Int32) ((T.1 94 8) - (1:Int32)) e1) ?_
  obtain ⟨q3, e4, h⟩ := Option.bind_eq_some_iff.mp h
  obtain rfl := Option.some.inj h
  cases hr
  exact pv_e_rz (by decide +kernel) e4
def f141_isA (x1 : Int32) (x2 : Int32) (T : pv_T) : Option (Int32) :=
  (pv_rd T.1 101 7 x1).bind fun q1 =>
  ((
    if q1 = x2 then
      some (1:Int32)
    else
      if x2 = (1:Int32) then
        (pv_rd T.1 101 7 x1).bind fun q10 =>
        if q10 = (5:Int32) then
          some (1:Int32)
        else
          some (0:Int32)
      else
        some (0:Int32)) : Option (Int32)).bind fun t3 =>
  (pv_bl t3).bind fun q4 => some q4
theorem ee141 {xs : Nat → Int32} {L : Nat} (d : Nat) (x1 : Int32) (x2 : Int32) {s : pv_F} {T : pv_T} {q : Int32}  (h : f141_isA x1 x2 T = some q) : pv_Ev xs L (d + 0) 141 (0, 0, 0, [some (.ref 94), some (.int x1), some (.int x2)], [], pv_mm s T) (some (.int q), pv_mm s T) := by
  generalize hr : ((some (.int q), pv_mm s T) : Option Value × pv_M) = r
  unfold f141_isA at h
  refine pv_e_bk (ps := [(0, .aload_n 0, 1)]) (t' := (0, 0, 1, [some (.ref 94), some (.int x1), some (.int x2)], [.ref 94], pv_mm s T)) (by decide +kernel) rfl ?_
  refine pv_e_gr (i := 32) (ci := 6) (j := 11) (b := 101) (pc' := 4) (by decide +kernel) rfl rfl rfl ?_
  refine pv_e_bk (ps := [(4, .iload_n 1, 1)]) (t' := (0, 0, 5, [some (.ref 94), some (.int x1), some (.int x2)], [.int x1, .ref 101], pv_mm s T)) (by decide +kernel) rfl ?_
  obtain ⟨q1, e2, h⟩ := Option.bind_eq_some_iff.mp h
  refine pv_e_rm (pc' := 6) (by decide +kernel) (by decide) rfl e2 rfl ?_
  refine pv_e_bk (ps := [(6, .iload_n 2, 1)]) (t' := (0, 0, 7, [some (.ref 94), some (.int x1), some (.int x2)], [.int x2, .int q1], pv_mm s T)) (by decide +kernel) rfl ?_
  obtain ⟨t3, hv6, h⟩ := Option.bind_eq_some_iff.mp h
  have hJ7 : pv_Ev xs L (d + 0) 141 (0, 0, 30, [some (.ref 94), some (.int x1), some (.int x2)], [.int t3], pv_mm s T) r := by
    obtain ⟨q4, e5, h⟩ := Option.bind_eq_some_iff.mp h
    obtain rfl := Option.some.inj h
    cases hr
    exact pv_e_rz (by decide +kernel) e5
  clear h
  have h := hv6
  clear hv6
  refine pv_e_icmpeq (off := 18) (b := 25) (pc' := 10) (by decide +kernel) (by decide +kernel) rfl (fun c8 => ?_) (fun c8 => ?_)
  · rw [if_pos c8] at h
    refine pv_e_bk (ps := [(25, .iconst 1, 1), (26, .goto 4, 3)]) (t' := (0, 0, 30, [some (.ref 94), some (.int x1), some (.int x2)], [.int (1:Int32)], pv_mm s T)) (by decide +kernel) rfl ?_
    obtain rfl := Option.some.inj h
    exact hJ7
  · rw [if_neg c8] at h
    refine pv_e_bk (ps := [(10, .iload_n 2, 1), (11, .iconst 1, 1)]) (t' := (0, 0, 12, [some (.ref 94), some (.int x1), some (.int x2)], [.int (1:Int32), .int x2], pv_mm s T)) (by decide +kernel) rfl ?_
    refine pv_e_icmpne (off := 17) (b := 29) (pc' := 15) (by decide +kernel) (by decide +kernel) rfl (fun c9 => ?_) (fun c9 => ?_)
    · rw [if_pos c9] at h
      refine pv_e_bk (ps := [(15, .aload_n 0, 1)]) (t' := (0, 0, 16, [some (.ref 94), some (.int x1), some (.int x2)], [.ref 94], pv_mm s T)) (by decide +kernel) rfl ?_
      refine pv_e_gr (i := 32) (ci := 6) (j := 11) (b := 101) (pc' := 19) (by decide +kernel) rfl rfl rfl ?_
      refine pv_e_bk (ps := [(19, .iload_n 1, 1)]) (t' := (0, 0, 20, [some (.ref 94), some (.int x1), some (.int x2)], [.int x1, .ref 101], pv_mm s T)) (by decide +kernel) rfl ?_
      obtain ⟨q10, e11, h⟩ := Option.bind_eq_some_iff.mp h
      refine pv_e_rm (pc' := 21) (by decide +kernel) (by decide) rfl e11 rfl ?_
      refine pv_e_bk (ps := [(21, .iconst 5, 1)]) (t' := (0, 0, 22, [some (.ref 94), some (.int x1), some (.int x2)], [.int (5:Int32), .int q10], pv_mm s T)) (by decide +kernel) rfl ?_
      refine pv_e_icmpne (off := 7) (b := 29) (pc' := 25) (by decide +kernel) (by decide +kernel) rfl (fun c12 => ?_) (fun c12 => ?_)
      · rw [if_pos c12] at h
        refine pv_e_bk (ps := [(25, .iconst 1, 1), (26, .goto 4, 3)]) (t' := (0, 0, 30, [some (.ref 94), some (.int x1), some (.int x2)], [.int (1:Int32)], pv_mm s T)) (by decide +kernel) rfl ?_
        obtain rfl := Option.some.inj h
        exact hJ7
      · rw [if_neg c12] at h
        refine pv_e_bk (ps := [(29, .iconst 0, 1)]) (t' := (0, 0, 30, [some (.ref 94), some (.int x1), some (.int x2)], [.int (0:Int32)], pv_mm s T)) (by decide +kernel) rfl ?_
        obtain rfl := Option.some.inj h
        exact hJ7
    · rw [if_neg c9] at h
      refine pv_e_bk (ps := [(29, .iconst 0, 1)]) (t' := (0, 0, 30, [some (.ref 94), some (.int x1), some (.int x2)], [.int (0:Int32)], pv_mm s T)) (by decide +kernel) rfl ?_
      obtain rfl := Option.some.inj h
      exact hJ7
def f142_lenOf (x1 : Int32) (T : pv_T) : Option (Int32) :=
  (pv_rd T.1 105 78 ((42:Int32) + x1)).bind fun q1 =>
  some q1
theorem ee142 {xs : Nat → Int32} {L : Nat} (d : Nat) (x1 : Int32) {s : pv_F} {T : pv_T} {q : Int32}  (h : f142_lenOf x1 T = some q) : pv_Ev xs L (d + 0) 142 (0, 0, 0, [some (.ref 94), some (.int x1)], [], pv_mm s T) (some (.int q), pv_mm s T) := by
  generalize hr : ((some (.int q), pv_mm s T) : Option Value × pv_M) = r
  unfold f142_lenOf at h
  refine pv_e_bk (ps := [(0, .aload_n 0, 1)]) (t' := (0, 0, 1, [some (.ref 94), some (.int x1)], [.ref 94], pv_mm s T)) (by decide +kernel) rfl ?_
  refine pv_e_gr (i := 44) (ci := 6) (j := 17) (b := 105) (pc' := 4) (by decide +kernel) rfl rfl rfl ?_
  refine pv_e_bk (ps := [(4, .bipush 42, 2), (6, .iload_n 1, 1), (7, .iadd, 1)]) (t' := (0, 0, 8, [some (.ref 94), some (.int x1)], [.int ((42:Int32) + x1), .ref 105], pv_mm s T)) (by decide +kernel) rfl ?_
  obtain ⟨q1, e2, h⟩ := Option.bind_eq_some_iff.mp h
  refine pv_e_rm (pc' := 9) (by decide +kernel) (by decide) rfl e2 rfl ?_
  obtain rfl := Option.some.inj h
  cases hr
  exact pv_e_ri (by decide +kernel)
def f143_letterOf (x1 : Int32) (x2 : Int32) (T : pv_T) : Option (Int32) :=
  (pv_rd T.1 105 78 (((6:Int32) * x1) + x2)).bind fun q1 =>
  some q1
theorem ee143 {xs : Nat → Int32} {L : Nat} (d : Nat) (x1 : Int32) (x2 : Int32) {s : pv_F} {T : pv_T} {q : Int32}  (h : f143_letterOf x1 x2 T = some q) : pv_Ev xs L (d + 0) 143 (0, 0, 0, [some (.ref 94), some (.int x1), some (.int x2)], [], pv_mm s T) (some (.int q), pv_mm s T) := by
  generalize hr : ((some (.int q), pv_mm s T) : Option Value × pv_M) = r
  unfold f143_letterOf at h
  refine pv_e_bk (ps := [(0, .aload_n 0, 1)]) (t' := (0, 0, 1, [some (.ref 94), some (.int x1), some (.int x2)], [.ref 94], pv_mm s T)) (by decide +kernel) rfl ?_
  refine pv_e_gr (i := 44) (ci := 6) (j := 17) (b := 105) (pc' := 4) (by decide +kernel) rfl rfl rfl ?_
  refine pv_e_bk (ps := [(4, .bipush 6, 2), (6, .iload_n 1, 1), (7, .imul, 1), (8, .iload_n 2, 1), (9, .iadd, 1)]) (t' := (0, 0, 10, [some (.ref 94), some (.int x1), some (.int x2)], [.int (((6:Int32) * x1) + x2), .ref 105], pv_mm s T)) (by decide +kernel) rfl ?_
  obtain ⟨q1, e2, h⟩ := Option.bind_eq_some_iff.mp h
  refine pv_e_rm (pc' := 11) (by decide +kernel) (by decide) rfl e2 rfl ?_
  obtain rfl := Option.some.inj h
  cases hr
  exact pv_e_ri (by decide +kernel)
def f144_isLike_b1 (v1 : Int32) (v2 : Int32) (T : pv_T) (st : Int32 × Int32) : Option ((Int32 × Int32) ⊕ (Int32 × Int32)) := match st with
  | (v3, v4) =>
    if (6:Int32) ≤ v4 then
      some (.inr (v3, v4))
    else
      ((
        if v3 = 0 then
          some (0:Int32)
        else
          (f142_lenOf v1 T).bind fun q12 =>
          if q12 ≤ v4 then
            some (1:Int32)
          else
            (f143_letterOf v1 v4 T).bind fun q15 =>
            (f143_letterOf v2 v4 T).bind fun q17 =>
            if q15 = q17 then
              some (1:Int32)
            else
              some (0:Int32)) : Option (Int32)).bind fun t7 =>
      some (.inl (t7, v4 + (1:Int32)))
def f144_isLike_b1_H (xs : Nat → Int32) (L d : Nat) (r : Option Value × pv_M) (s : pv_F) (v1 : Int32) (v2 : Int32) (T : pv_T) (st : Int32 × Int32) : Prop := match st with
  | (v3, v4) => pv_Ev xs L (d + 1) 144 (0, 0, 22, [some (.ref 94), some (.int v1), some (.int v2), some (.int v3), some (.int v4)], [], pv_mm s T) r
def f144_isLike_b1_X (xs : Nat → Int32) (L d : Nat) (r : Option Value × pv_M) (s : pv_F) (v1 : Int32) (v2 : Int32) (T : pv_T) (st : Int32 × Int32) : Prop := match st with
  | (v3, v4) => ∀ z4 : Option Value, pv_Ev xs L (d + 1) 144 (0, 0, 72, [some (.ref 94), some (.int v1), some (.int v2), some (.int v3), z4], [], pv_mm s T) r
def f144_isLike (x1 : Int32) (x2 : Int32) (T : pv_T) : Option (Int32) :=
  (f142_lenOf x1 T).bind fun q2 =>
  (f142_lenOf x2 T).bind fun q4 =>
  ((
    if q2 = q4 then
      some (1:Int32)
    else
      some (0:Int32)) : Option (Int32)).bind fun t5 =>
  (pv_lq (f144_isLike_b1 x1 x2 T) 20000 (t5, (0:Int32))).bind fun (w19, w20) =>
  (pv_bl w19).bind fun q21 => some q21
theorem f144_isLike_b1_ok {xs : Nat → Int32} {L d : Nat} {r : Option Value × pv_M} {s : pv_F} {v1 : Int32} {v2 : Int32} {T : pv_T} (st : Int32 × Int32) (o : (Int32 × Int32) ⊕ (Int32 × Int32)) (h : f144_isLike_b1 v1 v2 T st = some o) (hK : pv_Kq (f144_isLike_b1_H xs L d r s v1 v2 T) (f144_isLike_b1_X xs L d r s v1 v2 T) o) : f144_isLike_b1_H xs L d r s v1 v2 T st := by
  obtain ⟨v3, v4⟩ := st
  show pv_Ev xs L (d + 1) 144 (0, 0, 22, [some (.ref 94), some (.int v1), some (.int v2), some (.int v3), some (.int v4)], [], pv_mm s T) r
  unfold f144_isLike_b1 at h
  dsimp only at h
  refine pv_e_bk (ps := [(22, .iload 4, 2), (24, .bipush 6, 2)]) (t' := (0, 0, 26, [some (.ref 94), some (.int v1), some (.int v2), some (.int v3), some (.int v4)], [.int (6:Int32), .int v4], pv_mm s T)) (by decide +kernel) rfl ?_
  refine pv_e_icmpge (off := 46) (b := 72) (pc' := 29) (by decide +kernel) (by decide +kernel) rfl (fun c6 => ?_) (fun c6 => ?_)
  · rw [if_pos c6] at h
    obtain rfl := Option.some.inj h
    exact hK _
  · rw [if_neg c6] at h
    refine pv_e_bk (ps := [(29, .iload_n 3, 1)]) (t' := (0, 0, 30, [some (.ref 94), some (.int v1), some (.int v2), some (.int v3), some (.int v4)], [.int v3], pv_mm s T)) (by decide +kernel) rfl ?_
    obtain ⟨t7, hv8, h⟩ := Option.bind_eq_some_iff.mp h
    have hJ9 : pv_Ev xs L (d + 1) 144 (0, 0, 65, [some (.ref 94), some (.int v1), some (.int v2), some (.int v3), some (.int v4)], [.int t7], pv_mm s T) r := by
      refine pv_e_bk (ps := [(65, .istore_n 3, 1), (66, .iinc 4 1, 3), (69, .goto (-47), 3)]) (t' := (0, 0, 22, [some (.ref 94), some (.int v1), some (.int v2), some (.int t7), some (.int (v4 + (1:Int32)))], [], pv_mm s T)) (by decide +kernel) rfl ?_
      obtain rfl := Option.some.inj h
      exact hK
    clear h
    have h := hv8
    clear hv8
    refine pv_e_ifeq (off := 34) (b := 64) (pc' := 33) (by decide +kernel) (by decide +kernel) rfl (fun c10 => ?_) (fun c10 => ?_)
    · rw [if_pos c10] at h
      refine pv_e_bk (ps := [(64, .iconst 0, 1)]) (t' := (0, 0, 65, [some (.ref 94), some (.int v1), some (.int v2), some (.int v3), some (.int v4)], [.int (0:Int32)], pv_mm s T)) (by decide +kernel) rfl ?_
      obtain rfl := Option.some.inj h
      exact hJ9
    · rw [if_neg c10] at h
      refine pv_e_bk (ps := [(33, .iload 4, 2), (35, .aload_n 0, 1), (36, .iload_n 1, 1)]) (t' := (0, 0, 37, [some (.ref 94), some (.int v1), some (.int v2), some (.int v3), some (.int v4)], [.int v1, .ref 94, .int v4], pv_mm s T)) (by decide +kernel) rfl ?_
      obtain ⟨q12, e11, h⟩ := Option.bind_eq_some_iff.mp h
      refine pv_e_cvi (d := d + 0) (i := 142) (z := 142) (np := 1) (ml := 2) (ci := 6) (As := [.int v1]) (rs := [.int v4]) (pc' := 40) (by decide +kernel) rfl rfl rfl rfl (Nat.le_of_ble_eq_true rfl) (Nat.le_of_ble_eq_true rfl) rfl (ee142 (d + 0) v1 e11) ?_
      refine pv_e_icmpge (off := 20) (b := 60) (pc' := 43) (by decide +kernel) (by decide +kernel) rfl (fun c13 => ?_) (fun c13 => ?_)
      · rw [if_pos c13] at h
        refine pv_e_bk (ps := [(60, .iconst 1, 1), (61, .goto 4, 3)]) (t' := (0, 0, 65, [some (.ref 94), some (.int v1), some (.int v2), some (.int v3), some (.int v4)], [.int (1:Int32)], pv_mm s T)) (by decide +kernel) rfl ?_
        obtain rfl := Option.some.inj h
        exact hJ9
      · rw [if_neg c13] at h
        refine pv_e_bk (ps := [(43, .aload_n 0, 1), (44, .iload_n 1, 1), (45, .iload 4, 2)]) (t' := (0, 0, 47, [some (.ref 94), some (.int v1), some (.int v2), some (.int v3), some (.int v4)], [.int v4, .int v1, .ref 94], pv_mm s T)) (by decide +kernel) rfl ?_
        obtain ⟨q15, e14, h⟩ := Option.bind_eq_some_iff.mp h
        refine pv_e_cvi (d := d + 0) (i := 145) (z := 143) (np := 2) (ml := 3) (ci := 6) (As := [.int v1, .int v4]) (rs := []) (pc' := 50) (by decide +kernel) rfl rfl rfl rfl (Nat.le_of_ble_eq_true rfl) (Nat.le_of_ble_eq_true rfl) rfl (ee143 (d + 0) v1 v4 e14) ?_
        refine pv_e_bk (ps := [(50, .aload_n 0, 1), (51, .iload_n 2, 1), (52, .iload 4, 2)]) (t' := (0, 0, 54, [some (.ref 94), some (.int v1), some (.int v2), some (.int v3), some (.int v4)], [.int v4, .int v2, .ref 94, .int q15], pv_mm s T)) (by decide +kernel) rfl ?_
        obtain ⟨q17, e16, h⟩ := Option.bind_eq_some_iff.mp h
        refine pv_e_cvi (d := d + 0) (i := 145) (z := 143) (np := 2) (ml := 3) (ci := 6) (As := [.int v2, .int v4]) (rs := [.int q15]) (pc' := 57) (by decide +kernel) rfl rfl rfl rfl (Nat.le_of_ble_eq_true rfl) (Nat.le_of_ble_eq_true rfl) rfl (ee143 (d + 0) v2 v4 e16) ?_
        refine pv_e_icmpne (off := 7) (b := 64) (pc' := 60) (by decide +kernel) (by decide +kernel) rfl (fun c18 => ?_) (fun c18 => ?_)
        · rw [if_pos c18] at h
          refine pv_e_bk (ps := [(60, .iconst 1, 1), (61, .goto 4, 3)]) (t' := (0, 0, 65, [some (.ref 94), some (.int v1), some (.int v2), some (.int v3), some (.int v4)], [.int (1:Int32)], pv_mm s T)) (by decide +kernel) rfl ?_
          obtain rfl := Option.some.inj h
          exact hJ9
        · rw [if_neg c18] at h
          refine pv_e_bk (ps := [(64, .iconst 0, 1)]) (t' := (0, 0, 65, [some (.ref 94), some (.int v1), some (.int v2), some (.int v3), some (.int v4)], [.int (0:Int32)], pv_mm s T)) (by decide +kernel) rfl ?_
          obtain rfl := Option.some.inj h
          exact hJ9
theorem ee144 {xs : Nat → Int32} {L : Nat} (d : Nat) (x1 : Int32) (x2 : Int32) {s : pv_F} {T : pv_T} {q : Int32}  (h : f144_isLike x1 x2 T = some q) : pv_Ev xs L (d + 1) 144 (0, 0, 0, [some (.ref 94), some (.int x1), some (.int x2), none, none], [], pv_mm s T) (some (.int q), pv_mm s T) := by
  generalize hr : ((some (.int q), pv_mm s T) : Option Value × pv_M) = r
  unfold f144_isLike at h
  refine pv_e_bk (ps := [(0, .aload_n 0, 1), (1, .iload_n 1, 1)]) (t' := (0, 0, 2, [some (.ref 94), some (.int x1), some (.int x2), none, none], [.int x1, .ref 94], pv_mm s T)) (by decide +kernel) rfl ?_
  obtain ⟨q2, e1, h⟩ := Option.bind_eq_some_iff.mp h
  refine pv_e_cvi (d := d + 0) (i := 142) (z := 142) (np := 1) (ml := 2) (ci := 6) (As := [.int x1]) (rs := []) (pc' := 5) (by decide +kernel) rfl rfl rfl rfl (Nat.le_of_ble_eq_true rfl) (Nat.le_of_ble_eq_true rfl) rfl (ee142 (d + 0) x1 e1) ?_
  refine pv_e_bk (ps := [(5, .aload_n 0, 1), (6, .iload_n 2, 1)]) (t' := (0, 0, 7, [some (.ref 94), some (.int x1), some (.int x2), none, none], [.int x2, .ref 94, .int q2], pv_mm s T)) (by decide +kernel) rfl ?_
  obtain ⟨q4, e3, h⟩ := Option.bind_eq_some_iff.mp h
  refine pv_e_cvi (d := d + 0) (i := 142) (z := 142) (np := 1) (ml := 2) (ci := 6) (As := [.int x2]) (rs := [.int q2]) (pc' := 10) (by decide +kernel) rfl rfl rfl rfl (Nat.le_of_ble_eq_true rfl) (Nat.le_of_ble_eq_true rfl) rfl (ee142 (d + 0) x2 e3) ?_
  obtain ⟨t5, hv25, h⟩ := Option.bind_eq_some_iff.mp h
  have hJ26 : pv_Ev xs L (d + 1) 144 (0, 0, 18, [some (.ref 94), some (.int x1), some (.int x2), none, none], [.int t5], pv_mm s T) r := by
    refine pv_e_bk (ps := [(18, .istore_n 3, 1), (19, .iconst 0, 1), (20, .istore 4, 2)]) (t' := (0, 0, 22, [some (.ref 94), some (.int x1), some (.int x2), some (.int t5), some (.int (0:Int32))], [], pv_mm s T)) (by decide +kernel) rfl ?_
    obtain ⟨⟨w19, w20⟩, e24, h⟩ := Option.bind_eq_some_iff.mp h
    dsimp only at h
    have hx23 : f144_isLike_b1_X xs L d r s x1 x2 T (w19, w20) := by
      show ∀ z4 : Option Value, pv_Ev xs L (d + 1) 144 (0, 0, 72, [some (.ref 94), some (.int x1), some (.int x2), some (.int w19), z4], [], pv_mm s T) r
      intro z4
      refine pv_e_bk (ps := [(72, .iload_n 3, 1)]) (t' := (0, 0, 73, [some (.ref 94), some (.int x1), some (.int x2), some (.int w19), z4], [.int w19], pv_mm s T)) (by decide +kernel) rfl ?_
      obtain ⟨q21, e22, h⟩ := Option.bind_eq_some_iff.mp h
      obtain rfl := Option.some.inj h
      cases hr
      exact pv_e_rz (by decide +kernel) e22
    exact pv_lq_ok (H := f144_isLike_b1_H xs L d r s x1 x2 T) (X := f144_isLike_b1_X xs L d r s x1 x2 T) (f144_isLike_b1_ok (xs := xs) (L := L) (d := d) (r := r) (s := s) (v1 := x1) (v2 := x2) (T := T)) 20000 _ _ e24 hx23
  clear h
  have h := hv25
  clear hv25
  refine pv_e_icmpne (off := 7) (b := 17) (pc' := 13) (by decide +kernel) (by decide +kernel) rfl (fun c27 => ?_) (fun c27 => ?_)
  · rw [if_pos c27] at h
    refine pv_e_bk (ps := [(13, .iconst 1, 1), (14, .goto 4, 3)]) (t' := (0, 0, 18, [some (.ref 94), some (.int x1), some (.int x2), none, none], [.int (1:Int32)], pv_mm s T)) (by decide +kernel) rfl ?_
    obtain rfl := Option.some.inj h
    exact hJ26
  · rw [if_neg c27] at h
    refine pv_e_bk (ps := [(17, .iconst 0, 1)]) (t' := (0, 0, 18, [some (.ref 94), some (.int x1), some (.int x2), none, none], [.int (0:Int32)], pv_mm s T)) (by decide +kernel) rfl ?_
    obtain rfl := Option.some.inj h
    exact hJ26
def f145_likes_b1 (v1 : Int32) (T : pv_T) (st : Int32 × Int32) : Option ((Int32 × Int32) ⊕ (Int32 × Int32)) := match st with
  | (v2, v3) =>
    if (T.1 94 8) ≤ v3 then
      some (.inr (v2, v3))
    else
      ((
        if v3 = v1 then
          some (0:Int32)
        else
          (pv_rd T.1 101 7 v3).bind fun q6 =>
          if q6 = (3:Int32) then
            some (0:Int32)
          else
            (f144_isLike v1 v3 T).bind fun q10 =>
            if q10 = 0 then
              some (0:Int32)
            else
              some ((1:Int32) <<< (v3 &&& 31))) : Option (Int32)).bind fun t2 =>
      some (.inl (v2 ||| t2, v3 + (1:Int32)))
def f145_likes_b1_H (xs : Nat → Int32) (L d : Nat) (r : Option Value × pv_M) (s : pv_F) (v1 : Int32) (T : pv_T) (st : Int32 × Int32) : Prop := match st with
  | (v2, v3) => pv_Ev xs L (d + 2) 145 (0, 0, 4, [some (.ref 94), some (.int v1), some (.int v2), some (.int v3)], [], pv_mm s T) r
def f145_likes_b1_X (xs : Nat → Int32) (L d : Nat) (r : Option Value × pv_M) (s : pv_F) (v1 : Int32) (T : pv_T) (st : Int32 × Int32) : Prop := match st with
  | (v2, v3) => ∀ z3 : Option Value, pv_Ev xs L (d + 2) 145 (0, 0, 52, [some (.ref 94), some (.int v1), some (.int v2), z3], [], pv_mm s T) r
def f145_likes (x1 : Int32) (T : pv_T) : Option (Int32) :=
  (pv_lq (f145_likes_b1 x1 T) 20000 ((0:Int32), (0:Int32))).bind fun (w12, w13) =>
  some w12
theorem f145_likes_b1_ok {xs : Nat → Int32} {L d : Nat} {r : Option Value × pv_M} {s : pv_F} {v1 : Int32} {T : pv_T} (st : Int32 × Int32) (o : (Int32 × Int32) ⊕ (Int32 × Int32)) (h : f145_likes_b1 v1 T st = some o) (hK : pv_Kq (f145_likes_b1_H xs L d r s v1 T) (f145_likes_b1_X xs L d r s v1 T) o) : f145_likes_b1_H xs L d r s v1 T st := by
  obtain ⟨v2, v3⟩ := st
  show pv_Ev xs L (d + 2) 145 (0, 0, 4, [some (.ref 94), some (.int v1), some (.int v2), some (.int v3)], [], pv_mm s T) r
  unfold f145_likes_b1 at h
  dsimp only at h
  refine pv_e_bk (ps := [(4, .iload_n 3, 1), (5, .aload_n 0, 1)]) (t' := (0, 0, 6, [some (.ref 94), some (.int v1), some (.int v2), some (.int v3)], [.ref 94, .int v3], pv_mm s T)) (by decide +kernel) rfl ?_
  refine pv_e_gm (i := 136) (ci := 6) (j := 8) (pc' := 9) (by decide +kernel) (by decide) rfl rfl rfl ?_
  refine pv_e_icmpge (off := 43) (b := 52) (pc' := 12) (by decide +kernel) (by decide +kernel) rfl (fun c1 => ?_) (fun c1 => ?_)
  · rw [if_pos c1] at h
    obtain rfl := Option.some.inj h
    exact hK _
  · rw [if_neg c1] at h
    refine pv_e_bk (ps := [(12, .iload_n 2, 1), (13, .iload_n 3, 1), (14, .iload_n 1, 1)]) (t' := (0, 0, 15, [some (.ref 94), some (.int v1), some (.int v2), some (.int v3)], [.int v1, .int v3, .int v2], pv_mm s T)) (by decide +kernel) rfl ?_
    obtain ⟨t2, hv3, h⟩ := Option.bind_eq_some_iff.mp h
    have hJ4 : pv_Ev xs L (d + 2) 145 (0, 0, 44, [some (.ref 94), some (.int v1), some (.int v2), some (.int v3)], [.int t2, .int v2], pv_mm s T) r := by
      refine pv_e_bk (ps := [(44, .ior, 1), (45, .istore_n 2, 1), (46, .iinc 3 1, 3), (49, .goto (-45), 3)]) (t' := (0, 0, 4, [some (.ref 94), some (.int v1), some (.int (v2 ||| t2)), some (.int (v3 + (1:Int32)))], [], pv_mm s T)) (by decide +kernel) rfl ?_
      obtain rfl := Option.some.inj h
      exact hK
    clear h
    have h := hv3
    clear hv3
    refine pv_e_icmpeq (off := 28) (b := 43) (pc' := 18) (by decide +kernel) (by decide +kernel) rfl (fun c5 => ?_) (fun c5 => ?_)
    · rw [if_pos c5] at h
      refine pv_e_bk (ps := [(43, .iconst 0, 1)]) (t' := (0, 0, 44, [some (.ref 94), some (.int v1), some (.int v2), some (.int v3)], [.int (0:Int32), .int v2], pv_mm s T)) (by decide +kernel) rfl ?_
      obtain rfl := Option.some.inj h
      exact hJ4
    · rw [if_neg c5] at h
      refine pv_e_bk (ps := [(18, .aload_n 0, 1)]) (t' := (0, 0, 19, [some (.ref 94), some (.int v1), some (.int v2), some (.int v3)], [.ref 94, .int v2], pv_mm s T)) (by decide +kernel) rfl ?_
      refine pv_e_gr (i := 32) (ci := 6) (j := 11) (b := 101) (pc' := 22) (by decide +kernel) rfl rfl rfl ?_
      refine pv_e_bk (ps := [(22, .iload_n 3, 1)]) (t' := (0, 0, 23, [some (.ref 94), some (.int v1), some (.int v2), some (.int v3)], [.int v3, .ref 101, .int v2], pv_mm s T)) (by decide +kernel) rfl ?_
      obtain ⟨q6, e7, h⟩ := Option.bind_eq_some_iff.mp h
      refine pv_e_rm (pc' := 24) (by decide +kernel) (by decide) rfl e7 rfl ?_
      refine pv_e_bk (ps := [(24, .iconst 3, 1)]) (t' := (0, 0, 25, [some (.ref 94), some (.int v1), some (.int v2), some (.int v3)], [.int (3:Int32), .int q6, .int v2], pv_mm s T)) (by decide +kernel) rfl ?_
      refine pv_e_icmpeq (off := 18) (b := 43) (pc' := 28) (by decide +kernel) (by decide +kernel) rfl (fun c8 => ?_) (fun c8 => ?_)
      · rw [if_pos c8] at h
        refine pv_e_bk (ps := [(43, .iconst 0, 1)]) (t' := (0, 0, 44, [some (.ref 94), some (.int v1), some (.int v2), some (.int v3)], [.int (0:Int32), .int v2], pv_mm s T)) (by decide +kernel) rfl ?_
        obtain rfl := Option.some.inj h
        exact hJ4
      · rw [if_neg c8] at h
        refine pv_e_bk (ps := [(28, .aload_n 0, 1), (29, .iload_n 1, 1), (30, .iload_n 3, 1)]) (t' := (0, 0, 31, [some (.ref 94), some (.int v1), some (.int v2), some (.int v3)], [.int v3, .int v1, .ref 94, .int v2], pv_mm s T)) (by decide +kernel) rfl ?_
        obtain ⟨q10, e9, h⟩ := Option.bind_eq_some_iff.mp h
        refine pv_e_cvi (d := d + 1) (i := 148) (z := 144) (np := 2) (ml := 5) (ci := 6) (As := [.int v1, .int v3]) (rs := [.int v2]) (pc' := 34) (by decide +kernel) rfl rfl rfl rfl (Nat.le_of_ble_eq_true rfl) (Nat.le_of_ble_eq_true rfl) rfl (ee144 (d + 0) v1 v3 e9) ?_
        refine pv_e_ifeq (off := 9) (b := 43) (pc' := 37) (by decide +kernel) (by decide +kernel) rfl (fun c11 => ?_) (fun c11 => ?_)
        · rw [if_pos c11] at h
          refine pv_e_bk (ps := [(43, .iconst 0, 1)]) (t' := (0, 0, 44, [some (.ref 94), some (.int v1), some (.int v2), some (.int v3)], [.int (0:Int32), .int v2], pv_mm s T)) (by decide +kernel) rfl ?_
          obtain rfl := Option.some.inj h
          exact hJ4
        · rw [if_neg c11] at h
          refine pv_e_bk (ps := [(37, .iconst 1, 1), (38, .iload_n 3, 1), (39, .ishl, 1), (40, .goto 4, 3)]) (t' := (0, 0, 44, [some (.ref 94), some (.int v1), some (.int v2), some (.int v3)], [.int ((1:Int32) <<< (v3 &&& 31)), .int v2], pv_mm s T)) (by decide +kernel) rfl ?_
          obtain rfl := Option.some.inj h
          exact hJ4
theorem ee145 {xs : Nat → Int32} {L : Nat} (d : Nat) (x1 : Int32) {s : pv_F} {T : pv_T} {q : Int32}  (h : f145_likes x1 T = some q) : pv_Ev xs L (d + 2) 145 (0, 0, 0, [some (.ref 94), some (.int x1), none, none], [], pv_mm s T) (some (.int q), pv_mm s T) := by
  generalize hr : ((some (.int q), pv_mm s T) : Option Value × pv_M) = r
  unfold f145_likes at h
  refine pv_e_bk (ps := [(0, .iconst 0, 1), (1, .istore_n 2, 1), (2, .iconst 0, 1), (3, .istore_n 3, 1)]) (t' := (0, 0, 4, [some (.ref 94), some (.int x1), some (.int (0:Int32)), some (.int (0:Int32))], [], pv_mm s T)) (by decide +kernel) rfl ?_
  obtain ⟨⟨w12, w13⟩, e15, h⟩ := Option.bind_eq_some_iff.mp h
  dsimp only at h
  have hx14 : f145_likes_b1_X xs L d r s x1 T (w12, w13) := by
    show ∀ z3 : Option Value, pv_Ev xs L (d + 2) 145 (0, 0, 52, [some (.ref 94), some (.int x1), some (.int w12), z3], [], pv_mm s T) r
    intro z3
    refine pv_e_bk (ps := [(52, .iload_n 2, 1)]) (t' := (0, 0, 53, [some (.ref 94), some (.int x1), some (.int w12), z3], [.int w12], pv_mm s T)) (by decide +kernel) rfl ?_
    obtain rfl := Option.some.inj h
    cases hr
    exact pv_e_ri (by decide +kernel)
  exact pv_lq_ok (H := f145_likes_b1_H xs L d r s x1 T) (X := f145_likes_b1_X xs L d r s x1 T) (f145_likes_b1_ok (xs := xs) (L := L) (d := d) (r := r) (s := s) (v1 := x1) (T := T)) 20000 _ _ e15 hx14
def f146_personOf (x1 : Int32) (x2 : Int32) (T : pv_T) : Option (Int32) :=
  ((
    if x2 = 0 then
      (pv_rd T.1 101 7 x1).bind fun q5 =>
      some q5
    else
      if x2 = (1:Int32) then
        (f142_lenOf x1 T).bind fun q9 =>
        some q9
      else
        if x2 = (2:Int32) then
          (pv_rd T.1 105 78 ((56:Int32) + x1)).bind fun q11 =>
          some q11
        else
          if x2 = (3:Int32) then
            (pv_rd T.1 105 78 ((63:Int32) + x1)).bind fun q14 =>
            some q14
          else
            (pv_rd T.1 105 78 ((70:Int32) + x1)).bind fun q16 =>
            some q16) : Option (Int32)).bind fun t1 =>
  some t1
theorem ee146 {xs : Nat → Int32} {L : Nat} (d : Nat) (x1 : Int32) (x2 : Int32) {s : pv_F} {T : pv_T} {q : Int32}  (h : f146_personOf x1 x2 T = some q) : pv_Ev xs L (d + 1) 146 (0, 0, 0, [some (.ref 94), some (.int x1), some (.int x2)], [], pv_mm s T) (some (.int q), pv_mm s T) := by
  generalize hr : ((some (.int q), pv_mm s T) : Option Value × pv_M) = r
  unfold f146_personOf at h
  refine pv_e_bk (ps := [(0, .iload_n 2, 1)]) (t' := (0, 0, 1, [some (.ref 94), some (.int x1), some (.int x2)], [.int x2], pv_mm s T)) (by decide +kernel) rfl ?_
  obtain ⟨t1, hv2, h⟩ := Option.bind_eq_some_iff.mp h
  have hJ3 : pv_Ev xs L (d + 1) 146 (0, 0, 69, [some (.ref 94), some (.int x1), some (.int x2)], [.int t1], pv_mm s T) r := by
    obtain rfl := Option.some.inj h
    cases hr
    exact pv_e_ri (by decide +kernel)
  clear h
  have h := hv2
  clear hv2
  refine pv_e_ifne (off := 12) (b := 13) (pc' := 4) (by decide +kernel) (by decide +kernel) rfl (fun c4 => ?_) (fun c4 => ?_)
  · rw [if_pos c4] at h
    refine pv_e_bk (ps := [(4, .aload_n 0, 1)]) (t' := (0, 0, 5, [some (.ref 94), some (.int x1), some (.int x2)], [.ref 94], pv_mm s T)) (by decide +kernel) rfl ?_
    refine pv_e_gr (i := 32) (ci := 6) (j := 11) (b := 101) (pc' := 8) (by decide +kernel) rfl rfl rfl ?_
    refine pv_e_bk (ps := [(8, .iload_n 1, 1)]) (t' := (0, 0, 9, [some (.ref 94), some (.int x1), some (.int x2)], [.int x1, .ref 101], pv_mm s T)) (by decide +kernel) rfl ?_
    obtain ⟨q5, e6, h⟩ := Option.bind_eq_some_iff.mp h
    refine pv_e_rm (pc' := 10) (by decide +kernel) (by decide) rfl e6 rfl ?_
    refine pv_e_bk (ps := [(10, .goto 59, 3)]) (t' := (0, 0, 69, [some (.ref 94), some (.int x1), some (.int x2)], [.int q5], pv_mm s T)) (by decide +kernel) rfl ?_
    obtain rfl := Option.some.inj h
    exact hJ3
  · rw [if_neg c4] at h
    refine pv_e_bk (ps := [(13, .iload_n 2, 1), (14, .iconst 1, 1)]) (t' := (0, 0, 15, [some (.ref 94), some (.int x1), some (.int x2)], [.int (1:Int32), .int x2], pv_mm s T)) (by decide +kernel) rfl ?_
    refine pv_e_icmpne (off := 11) (b := 26) (pc' := 18) (by decide +kernel) (by decide +kernel) rfl (fun c7 => ?_) (fun c7 => ?_)
    · rw [if_pos c7] at h
      refine pv_e_bk (ps := [(18, .aload_n 0, 1), (19, .iload_n 1, 1)]) (t' := (0, 0, 20, [some (.ref 94), some (.int x1), some (.int x2)], [.int x1, .ref 94], pv_mm s T)) (by decide +kernel) rfl ?_
      obtain ⟨q9, e8, h⟩ := Option.bind_eq_some_iff.mp h
      refine pv_e_cvi (d := d + 0) (i := 142) (z := 142) (np := 1) (ml := 2) (ci := 6) (As := [.int x1]) (rs := []) (pc' := 23) (by decide +kernel) rfl rfl rfl rfl (Nat.le_of_ble_eq_true rfl) (Nat.le_of_ble_eq_true rfl) rfl (ee142 (d + 0) x1 e8) ?_
      refine pv_e_bk (ps := [(23, .goto 46, 3)]) (t' := (0, 0, 69, [some (.ref 94), some (.int x1), some (.int x2)], [.int q9], pv_mm s T)) (by decide +kernel) rfl ?_
      obtain rfl := Option.some.inj h
      exact hJ3
    · rw [if_neg c7] at h
      refine pv_e_bk (ps := [(26, .iload_n 2, 1), (27, .iconst 2, 1)]) (t' := (0, 0, 28, [some (.ref 94), some (.int x1), some (.int x2)], [.int (2:Int32), .int x2], pv_mm s T)) (by decide +kernel) rfl ?_
      refine pv_e_icmpne (off := 15) (b := 43) (pc' := 31) (by decide +kernel) (by decide +kernel) rfl (fun c10 => ?_) (fun c10 => ?_)
      · rw [if_pos c10] at h
        refine pv_e_bk (ps := [(31, .aload_n 0, 1)]) (t' := (0, 0, 32, [some (.ref 94), some (.int x1), some (.int x2)], [.ref 94], pv_mm s T)) (by decide +kernel) rfl ?_
        refine pv_e_gr (i := 44) (ci := 6) (j := 17) (b := 105) (pc' := 35) (by decide +kernel) rfl rfl rfl ?_
        refine pv_e_bk (ps := [(35, .bipush 56, 2), (37, .iload_n 1, 1), (38, .iadd, 1)]) (t' := (0, 0, 39, [some (.ref 94), some (.int x1), some (.int x2)], [.int ((56:Int32) + x1), .ref 105], pv_mm s T)) (by decide +kernel) rfl ?_
        obtain ⟨q11, e12, h⟩ := Option.bind_eq_some_iff.mp h
        refine pv_e_rm (pc' := 40) (by decide +kernel) (by decide) rfl e12 rfl ?_
        refine pv_e_bk (ps := [(40, .goto 29, 3)]) (t' := (0, 0, 69, [some (.ref 94), some (.int x1), some (.int x2)], [.int q11], pv_mm s T)) (by decide +kernel) rfl ?_
        obtain rfl := Option.some.inj h
        exact hJ3
      · rw [if_neg c10] at h
        refine pv_e_bk (ps := [(43, .iload_n 2, 1), (44, .iconst 3, 1)]) (t' := (0, 0, 45, [some (.ref 94), some (.int x1), some (.int x2)], [.int (3:Int32), .int x2], pv_mm s T)) (by decide +kernel) rfl ?_
        refine pv_e_icmpne (off := 15) (b := 60) (pc' := 48) (by decide +kernel) (by decide +kernel) rfl (fun c13 => ?_) (fun c13 => ?_)
        · rw [if_pos c13] at h
          refine pv_e_bk (ps := [(48, .aload_n 0, 1)]) (t' := (0, 0, 49, [some (.ref 94), some (.int x1), some (.int x2)], [.ref 94], pv_mm s T)) (by decide +kernel) rfl ?_
          refine pv_e_gr (i := 44) (ci := 6) (j := 17) (b := 105) (pc' := 52) (by decide +kernel) rfl rfl rfl ?_
          refine pv_e_bk (ps := [(52, .bipush 63, 2), (54, .iload_n 1, 1), (55, .iadd, 1)]) (t' := (0, 0, 56, [some (.ref 94), some (.int x1), some (.int x2)], [.int ((63:Int32) + x1), .ref 105], pv_mm s T)) (by decide +kernel) rfl ?_
          obtain ⟨q14, e15, h⟩ := Option.bind_eq_some_iff.mp h
          refine pv_e_rm (pc' := 57) (by decide +kernel) (by decide) rfl e15 rfl ?_
          refine pv_e_bk (ps := [(57, .goto 12, 3)]) (t' := (0, 0, 69, [some (.ref 94), some (.int x1), some (.int x2)], [.int q14], pv_mm s T)) (by decide +kernel) rfl ?_
          obtain rfl := Option.some.inj h
          exact hJ3
        · rw [if_neg c13] at h
          refine pv_e_bk (ps := [(60, .aload_n 0, 1)]) (t' := (0, 0, 61, [some (.ref 94), some (.int x1), some (.int x2)], [.ref 94], pv_mm s T)) (by decide +kernel) rfl ?_
          refine pv_e_gr (i := 44) (ci := 6) (j := 17) (b := 105) (pc' := 64) (by decide +kernel) rfl rfl rfl ?_
          refine pv_e_bk (ps := [(64, .bipush 70, 2), (66, .iload_n 1, 1), (67, .iadd, 1)]) (t' := (0, 0, 68, [some (.ref 94), some (.int x1), some (.int x2)], [.int ((70:Int32) + x1), .ref 105], pv_mm s T)) (by decide +kernel) rfl ?_
          obtain ⟨q16, e17, h⟩ := Option.bind_eq_some_iff.mp h
          refine pv_e_rm (pc' := 69) (by decide +kernel) (by decide) rfl e17 rfl ?_
          obtain rfl := Option.some.inj h
          exact hJ3
def f147_person (x1 : Int32) (x2 : Int32) (T : pv_T) : Option (Int32 × pv_T) :=
  (f140_isOne x1 T).bind fun q2 =>
  ((
    if q2 = 0 then
      some ((-1:Int32), T)
    else
      (f114_in x2 (0:Int32) (4:Int32)).bind fun q9 =>
      if q9 = 0 then
        some ((-1:Int32), T)
      else
        (f146_personOf x1 x2 T).bind fun q12 =>
        (f116_ask q12 (1:Int32) T).bind fun (q14, T15) =>
        some (q14, T15)) : Option (Int32 × pv_T)).bind fun (t3, T4) =>
  some (t3, T4)
theorem ee147 {xs : Nat → Int32} {L : Nat} (d : Nat) (x1 : Int32) (x2 : Int32) {s : pv_F} {T : pv_T} {q : Int32 × pv_T}  (h : f147_person x1 x2 T = some q) : pv_Ev xs L (d + 2) 147 (0, 0, 0, [some (.ref 94), some (.int x1), some (.int x2)], [], pv_mm s T) (some (.int q.1), pv_mm s q.2) := by
  generalize hr : ((some (.int q.1), pv_mm s q.2) : Option Value × pv_M) = r
  unfold f147_person at h
  refine pv_e_bk (ps := [(0, .aload_n 0, 1), (1, .iload_n 1, 1)]) (t' := (0, 0, 2, [some (.ref 94), some (.int x1), some (.int x2)], [.int x1, .ref 94], pv_mm s T)) (by decide +kernel) rfl ?_
  obtain ⟨q2, e1, h⟩ := Option.bind_eq_some_iff.mp h
  refine pv_e_cvi (d := d + 1) (i := 152) (z := 140) (np := 1) (ml := 2) (ci := 6) (As := [.int x1]) (rs := []) (pc' := 5) (by decide +kernel) rfl rfl rfl rfl (Nat.le_of_ble_eq_true rfl) (Nat.le_of_ble_eq_true rfl) rfl (ee140 (d + 0) x1 e1) ?_
  obtain ⟨⟨t3, T4⟩, hv5, h⟩ := Option.bind_eq_some_iff.mp h
  dsimp only at h
  have hJ6 : pv_Ev xs L (d + 2) 147 (0, 0, 32, [some (.ref 94), some (.int x1), some (.int x2)], [.int t3], pv_mm s T4) r := by
    obtain rfl := Option.some.inj h
    cases hr
    exact pv_e_ri (by decide +kernel)
  clear h
  have h := hv5
  clear hv5
  refine pv_e_ifeq (off := 26) (b := 31) (pc' := 8) (by decide +kernel) (by decide +kernel) rfl (fun c7 => ?_) (fun c7 => ?_)
  · rw [if_pos c7] at h
    refine pv_e_bk (ps := [(31, .iconst (-1), 1)]) (t' := (0, 0, 32, [some (.ref 94), some (.int x1), some (.int x2)], [.int (-1:Int32)], pv_mm s T)) (by decide +kernel) rfl ?_
    cases h
    exact hJ6
  · rw [if_neg c7] at h
    refine pv_e_bk (ps := [(8, .iload_n 2, 1), (9, .iconst 0, 1), (10, .iconst 4, 1)]) (t' := (0, 0, 11, [some (.ref 94), some (.int x1), some (.int x2)], [.int (4:Int32), .int (0:Int32), .int x2], pv_mm s T)) (by decide +kernel) rfl ?_
    obtain ⟨q9, e8, h⟩ := Option.bind_eq_some_iff.mp h
    refine pv_e_csi (d := d + 1) (i := 83) (z := 114) (np := 3) (ml := 3) (As := [.int x2, .int (0:Int32), .int (4:Int32)]) (rs := []) (pc' := 14) (by decide +kernel) rfl rfl rfl (Nat.le_of_ble_eq_true rfl) (Nat.le_of_ble_eq_true rfl) rfl (ee114 (d + 1) x2 (0:Int32) (4:Int32) e8) ?_
    refine pv_e_ifeq (off := 17) (b := 31) (pc' := 17) (by decide +kernel) (by decide +kernel) rfl (fun c10 => ?_) (fun c10 => ?_)
    · rw [if_pos c10] at h
      refine pv_e_bk (ps := [(31, .iconst (-1), 1)]) (t' := (0, 0, 32, [some (.ref 94), some (.int x1), some (.int x2)], [.int (-1:Int32)], pv_mm s T)) (by decide +kernel) rfl ?_
      cases h
      exact hJ6
    · rw [if_neg c10] at h
      refine pv_e_bk (ps := [(17, .aload_n 0, 1), (18, .aload_n 0, 1), (19, .iload_n 1, 1), (20, .iload_n 2, 1)]) (t' := (0, 0, 21, [some (.ref 94), some (.int x1), some (.int x2)], [.int x2, .int x1, .ref 94, .ref 94], pv_mm s T)) (by decide +kernel) rfl ?_
      obtain ⟨q12, e11, h⟩ := Option.bind_eq_some_iff.mp h
      refine pv_e_cvi (d := d + 1) (i := 155) (z := 146) (np := 2) (ml := 3) (ci := 6) (As := [.int x1, .int x2]) (rs := [.ref 94]) (pc' := 24) (by decide +kernel) rfl rfl rfl rfl (Nat.le_of_ble_eq_true rfl) (Nat.le_of_ble_eq_true rfl) rfl (ee146 (d + 0) x1 x2 e11) ?_
      refine pv_e_bk (ps := [(24, .iconst 1, 1)]) (t' := (0, 0, 25, [some (.ref 94), some (.int x1), some (.int x2)], [.int (1:Int32), .int q12, .ref 94], pv_mm s T)) (by decide +kernel) rfl ?_
      obtain ⟨⟨q14, T15⟩, e13, h⟩ := Option.bind_eq_some_iff.mp h
      dsimp only at h
      refine pv_e_cvi (d := d + 1) (i := 109) (z := 116) (np := 2) (ml := 3) (ci := 6) (As := [.int q12, .int (1:Int32)]) (rs := []) (pc' := 28) (by decide +kernel) rfl rfl rfl rfl (Nat.le_of_ble_eq_true rfl) (Nat.le_of_ble_eq_true rfl) rfl (ee116 (d + 1) q12 (1:Int32) e13) ?_
      refine pv_e_bk (ps := [(28, .goto 4, 3)]) (t' := (0, 0, 32, [some (.ref 94), some (.int x1), some (.int x2)], [.int q14], pv_mm s T15)) (by decide +kernel) rfl ?_
      cases h
      exact hJ6
def f148_letter (x1 : Int32) (x2 : Int32) (T : pv_T) : Option (Int32 × pv_T) :=
  (f140_isOne x1 T).bind fun q2 =>
  if q2 = 0 then
    some ((-1:Int32), T)
  else
    if 0 ≤ x2 then
      (f142_lenOf x1 T).bind fun q6 =>
      ((
        if q6 ≤ x2 then
          (f115_meet (2:Int32) T).bind fun (q13, T14) =>
          some (q13, T14)
        else
          (f143_letterOf x1 x2 T).bind fun q16 =>
          some (q16, T)) : Option (Int32 × pv_T)).bind fun (t7, T8) =>
      some (t7, T8)
    else
      some ((-1:Int32), T)
theorem ee148 {xs : Nat → Int32} {L : Nat} (d : Nat) (x1 : Int32) (x2 : Int32) {s : pv_F} {T : pv_T} {q : Int32 × pv_T}  (h : f148_letter x1 x2 T = some q) : pv_Ev xs L (d + 2) 148 (0, 0, 0, [some (.ref 94), some (.int x1), some (.int x2)], [], pv_mm s T) (some (.int q.1), pv_mm s q.2) := by
  generalize hr : ((some (.int q.1), pv_mm s q.2) : Option Value × pv_M) = r
  unfold f148_letter at h
  refine pv_e_bk (ps := [(0, .aload_n 0, 1), (1, .iload_n 1, 1)]) (t' := (0, 0, 2, [some (.ref 94), some (.int x1), some (.int x2)], [.int x1, .ref 94], pv_mm s T)) (by decide +kernel) rfl ?_
  obtain ⟨q2, e1, h⟩ := Option.bind_eq_some_iff.mp h
  refine pv_e_cvi (d := d + 1) (i := 152) (z := 140) (np := 1) (ml := 2) (ci := 6) (As := [.int x1]) (rs := []) (pc' := 5) (by decide +kernel) rfl rfl rfl rfl (Nat.le_of_ble_eq_true rfl) (Nat.le_of_ble_eq_true rfl) rfl (ee140 (d + 0) x1 e1) ?_
  refine pv_e_ifeq (off := 7) (b := 12) (pc' := 8) (by decide +kernel) (by decide +kernel) rfl (fun c3 => ?_) (fun c3 => ?_)
  · rw [if_pos c3] at h
    refine pv_e_bk (ps := [(12, .iconst (-1), 1)]) (t' := (0, 0, 13, [some (.ref 94), some (.int x1), some (.int x2)], [.int (-1:Int32)], pv_mm s T)) (by decide +kernel) rfl ?_
    obtain rfl := Option.some.inj h
    cases hr
    exact pv_e_ri (by decide +kernel)
  · rw [if_neg c3] at h
    refine pv_e_bk (ps := [(8, .iload_n 2, 1)]) (t' := (0, 0, 9, [some (.ref 94), some (.int x1), some (.int x2)], [.int x2], pv_mm s T)) (by decide +kernel) rfl ?_
    refine pv_e_ifge (off := 5) (b := 14) (pc' := 12) (by decide +kernel) (by decide +kernel) rfl (fun c4 => ?_) (fun c4 => ?_)
    · rw [if_pos c4] at h
      refine pv_e_bk (ps := [(14, .iload_n 2, 1), (15, .aload_n 0, 1), (16, .iload_n 1, 1)]) (t' := (0, 0, 17, [some (.ref 94), some (.int x1), some (.int x2)], [.int x1, .ref 94, .int x2], pv_mm s T)) (by decide +kernel) rfl ?_
      obtain ⟨q6, e5, h⟩ := Option.bind_eq_some_iff.mp h
      refine pv_e_cvi (d := d + 1) (i := 142) (z := 142) (np := 1) (ml := 2) (ci := 6) (As := [.int x1]) (rs := [.int x2]) (pc' := 20) (by decide +kernel) rfl rfl rfl rfl (Nat.le_of_ble_eq_true rfl) (Nat.le_of_ble_eq_true rfl) rfl (ee142 (d + 1) x1 e5) ?_
      obtain ⟨⟨t7, T8⟩, hv9, h⟩ := Option.bind_eq_some_iff.mp h
      dsimp only at h
      have hJ10 : pv_Ev xs L (d + 2) 148 (0, 0, 37, [some (.ref 94), some (.int x1), some (.int x2)], [.int t7], pv_mm s T8) r := by
        obtain rfl := Option.some.inj h
        cases hr
        exact pv_e_ri (by decide +kernel)
      clear h
      have h := hv9
      clear hv9
      refine pv_e_icmpge (off := 12) (b := 32) (pc' := 23) (by decide +kernel) (by decide +kernel) rfl (fun c11 => ?_) (fun c11 => ?_)
      · rw [if_pos c11] at h
        refine pv_e_bk (ps := [(32, .aload_n 0, 1), (33, .iconst 2, 1)]) (t' := (0, 0, 34, [some (.ref 94), some (.int x1), some (.int x2)], [.int (2:Int32), .ref 94], pv_mm s T)) (by decide +kernel) rfl ?_
        obtain ⟨⟨q13, T14⟩, e12, h⟩ := Option.bind_eq_some_iff.mp h
        dsimp only at h
        refine pv_e_cvi (d := d + 1) (i := 91) (z := 115) (np := 1) (ml := 2) (ci := 6) (As := [.int (2:Int32)]) (rs := []) (pc' := 37) (by decide +kernel) rfl rfl rfl rfl (Nat.le_of_ble_eq_true rfl) (Nat.le_of_ble_eq_true rfl) rfl (ee115 (d + 1) (2:Int32) e12) ?_
        cases h
        exact hJ10
      · rw [if_neg c11] at h
        refine pv_e_bk (ps := [(23, .aload_n 0, 1), (24, .iload_n 1, 1), (25, .iload_n 2, 1)]) (t' := (0, 0, 26, [some (.ref 94), some (.int x1), some (.int x2)], [.int x2, .int x1, .ref 94], pv_mm s T)) (by decide +kernel) rfl ?_
        obtain ⟨q16, e15, h⟩ := Option.bind_eq_some_iff.mp h
        refine pv_e_cvi (d := d + 1) (i := 145) (z := 143) (np := 2) (ml := 3) (ci := 6) (As := [.int x1, .int x2]) (rs := []) (pc' := 29) (by decide +kernel) rfl rfl rfl rfl (Nat.le_of_ble_eq_true rfl) (Nat.le_of_ble_eq_true rfl) rfl (ee143 (d + 1) x1 x2 e15) ?_
        refine pv_e_bk (ps := [(29, .goto 8, 3)]) (t' := (0, 0, 37, [some (.ref 94), some (.int x1), some (.int x2)], [.int q16], pv_mm s T)) (by decide +kernel) rfl ?_
        cases h
        exact hJ10
    · rw [if_neg c4] at h
      refine pv_e_bk (ps := [(12, .iconst (-1), 1)]) (t' := (0, 0, 13, [some (.ref 94), some (.int x1), some (.int x2)], [.int (-1:Int32)], pv_mm s T)) (by decide +kernel) rfl ?_
      obtain rfl := Option.some.inj h
      cases hr
      exact pv_e_ri (by decide +kernel)
