-- printed by wip/whole/gen/parts.py: methods as functions over the ints of the memory, and that the pure machine runs so
def f17_wearAll_b1 (v0 : Nat) (v1 : Int32) (v2 : Int32) (s : pv_F) (st : Int32 × Int32) : Option ((Int32 × Int32) ⊕ (Int32 × Int32)) := match st with
  | (v3, v4) =>
    if (s v0 3) ≤ v4 then
      some (.inr (v3, v4))
    else
      (f9_lives v0 v4 s).bind fun q3 =>
      ((
        if q3 = 0 then
          some (0:Int32)
        else
          some ((1:Int32) <<< (v4 &&& 31))) : Option (Int32)).bind fun t4 =>
      some (.inl (v3 ||| t4, v4 + (1:Int32)))
def f17_wearAll_b1_H (xs : Nat → Int32) (L d : Nat) (r : Option Value × pv_M) (T : pv_T) (v0 : Nat) (v1 : Int32) (v2 : Int32) (s : pv_F) (st : Int32 × Int32) : Prop := match st with
  | (v3, v4) => pv_Ev xs L (d + 3) 17 (0, 0, 5, [some (.ref v0), some (.int v1), some (.int v2), some (.int v3), some (.int v4)], [], pv_mm s T) r
def f17_wearAll_b1_X (xs : Nat → Int32) (L d : Nat) (r : Option Value × pv_M) (T : pv_T) (v0 : Nat) (v1 : Int32) (v2 : Int32) (s : pv_F) (st : Int32 × Int32) : Prop := match st with
  | (v3, v4) => ∀ z4 : Option Value, pv_Ev xs L (d + 3) 17 (0, 0, 40, [some (.ref v0), some (.int v1), some (.int v2), some (.int v3), z4], [], pv_mm s T) r
def f17_wearAll_b2 (v0 : Nat) (v1 : Int32) (v2 : Int32) (v3 : Int32) (st : Int32 × pv_F) : Option ((Int32 × pv_F) ⊕ (Int32 × pv_F)) := match st with
  | (v4, s) =>
    if v1 ≤ v4 then
      some (.inr (v4, s))
    else
      (f16_wear v0 v3 v2 s).bind fun s12 =>
      some (.inl (v4 + (1:Int32), s12))
def f17_wearAll_b2_H (xs : Nat → Int32) (L d : Nat) (r : Option Value × pv_M) (T : pv_T) (v0 : Nat) (v1 : Int32) (v2 : Int32) (v3 : Int32) (st : Int32 × pv_F) : Prop := match st with
  | (v4, s) => pv_Ev xs L (d + 3) 17 (0, 0, 43, [some (.ref v0), some (.int v1), some (.int v2), some (.int v3), some (.int v4)], [], pv_mm s T) r
def f17_wearAll_b2_X (xs : Nat → Int32) (L d : Nat) (r : Option Value × pv_M) (T : pv_T) (v0 : Nat) (v1 : Int32) (v2 : Int32) (v3 : Int32) (st : Int32 × pv_F) : Prop := match st with
  | (v4, s) => ∀ z4 : Option Value, pv_Ev xs L (d + 3) 17 (0, 0, 61, [some (.ref v0), some (.int v1), some (.int v2), some (.int v3), z4], [], pv_mm s T) r
def f17_wearAll (o : Nat) (x1 : Int32) (x2 : Int32) (s : pv_F) : Option (pv_F) :=
  (pv_lq (f17_wearAll_b1 o x1 x2 s) 20000 ((0:Int32), (0:Int32))).bind fun (w8, w9) =>
  (pv_lq (f17_wearAll_b2 o x1 x2 w8) 20000 ((0:Int32), s)).bind fun (w13, s14) =>
  some s14
theorem f17_wearAll_b1_ok {xs : Nat → Int32} {L d : Nat} {r : Option Value × pv_M} {T : pv_T} {v0 : Nat} {v1 : Int32} {v2 : Int32} {s : pv_F} (g0 : v0 ∈ pv_folks) (st : Int32 × Int32) (o : (Int32 × Int32) ⊕ (Int32 × Int32)) (h : f17_wearAll_b1 v0 v1 v2 s st = some o) (hK : pv_Kq (f17_wearAll_b1_H xs L d r T v0 v1 v2 s) (f17_wearAll_b1_X xs L d r T v0 v1 v2 s) o) : f17_wearAll_b1_H xs L d r T v0 v1 v2 s st := by
  obtain ⟨v3, v4⟩ := st
  show pv_Ev xs L (d + 3) 17 (0, 0, 5, [some (.ref v0), some (.int v1), some (.int v2), some (.int v3), some (.int v4)], [], pv_mm s T) r
  unfold f17_wearAll_b1 at h
  dsimp only at h
  refine pv_e_bk (ps := [(5, .iload 4, 2), (7, .aload_n 0, 1)]) (t' := (0, 0, 8, [some (.ref v0), some (.int v1), some (.int v2), some (.int v3), some (.int v4)], [.ref v0, .int v4], pv_mm s T)) (by decide +kernel) rfl ?_
  refine pv_e_gc (i := 21) (ci := 1) (j := 3) (pc' := 11) (by decide +kernel) (by have := (fk g0).2.2.2.2; omega) (fk g0).1 rfl rfl ?_
  refine pv_e_icmpge (off := 29) (b := 40) (pc' := 14) (by decide +kernel) (by decide +kernel) rfl (fun c1 => ?_) (fun c1 => ?_)
  · rw [if_pos c1] at h
    obtain rfl := Option.some.inj h
    exact hK _
  · rw [if_neg c1] at h
    refine pv_e_bk (ps := [(14, .iload_n 3, 1), (15, .aload_n 0, 1), (16, .iload 4, 2)]) (t' := (0, 0, 18, [some (.ref v0), some (.int v1), some (.int v2), some (.int v3), some (.int v4)], [.int v4, .ref v0, .int v3], pv_mm s T)) (by decide +kernel) rfl ?_
    obtain ⟨q3, e2, h⟩ := Option.bind_eq_some_iff.mp h
    refine pv_e_cvi (d := d + 2) (i := 53) (z := 9) (np := 1) (ml := 2) (ci := 1) (As := [.int v4]) (rs := [.int v3]) (pc' := 21) (by decide +kernel) (fk g0).1 rfl rfl rfl (Nat.le_of_ble_eq_true rfl) (Nat.le_of_ble_eq_true rfl) rfl (ee9 (d + 2) v0 v4 g0 e2) ?_
    obtain ⟨t4, hv5, h⟩ := Option.bind_eq_some_iff.mp h
    have hJ6 : pv_Ev xs L (d + 3) 17 (0, 0, 32, [some (.ref v0), some (.int v1), some (.int v2), some (.int v3), some (.int v4)], [.int t4, .int v3], pv_mm s T) r := by
      refine pv_e_bk (ps := [(32, .ior, 1), (33, .istore_n 3, 1), (34, .iinc 4 1, 3), (37, .goto (-32), 3)]) (t' := (0, 0, 5, [some (.ref v0), some (.int v1), some (.int v2), some (.int (v3 ||| t4)), some (.int (v4 + (1:Int32)))], [], pv_mm s T)) (by decide +kernel) rfl ?_
      obtain rfl := Option.some.inj h
      exact hK
    clear h
    have h := hv5
    clear hv5
    refine pv_e_ifeq (off := 10) (b := 31) (pc' := 24) (by decide +kernel) (by decide +kernel) rfl (fun c7 => ?_) (fun c7 => ?_)
    · rw [if_pos c7] at h
      refine pv_e_bk (ps := [(31, .iconst 0, 1)]) (t' := (0, 0, 32, [some (.ref v0), some (.int v1), some (.int v2), some (.int v3), some (.int v4)], [.int (0:Int32), .int v3], pv_mm s T)) (by decide +kernel) rfl ?_
      obtain rfl := Option.some.inj h
      exact hJ6
    · rw [if_neg c7] at h
      refine pv_e_bk (ps := [(24, .iconst 1, 1), (25, .iload 4, 2), (27, .ishl, 1), (28, .goto 4, 3)]) (t' := (0, 0, 32, [some (.ref v0), some (.int v1), some (.int v2), some (.int v3), some (.int v4)], [.int ((1:Int32) <<< (v4 &&& 31)), .int v3], pv_mm s T)) (by decide +kernel) rfl ?_
      obtain rfl := Option.some.inj h
      exact hJ6
theorem f17_wearAll_b2_ok {xs : Nat → Int32} {L d : Nat} {r : Option Value × pv_M} {T : pv_T} {v0 : Nat} {v1 : Int32} {v2 : Int32} {v3 : Int32} (g0 : v0 ∈ pv_folks) (st : Int32 × pv_F) (o : (Int32 × pv_F) ⊕ (Int32 × pv_F)) (h : f17_wearAll_b2 v0 v1 v2 v3 st = some o) (hK : pv_Kq (f17_wearAll_b2_H xs L d r T v0 v1 v2 v3) (f17_wearAll_b2_X xs L d r T v0 v1 v2 v3) o) : f17_wearAll_b2_H xs L d r T v0 v1 v2 v3 st := by
  obtain ⟨v4, s⟩ := st
  show pv_Ev xs L (d + 3) 17 (0, 0, 43, [some (.ref v0), some (.int v1), some (.int v2), some (.int v3), some (.int v4)], [], pv_mm s T) r
  unfold f17_wearAll_b2 at h
  dsimp only at h
  refine pv_e_bk (ps := [(43, .iload 4, 2), (45, .iload_n 1, 1)]) (t' := (0, 0, 46, [some (.ref v0), some (.int v1), some (.int v2), some (.int v3), some (.int v4)], [.int v1, .int v4], pv_mm s T)) (by decide +kernel) rfl ?_
  refine pv_e_icmpge (off := 15) (b := 61) (pc' := 49) (by decide +kernel) (by decide +kernel) rfl (fun c10 => ?_) (fun c10 => ?_)
  · rw [if_pos c10] at h
    obtain rfl := Option.some.inj h
    exact hK _
  · rw [if_neg c10] at h
    refine pv_e_bk (ps := [(49, .aload_n 0, 1), (50, .iload_n 3, 1), (51, .iload_n 2, 1)]) (t' := (0, 0, 52, [some (.ref v0), some (.int v1), some (.int v2), some (.int v3), some (.int v4)], [.int v2, .int v3, .ref v0], pv_mm s T)) (by decide +kernel) rfl ?_
    obtain ⟨s12, e11, h⟩ := Option.bind_eq_some_iff.mp h
    refine pv_e_cvv (d := d + 2) (i := 72) (z := 16) (np := 2) (ml := 5) (ci := 1) (As := [.int v3, .int v2]) (rs := []) (pc' := 55) (by decide +kernel) (fk g0).1 rfl rfl rfl (Nat.le_of_ble_eq_true rfl) (Nat.le_of_ble_eq_true rfl) rfl (ee16 (d + 0) v0 v3 v2 g0 e11) ?_
    refine pv_e_bk (ps := [(55, .iinc 4 1, 3), (58, .goto (-15), 3)]) (t' := (0, 0, 43, [some (.ref v0), some (.int v1), some (.int v2), some (.int v3), some (.int (v4 + (1:Int32)))], [], pv_mm s12 T)) (by decide +kernel) rfl ?_
    obtain rfl := Option.some.inj h
    exact hK
theorem ee17 {xs : Nat → Int32} {L : Nat} (d : Nat) (o : Nat) (x1 : Int32) (x2 : Int32) {s : pv_F} {T : pv_T} {q : pv_F} (g0 : o ∈ pv_folks) (h : f17_wearAll o x1 x2 s = some q) : pv_Ev xs L (d + 3) 17 (0, 0, 0, [some (.ref o), some (.int x1), some (.int x2), none, none], [], pv_mm s T) (none, pv_mm q T) := by
  generalize hr : ((none, pv_mm q T) : Option Value × pv_M) = r
  unfold f17_wearAll at h
  refine pv_e_bk (ps := [(0, .iconst 0, 1), (1, .istore_n 3, 1), (2, .iconst 0, 1), (3, .istore 4, 2)]) (t' := (0, 0, 5, [some (.ref o), some (.int x1), some (.int x2), some (.int (0:Int32)), some (.int (0:Int32))], [], pv_mm s T)) (by decide +kernel) rfl ?_
  obtain ⟨⟨w8, w9⟩, e18, h⟩ := Option.bind_eq_some_iff.mp h
  dsimp only at h
  have hx17 : f17_wearAll_b1_X xs L d r T o x1 x2 s (w8, w9) := by
    show ∀ z4 : Option Value, pv_Ev xs L (d + 3) 17 (0, 0, 40, [some (.ref o), some (.int x1), some (.int x2), some (.int w8), z4], [], pv_mm s T) r
    intro z4
    refine pv_e_bk (ps := [(40, .iconst 0, 1), (41, .istore 4, 2)]) (t' := (0, 0, 43, [some (.ref o), some (.int x1), some (.int x2), some (.int w8), some (.int (0:Int32))], [], pv_mm s T)) (by decide +kernel) rfl ?_
    obtain ⟨⟨w13, s14⟩, e16, h⟩ := Option.bind_eq_some_iff.mp h
    dsimp only at h
    have hx15 : f17_wearAll_b2_X xs L d r T o x1 x2 w8 (w13, s14) := by
      show ∀ z4 : Option Value, pv_Ev xs L (d + 3) 17 (0, 0, 61, [some (.ref o), some (.int x1), some (.int x2), some (.int w8), z4], [], pv_mm s14 T) r
      intro z4
      obtain rfl := Option.some.inj h
      cases hr
      exact pv_e_rv (by decide +kernel)
    exact pv_lq_ok (H := f17_wearAll_b2_H xs L d r T o x1 x2 w8) (X := f17_wearAll_b2_X xs L d r T o x1 x2 w8) (f17_wearAll_b2_ok (xs := xs) (L := L) (d := d) (r := r) (T := T) (v0 := o) (v1 := x1) (v2 := x2) (v3 := w8) g0) 20000 _ _ e16 hx15
  exact pv_lq_ok (H := f17_wearAll_b1_H xs L d r T o x1 x2 s) (X := f17_wearAll_b1_X xs L d r T o x1 x2 s) (f17_wearAll_b1_ok (xs := xs) (L := L) (d := d) (r := r) (T := T) (v0 := o) (v1 := x1) (v2 := x2) (s := s) g0) 20000 _ _ e18 hx17
def f18_timesTill_b1 (v0 : Nat) (v1 : Int32) (v2 : Int32) (v3 : Int32) (s : pv_F) (st : Int32 × Int32 × Int32) : Option ((Int32 × Int32 × Int32) ⊕ ((Int32 × Int32 × Int32) ⊕ Int32)) := match st with
  | (v4, v5, v6) =>
    if (12:Int32) < v6 then
      some (.inr (.inl (v4, v5, v6)))
    else
      if v4 = v2 then
        some (.inr (.inr v6))
      else
        ((
          if v5 = 0 then
            (f223_worn v4 v3).bind fun q20 =>
            some q20
          else
            some v4) : Option (Int32)).bind fun t8 =>
        (pv_rd s (v0 + 1) 7 v1).bind fun q9 =>
        ((
          if q9 = (4:Int32) then
            if v5 = 0 then
              some (1:Int32)
            else
              some (0:Int32)
          else
            some (0:Int32)) : Option (Int32)).bind fun t11 =>
        some (.inl (t8, t11, v6 + (1:Int32)))
def f18_timesTill_b1_H (xs : Nat → Int32) (L d : Nat) (r : Option Value × pv_M) (T : pv_T) (v0 : Nat) (v1 : Int32) (v2 : Int32) (v3 : Int32) (s : pv_F) (st : Int32 × Int32 × Int32) : Prop := match st with
  | (v4, v5, v6) => pv_Ev xs L (d + 2) 18 (0, 0, 37, [some (.ref v0), some (.int v1), some (.int v2), some (.int v3), some (.int v4), some (.int v5), some (.int v6)], [], pv_mm s T) r
def f18_timesTill_b1_X (xs : Nat → Int32) (L d : Nat) (r : Option Value × pv_M) (T : pv_T) (v0 : Nat) (v1 : Int32) (v2 : Int32) (v3 : Int32) (s : pv_F) (st : Int32 × Int32 × Int32) : Prop := match st with
  | (v4, v5, v6) => ∀ z4 : Option Value, ∀ z5 : Option Value, ∀ z6 : Option Value, pv_Ev xs L (d + 2) 18 (0, 0, 99, [some (.ref v0), some (.int v1), some (.int v2), some (.int v3), z4, z5, z6], [], pv_mm s T) r
def f18_timesTill (o : Nat) (x1 : Int32) (x2 : Int32) (x3 : Int32) (s : pv_F) : Option (Int32) :=
  (pv_rd s (o + 2) 7 x1).bind fun q1 =>
  (pv_rd s (o + 1) 7 x1).bind fun q3 =>
  ((
    if q3 = (4:Int32) then
      (pv_rd s (o + 3) 7 x1).bind fun q30 =>
      if q30 = 0 then
        some (1:Int32)
      else
        some (0:Int32)
    else
      some (0:Int32)) : Option (Int32)).bind fun t5 =>
  (pv_lp (f18_timesTill_b1 o x1 x2 x3 s) 20000 (q1, t5, (0:Int32))).bind fun o26 => match o26 with
    | .inl (w21, w22, w23) =>
      some (-9:Int32)
    | .inr q => some q
theorem f18_timesTill_b1_ok {xs : Nat → Int32} {L d : Nat} {r : Option Value × pv_M} {T : pv_T} {v0 : Nat} {v1 : Int32} {v2 : Int32} {v3 : Int32} {s : pv_F} (g0 : v0 ∈ pv_folks) (st : Int32 × Int32 × Int32) (o : (Int32 × Int32 × Int32) ⊕ ((Int32 × Int32 × Int32) ⊕ Int32)) (h : f18_timesTill_b1 v0 v1 v2 v3 s st = some o) (hK : pv_Kp (f18_timesTill_b1_H xs L d r T v0 v1 v2 v3 s) (f18_timesTill_b1_X xs L d r T v0 v1 v2 v3 s) (fun q => (some (.int q), pv_mm s T) = r) o) : f18_timesTill_b1_H xs L d r T v0 v1 v2 v3 s st := by
  obtain ⟨v4, v5, v6⟩ := st
  show pv_Ev xs L (d + 2) 18 (0, 0, 37, [some (.ref v0), some (.int v1), some (.int v2), some (.int v3), some (.int v4), some (.int v5), some (.int v6)], [], pv_mm s T) r
  unfold f18_timesTill_b1 at h
  dsimp only at h
  refine pv_e_bk (ps := [(37, .iload 6, 2), (39, .bipush 12, 2)]) (t' := (0, 0, 41, [some (.ref v0), some (.int v1), some (.int v2), some (.int v3), some (.int v4), some (.int v5), some (.int v6)], [.int (12:Int32), .int v6], pv_mm s T)) (by decide +kernel) rfl ?_
  refine pv_e_icmpgt (off := 58) (b := 99) (pc' := 44) (by decide +kernel) (by decide +kernel) rfl (fun c6 => ?_) (fun c6 => ?_)
  · rw [if_pos c6] at h
    obtain rfl := Option.some.inj h
    exact hK _ _ _
  · rw [if_neg c6] at h
    refine pv_e_bk (ps := [(44, .iload 4, 2), (46, .iload_n 2, 1)]) (t' := (0, 0, 47, [some (.ref v0), some (.int v1), some (.int v2), some (.int v3), some (.int v4), some (.int v5), some (.int v6)], [.int v2, .int v4], pv_mm s T)) (by decide +kernel) rfl ?_
    refine pv_e_icmpne (off := 6) (b := 53) (pc' := 50) (by decide +kernel) (by decide +kernel) rfl (fun c7 => ?_) (fun c7 => ?_)
    · rw [if_pos c7] at h
      refine pv_e_bk (ps := [(50, .iload 6, 2)]) (t' := (0, 0, 52, [some (.ref v0), some (.int v1), some (.int v2), some (.int v3), some (.int v4), some (.int v5), some (.int v6)], [.int v6], pv_mm s T)) (by decide +kernel) rfl ?_
      obtain rfl := Option.some.inj h
      cases hK
      exact pv_e_ri (by decide +kernel)
    · rw [if_neg c7] at h
      refine pv_e_bk (ps := [(53, .iload 5, 2)]) (t' := (0, 0, 55, [some (.ref v0), some (.int v1), some (.int v2), some (.int v3), some (.int v4), some (.int v5), some (.int v6)], [.int v5], pv_mm s T)) (by decide +kernel) rfl ?_
      obtain ⟨t8, hv16, h⟩ := Option.bind_eq_some_iff.mp h
      have hJ17 : pv_Ev xs L (d + 2) 18 (0, 0, 69, [some (.ref v0), some (.int v1), some (.int v2), some (.int v3), some (.int v4), some (.int v5), some (.int v6)], [.int t8], pv_mm s T) r := by
        refine pv_e_bk (ps := [(69, .istore 4, 2), (71, .aload_n 0, 1)]) (t' := (0, 0, 72, [some (.ref v0), some (.int v1), some (.int v2), some (.int v3), some (.int t8), some (.int v5), some (.int v6)], [.ref v0], pv_mm s T)) (by decide +kernel) rfl ?_
        refine pv_e_gr (i := 9) (ci := 1) (j := 0) (b := v0 + 1) (pc' := 75) (by decide +kernel) (fk g0).1 rfl rfl ?_
        refine pv_e_bk (ps := [(75, .iload_n 1, 1)]) (t' := (0, 0, 76, [some (.ref v0), some (.int v1), some (.int v2), some (.int v3), some (.int t8), some (.int v5), some (.int v6)], [.int v1, .ref (v0 + 1)], pv_mm s T)) (by decide +kernel) rfl ?_
        obtain ⟨q9, e10, h⟩ := Option.bind_eq_some_iff.mp h
        refine pv_e_rc (pc' := 77) (by decide +kernel) (by have := (fk g0).2.2.2.2; omega) (fk g0).2.1 e10 rfl ?_
        refine pv_e_bk (ps := [(77, .iconst 4, 1)]) (t' := (0, 0, 78, [some (.ref v0), some (.int v1), some (.int v2), some (.int v3), some (.int t8), some (.int v5), some (.int v6)], [.int (4:Int32), .int q9], pv_mm s T)) (by decide +kernel) rfl ?_
        obtain ⟨t11, hv12, h⟩ := Option.bind_eq_some_iff.mp h
        have hJ13 : pv_Ev xs L (d + 2) 18 (0, 0, 91, [some (.ref v0), some (.int v1), some (.int v2), some (.int v3), some (.int t8), some (.int v5), some (.int v6)], [.int t11], pv_mm s T) r := by
          refine pv_e_bk (ps := [(91, .istore 5, 2), (93, .iinc 6 1, 3), (96, .goto (-59), 3)]) (t' := (0, 0, 37, [some (.ref v0), some (.int v1), some (.int v2), some (.int v3), some (.int t8), some (.int t11), some (.int (v6 + (1:Int32)))], [], pv_mm s T)) (by decide +kernel) rfl ?_
          obtain rfl := Option.some.inj h
          exact hK
        clear h
        have h := hv12
        clear hv12
        refine pv_e_icmpne (off := 12) (b := 90) (pc' := 81) (by decide +kernel) (by decide +kernel) rfl (fun c14 => ?_) (fun c14 => ?_)
        · rw [if_pos c14] at h
          refine pv_e_bk (ps := [(81, .iload 5, 2)]) (t' := (0, 0, 83, [some (.ref v0), some (.int v1), some (.int v2), some (.int v3), some (.int t8), some (.int v5), some (.int v6)], [.int v5], pv_mm s T)) (by decide +kernel) rfl ?_
          refine pv_e_ifne (off := 7) (b := 90) (pc' := 86) (by decide +kernel) (by decide +kernel) rfl (fun c15 => ?_) (fun c15 => ?_)
          · rw [if_pos c15] at h
            refine pv_e_bk (ps := [(86, .iconst 1, 1), (87, .goto 4, 3)]) (t' := (0, 0, 91, [some (.ref v0), some (.int v1), some (.int v2), some (.int v3), some (.int t8), some (.int v5), some (.int v6)], [.int (1:Int32)], pv_mm s T)) (by decide +kernel) rfl ?_
            obtain rfl := Option.some.inj h
            exact hJ13
          · rw [if_neg c15] at h
            refine pv_e_bk (ps := [(90, .iconst 0, 1)]) (t' := (0, 0, 91, [some (.ref v0), some (.int v1), some (.int v2), some (.int v3), some (.int t8), some (.int v5), some (.int v6)], [.int (0:Int32)], pv_mm s T)) (by decide +kernel) rfl ?_
            obtain rfl := Option.some.inj h
            exact hJ13
        · rw [if_neg c14] at h
          refine pv_e_bk (ps := [(90, .iconst 0, 1)]) (t' := (0, 0, 91, [some (.ref v0), some (.int v1), some (.int v2), some (.int v3), some (.int t8), some (.int v5), some (.int v6)], [.int (0:Int32)], pv_mm s T)) (by decide +kernel) rfl ?_
          obtain rfl := Option.some.inj h
          exact hJ13
      clear h
      have h := hv16
      clear hv16
      refine pv_e_ifeq (off := 8) (b := 63) (pc' := 58) (by decide +kernel) (by decide +kernel) rfl (fun c18 => ?_) (fun c18 => ?_)
      · rw [if_pos c18] at h
        refine pv_e_bk (ps := [(63, .iload 4, 2), (65, .iload_n 3, 1)]) (t' := (0, 0, 66, [some (.ref v0), some (.int v1), some (.int v2), some (.int v3), some (.int v4), some (.int v5), some (.int v6)], [.int v3, .int v4], pv_mm s T)) (by decide +kernel) rfl ?_
        obtain ⟨q20, e19, h⟩ := Option.bind_eq_some_iff.mp h
        refine pv_e_csi (d := d + 1) (i := 76) (z := 223) (np := 2) (ml := 4) (As := [.int v4, .int v3]) (rs := []) (pc' := 69) (by decide +kernel) rfl rfl rfl (Nat.le_of_ble_eq_true rfl) (Nat.le_of_ble_eq_true rfl) rfl (ee223 (d + 0) v4 v3 e19) ?_
        obtain rfl := Option.some.inj h
        exact hJ17
      · rw [if_neg c18] at h
        refine pv_e_bk (ps := [(58, .iload 4, 2), (60, .goto 9, 3)]) (t' := (0, 0, 69, [some (.ref v0), some (.int v1), some (.int v2), some (.int v3), some (.int v4), some (.int v5), some (.int v6)], [.int v4], pv_mm s T)) (by decide +kernel) rfl ?_
        obtain rfl := Option.some.inj h
        exact hJ17
theorem ee18 {xs : Nat → Int32} {L : Nat} (d : Nat) (o : Nat) (x1 : Int32) (x2 : Int32) (x3 : Int32) {s : pv_F} {T : pv_T} {q : Int32} (g0 : o ∈ pv_folks) (h : f18_timesTill o x1 x2 x3 s = some q) : pv_Ev xs L (d + 2) 18 (0, 0, 0, [some (.ref o), some (.int x1), some (.int x2), some (.int x3), none, none, none], [], pv_mm s T) (some (.int q), pv_mm s T) := by
  generalize hr : ((some (.int q), pv_mm s T) : Option Value × pv_M) = r
  unfold f18_timesTill at h
  refine pv_e_bk (ps := [(0, .aload_n 0, 1)]) (t' := (0, 0, 1, [some (.ref o), some (.int x1), some (.int x2), some (.int x3), none, none, none], [.ref o], pv_mm s T)) (by decide +kernel) rfl ?_
  refine pv_e_gr (i := 15) (ci := 1) (j := 1) (b := o + 2) (pc' := 4) (by decide +kernel) (fk g0).1 rfl rfl ?_
  refine pv_e_bk (ps := [(4, .iload_n 1, 1)]) (t' := (0, 0, 5, [some (.ref o), some (.int x1), some (.int x2), some (.int x3), none, none, none], [.int x1, .ref (o + 2)], pv_mm s T)) (by decide +kernel) rfl ?_
  obtain ⟨q1, e2, h⟩ := Option.bind_eq_some_iff.mp h
  refine pv_e_rc (pc' := 6) (by decide +kernel) (by have := (fk g0).2.2.2.2; omega) (fk g0).2.2.1 e2 rfl ?_
  refine pv_e_bk (ps := [(6, .istore 4, 2), (8, .aload_n 0, 1)]) (t' := (0, 0, 9, [some (.ref o), some (.int x1), some (.int x2), some (.int x3), some (.int q1), none, none], [.ref o], pv_mm s T)) (by decide +kernel) rfl ?_
  refine pv_e_gr (i := 9) (ci := 1) (j := 0) (b := o + 1) (pc' := 12) (by decide +kernel) (fk g0).1 rfl rfl ?_
  refine pv_e_bk (ps := [(12, .iload_n 1, 1)]) (t' := (0, 0, 13, [some (.ref o), some (.int x1), some (.int x2), some (.int x3), some (.int q1), none, none], [.int x1, .ref (o + 1)], pv_mm s T)) (by decide +kernel) rfl ?_
  obtain ⟨q3, e4, h⟩ := Option.bind_eq_some_iff.mp h
  refine pv_e_rc (pc' := 14) (by decide +kernel) (by have := (fk g0).2.2.2.2; omega) (fk g0).2.1 e4 rfl ?_
  refine pv_e_bk (ps := [(14, .iconst 4, 1)]) (t' := (0, 0, 15, [some (.ref o), some (.int x1), some (.int x2), some (.int x3), some (.int q1), none, none], [.int (4:Int32), .int q3], pv_mm s T)) (by decide +kernel) rfl ?_
  obtain ⟨t5, hv27, h⟩ := Option.bind_eq_some_iff.mp h
  have hJ28 : pv_Ev xs L (d + 2) 18 (0, 0, 32, [some (.ref o), some (.int x1), some (.int x2), some (.int x3), some (.int q1), none, none], [.int t5], pv_mm s T) r := by
    refine pv_e_bk (ps := [(32, .istore 5, 2), (34, .iconst 0, 1), (35, .istore 6, 2)]) (t' := (0, 0, 37, [some (.ref o), some (.int x1), some (.int x2), some (.int x3), some (.int q1), some (.int t5), some (.int (0:Int32))], [], pv_mm s T)) (by decide +kernel) rfl ?_
    obtain ⟨o26, e25, h⟩ := Option.bind_eq_some_iff.mp h
    refine pv_lp_ok (H := f18_timesTill_b1_H xs L d r T o x1 x2 x3 s) (X := f18_timesTill_b1_X xs L d r T o x1 x2 x3 s) (Z := (fun q => (some (.int q), pv_mm s T) = r)) (f18_timesTill_b1_ok (xs := xs) (L := L) (d := d) (r := r) (T := T) (v0 := o) (v1 := x1) (v2 := x2) (v3 := x3) (s := s) g0) 20000 _ _ e25 ?_
    rcases o26 with ⟨w21, w22, w23⟩ | q
    · dsimp only at h ⊢
      show ∀ z4 : Option Value, ∀ z5 : Option Value, ∀ z6 : Option Value, pv_Ev xs L (d + 2) 18 (0, 0, 99, [some (.ref o), some (.int x1), some (.int x2), some (.int x3), z4, z5, z6], [], pv_mm s T) r
      intro z4 z5 z6
      refine pv_e_bk (ps := [(99, .bipush (-9), 2)]) (t' := (0, 0, 101, [some (.ref o), some (.int x1), some (.int x2), some (.int x3), z4, z5, z6], [.int (-9:Int32)], pv_mm s T)) (by decide +kernel) rfl ?_
      obtain rfl := Option.some.inj h
      cases hr
      exact pv_e_ri (by decide +kernel)
    · dsimp only at h ⊢
      obtain rfl := Option.some.inj h
      exact hr
  clear h
  have h := hv27
  clear hv27
  refine pv_e_icmpne (off := 16) (b := 31) (pc' := 18) (by decide +kernel) (by decide +kernel) rfl (fun c29 => ?_) (fun c29 => ?_)
  · rw [if_pos c29] at h
    refine pv_e_bk (ps := [(18, .aload_n 0, 1)]) (t' := (0, 0, 19, [some (.ref o), some (.int x1), some (.int x2), some (.int x3), some (.int q1), none, none], [.ref o], pv_mm s T)) (by decide +kernel) rfl ?_
    refine pv_e_gr (i := 18) (ci := 1) (j := 2) (b := o + 3) (pc' := 22) (by decide +kernel) (fk g0).1 rfl rfl ?_
    refine pv_e_bk (ps := [(22, .iload_n 1, 1)]) (t' := (0, 0, 23, [some (.ref o), some (.int x1), some (.int x2), some (.int x3), some (.int q1), none, none], [.int x1, .ref (o + 3)], pv_mm s T)) (by decide +kernel) rfl ?_
    obtain ⟨q30, e31, h⟩ := Option.bind_eq_some_iff.mp h
    refine pv_e_rc (pc' := 24) (by decide +kernel) (by have := (fk g0).2.2.2.2; omega) (fk g0).2.2.2.1 e31 rfl ?_
    refine pv_e_ifne (off := 7) (b := 31) (pc' := 27) (by decide +kernel) (by decide +kernel) rfl (fun c32 => ?_) (fun c32 => ?_)
    · rw [if_pos c32] at h
      refine pv_e_bk (ps := [(27, .iconst 1, 1), (28, .goto 4, 3)]) (t' := (0, 0, 32, [some (.ref o), some (.int x1), some (.int x2), some (.int x3), some (.int q1), none, none], [.int (1:Int32)], pv_mm s T)) (by decide +kernel) rfl ?_
      obtain rfl := Option.some.inj h
      exact hJ28
    · rw [if_neg c32] at h
      refine pv_e_bk (ps := [(31, .iconst 0, 1)]) (t' := (0, 0, 32, [some (.ref o), some (.int x1), some (.int x2), some (.int x3), some (.int q1), none, none], [.int (0:Int32)], pv_mm s T)) (by decide +kernel) rfl ?_
      obtain rfl := Option.some.inj h
      exact hJ28
  · rw [if_neg c29] at h
    refine pv_e_bk (ps := [(31, .iconst 0, 1)]) (t' := (0, 0, 32, [some (.ref o), some (.int x1), some (.int x2), some (.int x3), some (.int q1), none, none], [.int (0:Int32)], pv_mm s T)) (by decide +kernel) rfl ?_
    obtain rfl := Option.some.inj h
    exact hJ28
def f19_callsTillTaken_b1 (v0 : Nat) (v2 : Int32) (v3 : Int32) (s : pv_F) (st : Int32 × Int32) : Option ((Int32 × Int32) ⊕ (Int32 × Int32)) := match st with
  | (v4, v5) =>
    if (6:Int32) ≤ v5 then
      some (.inr (v4, v5))
    else
      if v4 = 0 then
        some (.inr (v4, v5))
      else
        (f13_named v0 v4 s).bind fun q4 =>
        if (q4 &&& (v2 ^^^ (-1:Int32))) = 0 then
          (f223_worn v4 v3).bind fun q7 =>
          some (.inl (q7, v5 + (1:Int32)))
        else
          some (.inr (v4, v5))
def f19_callsTillTaken_b1_H (xs : Nat → Int32) (L d : Nat) (r : Option Value × pv_M) (T : pv_T) (v0 : Nat) (v2 : Int32) (v3 : Int32) (s : pv_F) (v1 : Int32) (st : Int32 × Int32) : Prop := match st with
  | (v4, v5) => pv_Ev xs L (d + 2) 19 (0, 0, 6, [some (.ref v0), some (.int v1), some (.int v2), some (.int v3), some (.int v4), some (.int v5)], [], pv_mm s T) r
def f19_callsTillTaken_b1_X (xs : Nat → Int32) (L d : Nat) (r : Option Value × pv_M) (T : pv_T) (v0 : Nat) (v2 : Int32) (v3 : Int32) (s : pv_F) (v1 : Int32) (st : Int32 × Int32) : Prop := match st with
  | (v4, v5) => ∀ z4 : Option Value, pv_Ev xs L (d + 2) 19 (0, 0, 45, [some (.ref v0), some (.int v1), some (.int v2), some (.int v3), z4, some (.int v5)], [], pv_mm s T) r
def f19_callsTillTaken (o : Nat) (x1 : Int32) (x2 : Int32) (x3 : Int32) (s : pv_F) : Option (Int32) :=
  (pv_lq (f19_callsTillTaken_b1 o x2 x3 s) 20000 (x1, (0:Int32))).bind fun (w8, w9) =>
  some w9
theorem f19_callsTillTaken_b1_ok {xs : Nat → Int32} {L d : Nat} {r : Option Value × pv_M} {T : pv_T} {v0 : Nat} {v2 : Int32} {v3 : Int32} {s : pv_F} {v1 : Int32} (g0 : v0 ∈ pv_folks) (st : Int32 × Int32) (o : (Int32 × Int32) ⊕ (Int32 × Int32)) (h : f19_callsTillTaken_b1 v0 v2 v3 s st = some o) (hK : pv_Kq (f19_callsTillTaken_b1_H xs L d r T v0 v2 v3 s v1) (f19_callsTillTaken_b1_X xs L d r T v0 v2 v3 s v1) o) : f19_callsTillTaken_b1_H xs L d r T v0 v2 v3 s v1 st := by
  obtain ⟨v4, v5⟩ := st
  show pv_Ev xs L (d + 2) 19 (0, 0, 6, [some (.ref v0), some (.int v1), some (.int v2), some (.int v3), some (.int v4), some (.int v5)], [], pv_mm s T) r
  unfold f19_callsTillTaken_b1 at h
  dsimp only at h
  refine pv_e_bk (ps := [(6, .iload 5, 2), (8, .bipush 6, 2)]) (t' := (0, 0, 10, [some (.ref v0), some (.int v1), some (.int v2), some (.int v3), some (.int v4), some (.int v5)], [.int (6:Int32), .int v5], pv_mm s T)) (by decide +kernel) rfl ?_
  refine pv_e_icmpge (off := 35) (b := 45) (pc' := 13) (by decide +kernel) (by decide +kernel) rfl (fun c1 => ?_) (fun c1 => ?_)
  · rw [if_pos c1] at h
    obtain rfl := Option.some.inj h
    exact hK _
  · rw [if_neg c1] at h
    refine pv_e_bk (ps := [(13, .iload 4, 2)]) (t' := (0, 0, 15, [some (.ref v0), some (.int v1), some (.int v2), some (.int v3), some (.int v4), some (.int v5)], [.int v4], pv_mm s T)) (by decide +kernel) rfl ?_
    refine pv_e_ifeq (off := 30) (b := 45) (pc' := 18) (by decide +kernel) (by decide +kernel) rfl (fun c2 => ?_) (fun c2 => ?_)
    · rw [if_pos c2] at h
      obtain rfl := Option.some.inj h
      exact hK _
    · rw [if_neg c2] at h
      refine pv_e_bk (ps := [(18, .aload_n 0, 1), (19, .iload 4, 2)]) (t' := (0, 0, 21, [some (.ref v0), some (.int v1), some (.int v2), some (.int v3), some (.int v4), some (.int v5)], [.int v4, .ref v0], pv_mm s T)) (by decide +kernel) rfl ?_
      obtain ⟨q4, e3, h⟩ := Option.bind_eq_some_iff.mp h
      refine pv_e_cvi (d := d + 1) (i := 66) (z := 13) (np := 1) (ml := 4) (ci := 1) (As := [.int v4]) (rs := []) (pc' := 24) (by decide +kernel) (fk g0).1 rfl rfl rfl (Nat.le_of_ble_eq_true rfl) (Nat.le_of_ble_eq_true rfl) rfl (ee13 (d + 0) v0 v4 g0 e3) ?_
      refine pv_e_bk (ps := [(24, .iload_n 2, 1), (25, .iconst (-1), 1), (26, .ixor, 1), (27, .iand, 1)]) (t' := (0, 0, 28, [some (.ref v0), some (.int v1), some (.int v2), some (.int v3), some (.int v4), some (.int v5)], [.int (q4 &&& (v2 ^^^ (-1:Int32)))], pv_mm s T)) (by decide +kernel) rfl ?_
      refine pv_e_ifne (off := 17) (b := 45) (pc' := 31) (by decide +kernel) (by decide +kernel) rfl (fun c5 => ?_) (fun c5 => ?_)
      · rw [if_pos c5] at h
        refine pv_e_bk (ps := [(31, .iload 4, 2), (33, .iload_n 3, 1)]) (t' := (0, 0, 34, [some (.ref v0), some (.int v1), some (.int v2), some (.int v3), some (.int v4), some (.int v5)], [.int v3, .int v4], pv_mm s T)) (by decide +kernel) rfl ?_
        obtain ⟨q7, e6, h⟩ := Option.bind_eq_some_iff.mp h
        refine pv_e_csi (d := d + 1) (i := 76) (z := 223) (np := 2) (ml := 4) (As := [.int v4, .int v3]) (rs := []) (pc' := 37) (by decide +kernel) rfl rfl rfl (Nat.le_of_ble_eq_true rfl) (Nat.le_of_ble_eq_true rfl) rfl (ee223 (d + 0) v4 v3 e6) ?_
        refine pv_e_bk (ps := [(37, .istore 4, 2), (39, .iinc 5 1, 3), (42, .goto (-36), 3)]) (t' := (0, 0, 6, [some (.ref v0), some (.int v1), some (.int v2), some (.int v3), some (.int q7), some (.int (v5 + (1:Int32)))], [], pv_mm s T)) (by decide +kernel) rfl ?_
        obtain rfl := Option.some.inj h
        exact hK
      · rw [if_neg c5] at h
        obtain rfl := Option.some.inj h
        exact hK _
theorem ee19 {xs : Nat → Int32} {L : Nat} (d : Nat) (o : Nat) (x1 : Int32) (x2 : Int32) (x3 : Int32) {s : pv_F} {T : pv_T} {q : Int32} (g0 : o ∈ pv_folks) (h : f19_callsTillTaken o x1 x2 x3 s = some q) : pv_Ev xs L (d + 2) 19 (0, 0, 0, [some (.ref o), some (.int x1), some (.int x2), some (.int x3), none, none], [], pv_mm s T) (some (.int q), pv_mm s T) := by
  generalize hr : ((some (.int q), pv_mm s T) : Option Value × pv_M) = r
  unfold f19_callsTillTaken at h
  refine pv_e_bk (ps := [(0, .iload_n 1, 1), (1, .istore 4, 2), (3, .iconst 0, 1), (4, .istore 5, 2)]) (t' := (0, 0, 6, [some (.ref o), some (.int x1), some (.int x2), some (.int x3), some (.int x1), some (.int (0:Int32))], [], pv_mm s T)) (by decide +kernel) rfl ?_
  obtain ⟨⟨w8, w9⟩, e11, h⟩ := Option.bind_eq_some_iff.mp h
  dsimp only at h
  have hx10 : f19_callsTillTaken_b1_X xs L d r T o x2 x3 s x1 (w8, w9) := by
    show ∀ z4 : Option Value, pv_Ev xs L (d + 2) 19 (0, 0, 45, [some (.ref o), some (.int x1), some (.int x2), some (.int x3), z4, some (.int w9)], [], pv_mm s T) r
    intro z4
    refine pv_e_bk (ps := [(45, .iload 5, 2)]) (t' := (0, 0, 47, [some (.ref o), some (.int x1), some (.int x2), some (.int x3), z4, some (.int w9)], [.int w9], pv_mm s T)) (by decide +kernel) rfl ?_
    obtain rfl := Option.some.inj h
    cases hr
    exact pv_e_ri (by decide +kernel)
  exact pv_lq_ok (H := f19_callsTillTaken_b1_H xs L d r T o x2 x3 s x1) (X := f19_callsTillTaken_b1_X xs L d r T o x2 x3 s x1) (f19_callsTillTaken_b1_ok (xs := xs) (L := L) (d := d) (r := r) (T := T) (v0 := o) (v2 := x2) (v3 := x3) (s := s) (v1 := x1) g0) 20000 _ _ e11 hx10
def f20_living_b1 (v0 : Nat) (s : pv_F) (st : Int32 × Int32) : Option ((Int32 × Int32) ⊕ (Int32 × Int32)) := match st with
  | (v1, v2) =>
    if (s v0 3) ≤ v2 then
      some (.inr (v1, v2))
    else
      (f9_lives v0 v2 s).bind fun q3 =>
      ((
        if q3 = 0 then
          some (0:Int32)
        else
          some (1:Int32)) : Option (Int32)).bind fun t4 =>
      some (.inl (v1 + t4, v2 + (1:Int32)))
def f20_living_b1_H (xs : Nat → Int32) (L d : Nat) (r : Option Value × pv_M) (T : pv_T) (v0 : Nat) (s : pv_F) (st : Int32 × Int32) : Prop := match st with
  | (v1, v2) => pv_Ev xs L (d + 1) 20 (0, 0, 4, [some (.ref v0), some (.int v1), some (.int v2)], [], pv_mm s T) r
def f20_living_b1_X (xs : Nat → Int32) (L d : Nat) (r : Option Value × pv_M) (T : pv_T) (v0 : Nat) (s : pv_F) (st : Int32 × Int32) : Prop := match st with
  | (v1, v2) => ∀ z2 : Option Value, pv_Ev xs L (d + 1) 20 (0, 0, 34, [some (.ref v0), some (.int v1), z2], [], pv_mm s T) r
def f20_living (o : Nat) (s : pv_F) : Option (Int32) :=
  (pv_lq (f20_living_b1 o s) 20000 ((0:Int32), (0:Int32))).bind fun (w8, w9) =>
  some w8
theorem f20_living_b1_ok {xs : Nat → Int32} {L d : Nat} {r : Option Value × pv_M} {T : pv_T} {v0 : Nat} {s : pv_F} (g0 : v0 ∈ pv_folks) (st : Int32 × Int32) (o : (Int32 × Int32) ⊕ (Int32 × Int32)) (h : f20_living_b1 v0 s st = some o) (hK : pv_Kq (f20_living_b1_H xs L d r T v0 s) (f20_living_b1_X xs L d r T v0 s) o) : f20_living_b1_H xs L d r T v0 s st := by
  obtain ⟨v1, v2⟩ := st
  show pv_Ev xs L (d + 1) 20 (0, 0, 4, [some (.ref v0), some (.int v1), some (.int v2)], [], pv_mm s T) r
  unfold f20_living_b1 at h
  dsimp only at h
  refine pv_e_bk (ps := [(4, .iload_n 2, 1), (5, .aload_n 0, 1)]) (t' := (0, 0, 6, [some (.ref v0), some (.int v1), some (.int v2)], [.ref v0, .int v2], pv_mm s T)) (by decide +kernel) rfl ?_
  refine pv_e_gc (i := 21) (ci := 1) (j := 3) (pc' := 9) (by decide +kernel) (by have := (fk g0).2.2.2.2; omega) (fk g0).1 rfl rfl ?_
  refine pv_e_icmpge (off := 25) (b := 34) (pc' := 12) (by decide +kernel) (by decide +kernel) rfl (fun c1 => ?_) (fun c1 => ?_)
  · rw [if_pos c1] at h
    obtain rfl := Option.some.inj h
    exact hK _
  · rw [if_neg c1] at h
    refine pv_e_bk (ps := [(12, .iload_n 1, 1), (13, .aload_n 0, 1), (14, .iload_n 2, 1)]) (t' := (0, 0, 15, [some (.ref v0), some (.int v1), some (.int v2)], [.int v2, .ref v0, .int v1], pv_mm s T)) (by decide +kernel) rfl ?_
    obtain ⟨q3, e2, h⟩ := Option.bind_eq_some_iff.mp h
    refine pv_e_cvi (d := d + 0) (i := 53) (z := 9) (np := 1) (ml := 2) (ci := 1) (As := [.int v2]) (rs := [.int v1]) (pc' := 18) (by decide +kernel) (fk g0).1 rfl rfl rfl (Nat.le_of_ble_eq_true rfl) (Nat.le_of_ble_eq_true rfl) rfl (ee9 (d + 0) v0 v2 g0 e2) ?_
    obtain ⟨t4, hv5, h⟩ := Option.bind_eq_some_iff.mp h
    have hJ6 : pv_Ev xs L (d + 1) 20 (0, 0, 26, [some (.ref v0), some (.int v1), some (.int v2)], [.int t4, .int v1], pv_mm s T) r := by
      refine pv_e_bk (ps := [(26, .iadd, 1), (27, .istore_n 1, 1), (28, .iinc 2 1, 3), (31, .goto (-27), 3)]) (t' := (0, 0, 4, [some (.ref v0), some (.int (v1 + t4)), some (.int (v2 + (1:Int32)))], [], pv_mm s T)) (by decide +kernel) rfl ?_
      obtain rfl := Option.some.inj h
      exact hK
    clear h
    have h := hv5
    clear hv5
    refine pv_e_ifeq (off := 7) (b := 25) (pc' := 21) (by decide +kernel) (by decide +kernel) rfl (fun c7 => ?_) (fun c7 => ?_)
    · rw [if_pos c7] at h
      refine pv_e_bk (ps := [(25, .iconst 0, 1)]) (t' := (0, 0, 26, [some (.ref v0), some (.int v1), some (.int v2)], [.int (0:Int32), .int v1], pv_mm s T)) (by decide +kernel) rfl ?_
      obtain rfl := Option.some.inj h
      exact hJ6
    · rw [if_neg c7] at h
      refine pv_e_bk (ps := [(21, .iconst 1, 1), (22, .goto 4, 3)]) (t' := (0, 0, 26, [some (.ref v0), some (.int v1), some (.int v2)], [.int (1:Int32), .int v1], pv_mm s T)) (by decide +kernel) rfl ?_
      obtain rfl := Option.some.inj h
      exact hJ6
theorem ee20 {xs : Nat → Int32} {L : Nat} (d : Nat) (o : Nat) {s : pv_F} {T : pv_T} {q : Int32} (g0 : o ∈ pv_folks) (h : f20_living o s = some q) : pv_Ev xs L (d + 1) 20 (0, 0, 0, [some (.ref o), none, none], [], pv_mm s T) (some (.int q), pv_mm s T) := by
  generalize hr : ((some (.int q), pv_mm s T) : Option Value × pv_M) = r
  unfold f20_living at h
  refine pv_e_bk (ps := [(0, .iconst 0, 1), (1, .istore_n 1, 1), (2, .iconst 0, 1), (3, .istore_n 2, 1)]) (t' := (0, 0, 4, [some (.ref o), some (.int (0:Int32)), some (.int (0:Int32))], [], pv_mm s T)) (by decide +kernel) rfl ?_
  obtain ⟨⟨w8, w9⟩, e11, h⟩ := Option.bind_eq_some_iff.mp h
  dsimp only at h
  have hx10 : f20_living_b1_X xs L d r T o s (w8, w9) := by
    show ∀ z2 : Option Value, pv_Ev xs L (d + 1) 20 (0, 0, 34, [some (.ref o), some (.int w8), z2], [], pv_mm s T) r
    intro z2
    refine pv_e_bk (ps := [(34, .iload_n 1, 1)]) (t' := (0, 0, 35, [some (.ref o), some (.int w8), z2], [.int w8], pv_mm s T)) (by decide +kernel) rfl ?_
    obtain rfl := Option.some.inj h
    cases hr
    exact pv_e_ri (by decide +kernel)
  exact pv_lq_ok (H := f20_living_b1_H xs L d r T o s) (X := f20_living_b1_X xs L d r T o s) (f20_living_b1_ok (xs := xs) (L := L) (d := d) (r := r) (T := T) (v0 := o) (s := s) g0) 20000 _ _ e11 hx10
def f224_bitCount (x0 : Int32) : Option (Int32) :=
  some ((((((((x0 - ((pv_ush x0 (1:Int32)) &&& (1431655765:Int32))) &&& (858993459:Int32)) + ((pv_ush (x0 - ((pv_ush x0 (1:Int32)) &&& (1431655765:Int32))) (2:Int32)) &&& (858993459:Int32))) + (pv_ush (((x0 - ((pv_ush x0 (1:Int32)) &&& (1431655765:Int32))) &&& (858993459:Int32)) + ((pv_ush (x0 - ((pv_ush x0 (1:Int32)) &&& (1431655765:Int32))) (2:Int32)) &&& (858993459:Int32))) (4:Int32))) &&& (252645135:Int32)) + (pv_ush (((((x0 - ((pv_ush x0 (1:Int32)) &&& (1431655765:Int32))) &&& (858993459:Int32)) + ((pv_ush (x0 - ((pv_ush x0 (1:Int32)) &&& (1431655765:Int32))) (2:Int32)) &&& (858993459:Int32))) + (pv_ush (((x0 - ((pv_ush x0 (1:Int32)) &&& (1431655765:Int32))) &&& (858993459:Int32)) + ((pv_ush (x0 - ((pv_ush x0 (1:Int32)) &&& (1431655765:Int32))) (2:Int32)) &&& (858993459:Int32))) (4:Int32))) &&& (252645135:Int32)) (8:Int32))) + (pv_ush ((((((x0 - ((pv_ush x0 (1:Int32)) &&& (1431655765:Int32))) &&& (858993459:Int32)) + ((pv_ush (x0 - ((pv_ush x0 (1:Int32)) &&& (1431655765:Int32))) (2:Int32)) &&& (858993459:Int32))) + (pv_ush (((x0 - ((pv_ush x0 (1:Int32)) &&& (1431655765:Int32))) &&& (858993459:Int32)) + ((pv_ush (x0 - ((pv_ush x0 (1:Int32)) &&& (1431655765:Int32))) (2:Int32)) &&& (858993459:Int32))) (4:Int32))) &&& (252645135:Int32)) + (pv_ush (((((x0 - ((pv_ush x0 (1:Int32)) &&& (1431655765:Int32))) &&& (858993459:Int32)) + ((pv_ush (x0 - ((pv_ush x0 (1:Int32)) &&& (1431655765:Int32))) (2:Int32)) &&& (858993459:Int32))) + (pv_ush (((x0 - ((pv_ush x0 (1:Int32)) &&& (1431655765:Int32))) &&& (858993459:Int32)) + ((pv_ush (x0 - ((pv_ush x0 (1:Int32)) &&& (1431655765:Int32))) (2:Int32)) &&& (858993459:Int32))) (4:Int32))) &&& (252645135:Int32)) (8:Int32))) (16:Int32))) &&& (63:Int32))
theorem ee224 {xs : Nat → Int32} {L : Nat} (d : Nat) (x0 : Int32) {M : pv_M} {q : Int32}  (h : f224_bitCount x0 = some q) : pv_Ev xs L (d + 0) 224 (0, 0, 0, [some (.int x0)], [], M) (some (.int q), M) := by
  generalize hr : ((some (.int q), M) : Option Value × pv_M) = r
  unfold f224_bitCount at h
  refine pv_e_bk (ps := [(0, .iload_n 0, 1), (1, .iload_n 0, 1), (2, .iconst 1, 1), (3, .iushr, 1), (4, .ldc_w 265, 3), (7, .iand, 1), (8, .isub, 1), (9, .istore_n 0, 1), (10, .iload_n 0, 1), (11, .ldc_w 266, 3), (14, .iand, 1), (15, .iload_n 0, 1), (16, .iconst 2, 1), (17, .iushr, 1), (18, .ldc_w 266, 3), (21, .iand, 1), (22, .iadd, 1), (23, .istore_n 0, 1), (24, .iload_n 0, 1), (25, .iload_n 0, 1), (26, .iconst 4, 1), (27, .iushr, 1), (28, .iadd, 1), (29, .ldc_w 267, 3), (32, .iand, 1), (33, .istore_n 0, 1), (34, .iload_n 0, 1), (35, .iload_n 0, 1), (36, .bipush 8, 2), (38, .iushr, 1), (39, .iadd, 1), (40, .istore_n 0, 1), (41, .iload_n 0, 1), (42, .iload_n 0, 1), (43, .bipush 16, 2), (45, .iushr, 1), (46, .iadd, 1), (47, .istore_n 0, 1), (48, .iload_n 0, 1), (49, .bipush 63, 2), (51, .iand, 1)]) (t' := (0, 0, 52, [some (.int (((((((x0 - ((pv_ush x0 (1:Int32)) &&& (1431655765:Int32))) &&& (858993459:Int32)) + ((pv_ush (x0 - ((pv_ush x0 (1:Int32)) &&& (1431655765:Int32))) (2:Int32)) &&& (858993459:Int32))) + (pv_ush (((x0 - ((pv_ush x0 (1:Int32)) &&& (1431655765:Int32))) &&& (858993459:Int32)) + ((pv_ush (x0 - ((pv_ush x0 (1:Int32)) &&& (1431655765:Int32))) (2:Int32)) &&& (858993459:Int32))) (4:Int32))) &&& (252645135:Int32)) + (pv_ush (((((x0 - ((pv_ush x0 (1:Int32)) &&& (1431655765:Int32))) &&& (858993459:Int32)) + ((pv_ush (x0 - ((pv_ush x0 (1:Int32)) &&& (1431655765:Int32))) (2:Int32)) &&& (858993459:Int32))) + (pv_ush (((x0 - ((pv_ush x0 (1:Int32)) &&& (1431655765:Int32))) &&& (858993459:Int32)) + ((pv_ush (x0 - ((pv_ush x0 (1:Int32)) &&& (1431655765:Int32))) (2:Int32)) &&& (858993459:Int32))) (4:Int32))) &&& (252645135:Int32)) (8:Int32))) + (pv_ush ((((((x0 - ((pv_ush x0 (1:Int32)) &&& (1431655765:Int32))) &&& (858993459:Int32)) + ((pv_ush (x0 - ((pv_ush x0 (1:Int32)) &&& (1431655765:Int32))) (2:Int32)) &&& (858993459:Int32))) + (pv_ush (((x0 - ((pv_ush x0 (1:Int32)) &&& (1431655765:Int32))) &&& (858993459:Int32)) + ((pv_ush (x0 - ((pv_ush x0 (1:Int32)) &&& (1431655765:Int32))) (2:Int32)) &&& (858993459:Int32))) (4:Int32))) &&& (252645135:Int32)) + (pv_ush (((((x0 - ((pv_ush x0 (1:Int32)) &&& (1431655765:Int32))) &&& (858993459:Int32)) + ((pv_ush (x0 - ((pv_ush x0 (1:Int32)) &&& (1431655765:Int32))) (2:Int32)) &&& (858993459:Int32))) + (pv_ush (((x0 - ((pv_ush x0 (1:Int32)) &&& (1431655765:Int32))) &&& (858993459:Int32)) + ((pv_ush (x0 - ((pv_ush x0 (1:Int32)) &&& (1431655765:Int32))) (2:Int32)) &&& (858993459:Int32))) (4:Int32))) &&& (252645135:Int32)) (8:Int32))) (16:Int32))))], [.int ((((((((x0 - ((pv_ush x0 (1:Int32)) &&& (1431655765:Int32))) &&& (858993459:Int32)) + ((pv_ush (x0 - ((pv_ush x0 (1:Int32)) &&& (1431655765:Int32))) (2:Int32)) &&& (858993459:Int32))) + (pv_ush (((x0 - ((pv_ush x0 (1:Int32)) &&& (1431655765:Int32))) &&& (858993459:Int32)) + ((pv_ush (x0 - ((pv_ush x0 (1:Int32)) &&& (1431655765:Int32))) (2:Int32)) &&& (858993459:Int32))) (4:Int32))) &&& (252645135:Int32)) + (pv_ush (((((x0 - ((pv_ush x0 (1:Int32)) &&& (1431655765:Int32))) &&& (858993459:Int32)) + ((pv_ush (x0 - ((pv_ush x0 (1:Int32)) &&& (1431655765:Int32))) (2:Int32)) &&& (858993459:Int32))) + (pv_ush (((x0 - ((pv_ush x0 (1:Int32)) &&& (1431655765:Int32))) &&& (858993459:Int32)) + ((pv_ush (x0 - ((pv_ush x0 (1:Int32)) &&& (1431655765:Int32))) (2:Int32)) &&& (858993459:Int32))) (4:Int32))) &&& (252645135:Int32)) (8:Int32))) + (pv_ush ((((((x0 - ((pv_ush x0 (1:Int32)) &&& (1431655765:Int32))) &&& (858993459:Int32)) + ((pv_ush (x0 - ((pv_ush x0 (1:Int32)) &&& (1431655765:Int32))) (2:Int32)) &&& (858993459:Int32))) + (pv_ush (((x0 - ((pv_ush x0 (1:Int32)) &&& (1431655765:Int32))) &&& (858993459:Int32)) + ((pv_ush (x0 - ((pv_ush x0 (1:Int32)) &&& (1431655765:Int32))) (2:Int32)) &&& (858993459:Int32))) (4:Int32))) &&& (252645135:Int32)) + (pv_ush (((((x0 - ((pv_ush x0 (1:Int32)) &&& (1431655765:Int32))) &&& (858993459:Int32)) + ((pv_ush (x0 - ((pv_ush x0 (1:Int32)) &&& (1431655765:Int32))) (2:Int32)) &&& (858993459:Int32))) + (pv_ush (((x0 - ((pv_ush x0 (1:Int32)) &&& (1431655765:Int32))) &&& (858993459:Int32)) + ((pv_ush (x0 - ((pv_ush x0 (1:Int32)) &&& (1431655765:Int32))) (2:Int32)) &&& (858993459:Int32))) (4:Int32))) &&& (252645135:Int32)) (8:Int32))) (16:Int32))) &&& (63:Int32))], M)) (by decide +kernel) rfl ?_
  obtain rfl := Option.some.inj h
  cases hr
  exact pv_e_ri (by decide +kernel)
def f21_nameless (o : Nat) (s : pv_F) : Option (Int32) :=
  (f13_named o (0:Int32) s).bind fun q2 =>
  (f224_bitCount q2).bind fun q4 =>
  some q4
theorem ee21 {xs : Nat → Int32} {L : Nat} (d : Nat) (o : Nat) {s : pv_F} {T : pv_T} {q : Int32} (g0 : o ∈ pv_folks) (h : f21_nameless o s = some q) : pv_Ev xs L (d + 2) 21 (0, 0, 0, [some (.ref o)], [], pv_mm s T) (some (.int q), pv_mm s T) := by
  generalize hr : ((some (.int q), pv_mm s T) : Option Value × pv_M) = r
  unfold f21_nameless at h
  refine pv_e_bk (ps := [(0, .aload_n 0, 1), (1, .iconst 0, 1)]) (t' := (0, 0, 2, [some (.ref o)], [.int (0:Int32), .ref o], pv_mm s T)) (by decide +kernel) rfl ?_
  obtain ⟨q2, e1, h⟩ := Option.bind_eq_some_iff.mp h
  refine pv_e_cvi (d := d + 1) (i := 66) (z := 13) (np := 1) (ml := 4) (ci := 1) (As := [.int (0:Int32)]) (rs := []) (pc' := 5) (by decide +kernel) (fk g0).1 rfl rfl rfl (Nat.le_of_ble_eq_true rfl) (Nat.le_of_ble_eq_true rfl) rfl (ee13 (d + 0) o (0:Int32) g0 e1) ?_
  obtain ⟨q4, e3, h⟩ := Option.bind_eq_some_iff.mp h
  refine pv_e_csi (d := d + 1) (i := 79) (z := 224) (np := 1) (ml := 1) (As := [.int q2]) (rs := []) (pc' := 8) (by decide +kernel) rfl rfl rfl (Nat.le_of_ble_eq_true rfl) (Nat.le_of_ble_eq_true rfl) rfl (ee224 (d + 1) q2 e3) ?_
  obtain rfl := Option.some.inj h
  cases hr
  exact pv_e_ri (by decide +kernel)
def f22_unlikeNames_b1 (v0 : Nat) (s : pv_F) (st : Int32 × Int32) : Option ((Int32 × Int32) ⊕ (Int32 × Int32)) := match st with
  | (v1, v2) =>
    if (s v0 3) ≤ v2 then
      some (.inr (v1, v2))
    else
      (pv_rd s (v0 + 2) 7 v2).bind fun q2 =>
      (f13_named v0 q2 s).bind fun q5 =>
      ((
        if (q5 &&& (((1:Int32) <<< (v2 &&& 31)) - (1:Int32))) = 0 then
          some (1:Int32)
        else
          some (0:Int32)) : Option (Int32)).bind fun t6 =>
      (f9_lives v0 v2 s).bind fun q8 =>
      ((
        if q8 = 0 then
          some (0:Int32)
        else
          (pv_rd s (v0 + 2) 7 v2).bind fun q13 =>
          if q13 = 0 then
            some (0:Int32)
          else
            if t6 = 0 then
              some (0:Int32)
            else
              some (1:Int32)) : Option (Int32)).bind fun t9 =>
      some (.inl (v1 + t9, v2 + (1:Int32)))
def f22_unlikeNames_b1_H (xs : Nat → Int32) (L d : Nat) (r : Option Value × pv_M) (T : pv_T) (v0 : Nat) (s : pv_F) (st : Int32 × Int32) : Prop := match st with
  | (v1, v2) => ∀ z3 : Option Value, pv_Ev xs L (d + 2) 22 (0, 0, 4, [some (.ref v0), some (.int v1), some (.int v2), z3], [], pv_mm s T) r
def f22_unlikeNames_b1_X (xs : Nat → Int32) (L d : Nat) (r : Option Value × pv_M) (T : pv_T) (v0 : Nat) (s : pv_F) (st : Int32 × Int32) : Prop := match st with
  | (v1, v2) => ∀ z2 : Option Value, ∀ z3 : Option Value, pv_Ev xs L (d + 2) 22 (0, 0, 72, [some (.ref v0), some (.int v1), z2, z3], [], pv_mm s T) r
def f22_unlikeNames (o : Nat) (s : pv_F) : Option (Int32) :=
  (pv_lq (f22_unlikeNames_b1 o s) 20000 ((0:Int32), (0:Int32))).bind fun (w20, w21) =>
  some w20
theorem f22_unlikeNames_b1_ok {xs : Nat → Int32} {L d : Nat} {r : Option Value × pv_M} {T : pv_T} {v0 : Nat} {s : pv_F} (g0 : v0 ∈ pv_folks) (st : Int32 × Int32) (o : (Int32 × Int32) ⊕ (Int32 × Int32)) (h : f22_unlikeNames_b1 v0 s st = some o) (hK : pv_Kq (f22_unlikeNames_b1_H xs L d r T v0 s) (f22_unlikeNames_b1_X xs L d r T v0 s) o) : f22_unlikeNames_b1_H xs L d r T v0 s st := by
  obtain ⟨v1, v2⟩ := st
  show ∀ z3 : Option Value, pv_Ev xs L (d + 2) 22 (0, 0, 4, [some (.ref v0), some (.int v1), some (.int v2), z3], [], pv_mm s T) r
  intro z3
  unfold f22_unlikeNames_b1 at h
  dsimp only at h
  refine pv_e_bk (ps := [(4, .iload_n 2, 1), (5, .aload_n 0, 1)]) (t' := (0, 0, 6, [some (.ref v0), some (.int v1), some (.int v2), z3], [.ref v0, .int v2], pv_mm s T)) (by decide +kernel) rfl ?_
  refine pv_e_gc (i := 21) (ci := 1) (j := 3) (pc' := 9) (by decide +kernel) (by have := (fk g0).2.2.2.2; omega) (fk g0).1 rfl rfl ?_
  refine pv_e_icmpge (off := 63) (b := 72) (pc' := 12) (by decide +kernel) (by decide +kernel) rfl (fun c1 => ?_) (fun c1 => ?_)
  · rw [if_pos c1] at h
    obtain rfl := Option.some.inj h
    exact hK _ _
  · rw [if_neg c1] at h
    refine pv_e_bk (ps := [(12, .aload_n 0, 1), (13, .aload_n 0, 1)]) (t' := (0, 0, 14, [some (.ref v0), some (.int v1), some (.int v2), z3], [.ref v0, .ref v0], pv_mm s T)) (by decide +kernel) rfl ?_
    refine pv_e_gr (i := 15) (ci := 1) (j := 1) (b := v0 + 2) (pc' := 17) (by decide +kernel) (fk g0).1 rfl rfl ?_
    refine pv_e_bk (ps := [(17, .iload_n 2, 1)]) (t' := (0, 0, 18, [some (.ref v0), some (.int v1), some (.int v2), z3], [.int v2, .ref (v0 + 2), .ref v0], pv_mm s T)) (by decide +kernel) rfl ?_
    obtain ⟨q2, e3, h⟩ := Option.bind_eq_some_iff.mp h
    refine pv_e_rc (pc' := 19) (by decide +kernel) (by have := (fk g0).2.2.2.2; omega) (fk g0).2.2.1 e3 rfl ?_
    obtain ⟨q5, e4, h⟩ := Option.bind_eq_some_iff.mp h
    refine pv_e_cvi (d := d + 1) (i := 66) (z := 13) (np := 1) (ml := 4) (ci := 1) (As := [.int q2]) (rs := []) (pc' := 22) (by decide +kernel) (fk g0).1 rfl rfl rfl (Nat.le_of_ble_eq_true rfl) (Nat.le_of_ble_eq_true rfl) rfl (ee13 (d + 0) v0 q2 g0 e4) ?_
    refine pv_e_bk (ps := [(22, .iconst 1, 1), (23, .iload_n 2, 1), (24, .ishl, 1), (25, .iconst 1, 1), (26, .isub, 1), (27, .iand, 1)]) (t' := (0, 0, 28, [some (.ref v0), some (.int v1), some (.int v2), z3], [.int (q5 &&& (((1:Int32) <<< (v2 &&& 31)) - (1:Int32)))], pv_mm s T)) (by decide +kernel) rfl ?_
    obtain ⟨t6, hv17, h⟩ := Option.bind_eq_some_iff.mp h
    have hJ18 : pv_Ev xs L (d + 2) 22 (0, 0, 36, [some (.ref v0), some (.int v1), some (.int v2), z3], [.int t6], pv_mm s T) r := by
      refine pv_e_bk (ps := [(36, .istore_n 3, 1), (37, .iload_n 1, 1), (38, .aload_n 0, 1), (39, .iload_n 2, 1)]) (t' := (0, 0, 40, [some (.ref v0), some (.int v1), some (.int v2), some (.int t6)], [.int v2, .ref v0, .int v1], pv_mm s T)) (by decide +kernel) rfl ?_
      obtain ⟨q8, e7, h⟩ := Option.bind_eq_some_iff.mp h
      refine pv_e_cvi (d := d + 1) (i := 53) (z := 9) (np := 1) (ml := 2) (ci := 1) (As := [.int v2]) (rs := [.int v1]) (pc' := 43) (by decide +kernel) (fk g0).1 rfl rfl rfl (Nat.le_of_ble_eq_true rfl) (Nat.le_of_ble_eq_true rfl) rfl (ee9 (d + 1) v0 v2 g0 e7) ?_
      obtain ⟨t9, hv10, h⟩ := Option.bind_eq_some_iff.mp h
      have hJ11 : pv_Ev xs L (d + 2) 22 (0, 0, 64, [some (.ref v0), some (.int v1), some (.int v2), some (.int t6)], [.int t9, .int v1], pv_mm s T) r := by
        refine pv_e_bk (ps := [(64, .iadd, 1), (65, .istore_n 1, 1), (66, .iinc 2 1, 3), (69, .goto (-65), 3)]) (t' := (0, 0, 4, [some (.ref v0), some (.int (v1 + t9)), some (.int (v2 + (1:Int32))), some (.int t6)], [], pv_mm s T)) (by decide +kernel) rfl ?_
        obtain rfl := Option.some.inj h
        exact hK _
      clear h
      have h := hv10
      clear hv10
      refine pv_e_ifeq (off := 20) (b := 63) (pc' := 46) (by decide +kernel) (by decide +kernel) rfl (fun c12 => ?_) (fun c12 => ?_)
      · rw [if_pos c12] at h
        refine pv_e_bk (ps := [(63, .iconst 0, 1)]) (t' := (0, 0, 64, [some (.ref v0), some (.int v1), some (.int v2), some (.int t6)], [.int (0:Int32), .int v1], pv_mm s T)) (by decide +kernel) rfl ?_
        obtain rfl := Option.some.inj h
        exact hJ11
      · rw [if_neg c12] at h
        refine pv_e_bk (ps := [(46, .aload_n 0, 1)]) (t' := (0, 0, 47, [some (.ref v0), some (.int v1), some (.int v2), some (.int t6)], [.ref v0, .int v1], pv_mm s T)) (by decide +kernel) rfl ?_
        refine pv_e_gr (i := 15) (ci := 1) (j := 1) (b := v0 + 2) (pc' := 50) (by decide +kernel) (fk g0).1 rfl rfl ?_
        refine pv_e_bk (ps := [(50, .iload_n 2, 1)]) (t' := (0, 0, 51, [some (.ref v0), some (.int v1), some (.int v2), some (.int t6)], [.int v2, .ref (v0 + 2), .int v1], pv_mm s T)) (by decide +kernel) rfl ?_
        obtain ⟨q13, e14, h⟩ := Option.bind_eq_some_iff.mp h
        refine pv_e_rc (pc' := 52) (by decide +kernel) (by have := (fk g0).2.2.2.2; omega) (fk g0).2.2.1 e14 rfl ?_
        refine pv_e_ifeq (off := 11) (b := 63) (pc' := 55) (by decide +kernel) (by decide +kernel) rfl (fun c15 => ?_) (fun c15 => ?_)
        · rw [if_pos c15] at h
          refine pv_e_bk (ps := [(63, .iconst 0, 1)]) (t' := (0, 0, 64, [some (.ref v0), some (.int v1), some (.int v2), some (.int t6)], [.int (0:Int32), .int v1], pv_mm s T)) (by decide +kernel) rfl ?_
          obtain rfl := Option.some.inj h
          exact hJ11
        · rw [if_neg c15] at h
          refine pv_e_bk (ps := [(55, .iload_n 3, 1)]) (t' := (0, 0, 56, [some (.ref v0), some (.int v1), some (.int v2), some (.int t6)], [.int t6, .int v1], pv_mm s T)) (by decide +kernel) rfl ?_
          refine pv_e_ifeq (off := 7) (b := 63) (pc' := 59) (by decide +kernel) (by decide +kernel) rfl (fun c16 => ?_) (fun c16 => ?_)
          · rw [if_pos c16] at h
            refine pv_e_bk (ps := [(63, .iconst 0, 1)]) (t' := (0, 0, 64, [some (.ref v0), some (.int v1), some (.int v2), some (.int t6)], [.int (0:Int32), .int v1], pv_mm s T)) (by decide +kernel) rfl ?_
            obtain rfl := Option.some.inj h
            exact hJ11
          · rw [if_neg c16] at h
            refine pv_e_bk (ps := [(59, .iconst 1, 1), (60, .goto 4, 3)]) (t' := (0, 0, 64, [some (.ref v0), some (.int v1), some (.int v2), some (.int t6)], [.int (1:Int32), .int v1], pv_mm s T)) (by decide +kernel) rfl ?_
            obtain rfl := Option.some.inj h
            exact hJ11
    clear h
    have h := hv17
    clear hv17
    refine pv_e_ifne (off := 7) (b := 35) (pc' := 31) (by decide +kernel) (by decide +kernel) rfl (fun c19 => ?_) (fun c19 => ?_)
    · rw [if_pos c19] at h
      refine pv_e_bk (ps := [(31, .iconst 1, 1), (32, .goto 4, 3)]) (t' := (0, 0, 36, [some (.ref v0), some (.int v1), some (.int v2), z3], [.int (1:Int32)], pv_mm s T)) (by decide +kernel) rfl ?_
      obtain rfl := Option.some.inj h
      exact hJ18
    · rw [if_neg c19] at h
      refine pv_e_bk (ps := [(35, .iconst 0, 1)]) (t' := (0, 0, 36, [some (.ref v0), some (.int v1), some (.int v2), z3], [.int (0:Int32)], pv_mm s T)) (by decide +kernel) rfl ?_
      obtain rfl := Option.some.inj h
      exact hJ18
theorem ee22 {xs : Nat → Int32} {L : Nat} (d : Nat) (o : Nat) {s : pv_F} {T : pv_T} {q : Int32} (g0 : o ∈ pv_folks) (h : f22_unlikeNames o s = some q) : pv_Ev xs L (d + 2) 22 (0, 0, 0, [some (.ref o), none, none, none], [], pv_mm s T) (some (.int q), pv_mm s T) := by
  generalize hr : ((some (.int q), pv_mm s T) : Option Value × pv_M) = r
  unfold f22_unlikeNames at h
  refine pv_e_bk (ps := [(0, .iconst 0, 1), (1, .istore_n 1, 1), (2, .iconst 0, 1), (3, .istore_n 2, 1)]) (t' := (0, 0, 4, [some (.ref o), some (.int (0:Int32)), some (.int (0:Int32)), none], [], pv_mm s T)) (by decide +kernel) rfl ?_
  obtain ⟨⟨w20, w21⟩, e23, h⟩ := Option.bind_eq_some_iff.mp h
  dsimp only at h
  have hx22 : f22_unlikeNames_b1_X xs L d r T o s (w20, w21) := by
    show ∀ z2 : Option Value, ∀ z3 : Option Value, pv_Ev xs L (d + 2) 22 (0, 0, 72, [some (.ref o), some (.int w20), z2, z3], [], pv_mm s T) r
    intro z2 z3
    refine pv_e_bk (ps := [(72, .iload_n 1, 1)]) (t' := (0, 0, 73, [some (.ref o), some (.int w20), z2, z3], [.int w20], pv_mm s T)) (by decide +kernel) rfl ?_
    obtain rfl := Option.some.inj h
    cases hr
    exact pv_e_ri (by decide +kernel)
  exact pv_lq_ok (H := f22_unlikeNames_b1_H xs L d r T o s) (X := f22_unlikeNames_b1_X xs L d r T o s) (f22_unlikeNames_b1_ok (xs := xs) (L := L) (d := d) (r := r) (T := T) (v0 := o) (s := s) g0) 20000 _ _ e23 hx22 _
def f23_letters_b1 (v0 : Nat) (s : pv_F) (st : Int32 × Int32) : Option ((Int32 × Int32) ⊕ (Int32 × Int32)) := match st with
  | (v1, v2) =>
    if (s v0 3) ≤ v2 then
      some (.inr (v1, v2))
    else
      (pv_rd s (v0 + 2) 7 v2).bind fun q2 =>
      (f218_size q2).bind fun q5 =>
      some (.inl (v1 + q5, v2 + (1:Int32)))
def f23_letters_b1_H (xs : Nat → Int32) (L d : Nat) (r : Option Value × pv_M) (T : pv_T) (v0 : Nat) (s : pv_F) (st : Int32 × Int32) : Prop := match st with
  | (v1, v2) => pv_Ev xs L (d + 1) 23 (0, 0, 4, [some (.ref v0), some (.int v1), some (.int v2)], [], pv_mm s T) r
def f23_letters_b1_X (xs : Nat → Int32) (L d : Nat) (r : Option Value × pv_M) (T : pv_T) (v0 : Nat) (s : pv_F) (st : Int32 × Int32) : Prop := match st with
  | (v1, v2) => ∀ z2 : Option Value, pv_Ev xs L (d + 1) 23 (0, 0, 30, [some (.ref v0), some (.int v1), z2], [], pv_mm s T) r
def f23_letters (o : Nat) (s : pv_F) : Option (Int32) :=
  (pv_lq (f23_letters_b1 o s) 20000 ((0:Int32), (0:Int32))).bind fun (w6, w7) =>
  some w6
theorem f23_letters_b1_ok {xs : Nat → Int32} {L d : Nat} {r : Option Value × pv_M} {T : pv_T} {v0 : Nat} {s : pv_F} (g0 : v0 ∈ pv_folks) (st : Int32 × Int32) (o : (Int32 × Int32) ⊕ (Int32 × Int32)) (h : f23_letters_b1 v0 s st = some o) (hK : pv_Kq (f23_letters_b1_H xs L d r T v0 s) (f23_letters_b1_X xs L d r T v0 s) o) : f23_letters_b1_H xs L d r T v0 s st := by
  obtain ⟨v1, v2⟩ := st
  show pv_Ev xs L (d + 1) 23 (0, 0, 4, [some (.ref v0), some (.int v1), some (.int v2)], [], pv_mm s T) r
  unfold f23_letters_b1 at h
  dsimp only at h
  refine pv_e_bk (ps := [(4, .iload_n 2, 1), (5, .aload_n 0, 1)]) (t' := (0, 0, 6, [some (.ref v0), some (.int v1), some (.int v2)], [.ref v0, .int v2], pv_mm s T)) (by decide +kernel) rfl ?_
  refine pv_e_gc (i := 21) (ci := 1) (j := 3) (pc' := 9) (by decide +kernel) (by have := (fk g0).2.2.2.2; omega) (fk g0).1 rfl rfl ?_
  refine pv_e_icmpge (off := 21) (b := 30) (pc' := 12) (by decide +kernel) (by decide +kernel) rfl (fun c1 => ?_) (fun c1 => ?_)
  · rw [if_pos c1] at h
    obtain rfl := Option.some.inj h
    exact hK _
  · rw [if_neg c1] at h
    refine pv_e_bk (ps := [(12, .iload_n 1, 1), (13, .aload_n 0, 1)]) (t' := (0, 0, 14, [some (.ref v0), some (.int v1), some (.int v2)], [.ref v0, .int v1], pv_mm s T)) (by decide +kernel) rfl ?_
    refine pv_e_gr (i := 15) (ci := 1) (j := 1) (b := v0 + 2) (pc' := 17) (by decide +kernel) (fk g0).1 rfl rfl ?_
    refine pv_e_bk (ps := [(17, .iload_n 2, 1)]) (t' := (0, 0, 18, [some (.ref v0), some (.int v1), some (.int v2)], [.int v2, .ref (v0 + 2), .int v1], pv_mm s T)) (by decide +kernel) rfl ?_
    obtain ⟨q2, e3, h⟩ := Option.bind_eq_some_iff.mp h
    refine pv_e_rc (pc' := 19) (by decide +kernel) (by have := (fk g0).2.2.2.2; omega) (fk g0).2.2.1 e3 rfl ?_
    obtain ⟨q5, e4, h⟩ := Option.bind_eq_some_iff.mp h
    refine pv_e_csi (d := d + 0) (i := 43) (z := 218) (np := 1) (ml := 2) (As := [.int q2]) (rs := [.int v1]) (pc' := 22) (by decide +kernel) rfl rfl rfl (Nat.le_of_ble_eq_true rfl) (Nat.le_of_ble_eq_true rfl) rfl (ee218 (d + 0) q2 e4) ?_
    refine pv_e_bk (ps := [(22, .iadd, 1), (23, .istore_n 1, 1), (24, .iinc 2 1, 3), (27, .goto (-23), 3)]) (t' := (0, 0, 4, [some (.ref v0), some (.int (v1 + q5)), some (.int (v2 + (1:Int32)))], [], pv_mm s T)) (by decide +kernel) rfl ?_
    obtain rfl := Option.some.inj h
    exact hK
theorem ee23 {xs : Nat → Int32} {L : Nat} (d : Nat) (o : Nat) {s : pv_F} {T : pv_T} {q : Int32} (g0 : o ∈ pv_folks) (h : f23_letters o s = some q) : pv_Ev xs L (d + 1) 23 (0, 0, 0, [some (.ref o), none, none], [], pv_mm s T) (some (.int q), pv_mm s T) := by
  generalize hr : ((some (.int q), pv_mm s T) : Option Value × pv_M) = r
  unfold f23_letters at h
  refine pv_e_bk (ps := [(0, .iconst 0, 1), (1, .istore_n 1, 1), (2, .iconst 0, 1), (3, .istore_n 2, 1)]) (t' := (0, 0, 4, [some (.ref o), some (.int (0:Int32)), some (.int (0:Int32))], [], pv_mm s T)) (by decide +kernel) rfl ?_
  obtain ⟨⟨w6, w7⟩, e9, h⟩ := Option.bind_eq_some_iff.mp h
  dsimp only at h
  have hx8 : f23_letters_b1_X xs L d r T o s (w6, w7) := by
    show ∀ z2 : Option Value, pv_Ev xs L (d + 1) 23 (0, 0, 30, [some (.ref o), some (.int w6), z2], [], pv_mm s T) r
    intro z2
    refine pv_e_bk (ps := [(30, .iload_n 1, 1)]) (t' := (0, 0, 31, [some (.ref o), some (.int w6), z2], [.int w6], pv_mm s T)) (by decide +kernel) rfl ?_
    obtain rfl := Option.some.inj h
    cases hr
    exact pv_e_ri (by decide +kernel)
  exact pv_lq_ok (H := f23_letters_b1_H xs L d r T o s) (X := f23_letters_b1_X xs L d r T o s) (f23_letters_b1_ok (xs := xs) (L := L) (d := d) (r := r) (T := T) (v0 := o) (s := s) g0) 20000 _ _ e9 hx8
def f24_mothers_b1 (v0 : Nat) (s : pv_F) (st : Int32 × Int32) : Option ((Int32 × Int32) ⊕ (Int32 × Int32)) := match st with
  | (v1, v2) =>
    if (s v0 3) ≤ v2 then
      some (.inr (v1, v2))
    else
      (f8_is v0 v2 (1:Int32) s).bind fun q3 =>
      ((
        if q3 = 0 then
          some (0:Int32)
        else
          some (1:Int32)) : Option (Int32)).bind fun t4 =>
      some (.inl (v1 + t4, v2 + (1:Int32)))
def f24_mothers_b1_H (xs : Nat → Int32) (L d : Nat) (r : Option Value × pv_M) (T : pv_T) (v0 : Nat) (s : pv_F) (st : Int32 × Int32) : Prop := match st with
  | (v1, v2) => pv_Ev xs L (d + 1) 24 (0, 0, 4, [some (.ref v0), some (.int v1), some (.int v2)], [], pv_mm s T) r
def f24_mothers_b1_X (xs : Nat → Int32) (L d : Nat) (r : Option Value × pv_M) (T : pv_T) (v0 : Nat) (s : pv_F) (st : Int32 × Int32) : Prop := match st with
  | (v1, v2) => ∀ z2 : Option Value, pv_Ev xs L (d + 1) 24 (0, 0, 35, [some (.ref v0), some (.int v1), z2], [], pv_mm s T) r
def f24_mothers (o : Nat) (s : pv_F) : Option (Int32) :=
  (pv_lq (f24_mothers_b1 o s) 20000 ((0:Int32), (0:Int32))).bind fun (w8, w9) =>
  some w8
theorem f24_mothers_b1_ok {xs : Nat → Int32} {L d : Nat} {r : Option Value × pv_M} {T : pv_T} {v0 : Nat} {s : pv_F} (g0 : v0 ∈ pv_folks) (st : Int32 × Int32) (o : (Int32 × Int32) ⊕ (Int32 × Int32)) (h : f24_mothers_b1 v0 s st = some o) (hK : pv_Kq (f24_mothers_b1_H xs L d r T v0 s) (f24_mothers_b1_X xs L d r T v0 s) o) : f24_mothers_b1_H xs L d r T v0 s st := by
  obtain ⟨v1, v2⟩ := st
  show pv_Ev xs L (d + 1) 24 (0, 0, 4, [some (.ref v0), some (.int v1), some (.int v2)], [], pv_mm s T) r
  unfold f24_mothers_b1 at h
  dsimp only at h
  refine pv_e_bk (ps := [(4, .iload_n 2, 1), (5, .aload_n 0, 1)]) (t' := (0, 0, 6, [some (.ref v0), some (.int v1), some (.int v2)], [.ref v0, .int v2], pv_mm s T)) (by decide +kernel) rfl ?_
  refine pv_e_gc (i := 21) (ci := 1) (j := 3) (pc' := 9) (by decide +kernel) (by have := (fk g0).2.2.2.2; omega) (fk g0).1 rfl rfl ?_
  refine pv_e_icmpge (off := 26) (b := 35) (pc' := 12) (by decide +kernel) (by decide +kernel) rfl (fun c1 => ?_) (fun c1 => ?_)
  · rw [if_pos c1] at h
    obtain rfl := Option.some.inj h
    exact hK _
  · rw [if_neg c1] at h
    refine pv_e_bk (ps := [(12, .iload_n 1, 1), (13, .aload_n 0, 1), (14, .iload_n 2, 1), (15, .iconst 1, 1)]) (t' := (0, 0, 16, [some (.ref v0), some (.int v1), some (.int v2)], [.int (1:Int32), .int v2, .ref v0, .int v1], pv_mm s T)) (by decide +kernel) rfl ?_
    obtain ⟨q3, e2, h⟩ := Option.bind_eq_some_iff.mp h
    refine pv_e_cvi (d := d + 0) (i := 69) (z := 8) (np := 2) (ml := 3) (ci := 1) (As := [.int v2, .int (1:Int32)]) (rs := [.int v1]) (pc' := 19) (by decide +kernel) (fk g0).1 rfl rfl rfl (Nat.le_of_ble_eq_true rfl) (Nat.le_of_ble_eq_true rfl) rfl (ee8 (d + 0) v0 v2 (1:Int32) g0 e2) ?_
    obtain ⟨t4, hv5, h⟩ := Option.bind_eq_some_iff.mp h
    have hJ6 : pv_Ev xs L (d + 1) 24 (0, 0, 27, [some (.ref v0), some (.int v1), some (.int v2)], [.int t4, .int v1], pv_mm s T) r := by
      refine pv_e_bk (ps := [(27, .iadd, 1), (28, .istore_n 1, 1), (29, .iinc 2 1, 3), (32, .goto (-28), 3)]) (t' := (0, 0, 4, [some (.ref v0), some (.int (v1 + t4)), some (.int (v2 + (1:Int32)))], [], pv_mm s T)) (by decide +kernel) rfl ?_
      obtain rfl := Option.some.inj h
      exact hK
    clear h
    have h := hv5
    clear hv5
    refine pv_e_ifeq (off := 7) (b := 26) (pc' := 22) (by decide +kernel) (by decide +kernel) rfl (fun c7 => ?_) (fun c7 => ?_)
    · rw [if_pos c7] at h
      refine pv_e_bk (ps := [(26, .iconst 0, 1)]) (t' := (0, 0, 27, [some (.ref v0), some (.int v1), some (.int v2)], [.int (0:Int32), .int v1], pv_mm s T)) (by decide +kernel) rfl ?_
      obtain rfl := Option.some.inj h
      exact hJ6
    · rw [if_neg c7] at h
      refine pv_e_bk (ps := [(22, .iconst 1, 1), (23, .goto 4, 3)]) (t' := (0, 0, 27, [some (.ref v0), some (.int v1), some (.int v2)], [.int (1:Int32), .int v1], pv_mm s T)) (by decide +kernel) rfl ?_
      obtain rfl := Option.some.inj h
      exact hJ6
theorem ee24 {xs : Nat → Int32} {L : Nat} (d : Nat) (o : Nat) {s : pv_F} {T : pv_T} {q : Int32} (g0 : o ∈ pv_folks) (h : f24_mothers o s = some q) : pv_Ev xs L (d + 1) 24 (0, 0, 0, [some (.ref o), none, none], [], pv_mm s T) (some (.int q), pv_mm s T) := by
  generalize hr : ((some (.int q), pv_mm s T) : Option Value × pv_M) = r
  unfold f24_mothers at h
  refine pv_e_bk (ps := [(0, .iconst 0, 1), (1, .istore_n 1, 1), (2, .iconst 0, 1), (3, .istore_n 2, 1)]) (t' := (0, 0, 4, [some (.ref o), some (.int (0:Int32)), some (.int (0:Int32))], [], pv_mm s T)) (by decide +kernel) rfl ?_
  obtain ⟨⟨w8, w9⟩, e11, h⟩ := Option.bind_eq_some_iff.mp h
  dsimp only at h
  have hx10 : f24_mothers_b1_X xs L d r T o s (w8, w9) := by
    show ∀ z2 : Option Value, pv_Ev xs L (d + 1) 24 (0, 0, 35, [some (.ref o), some (.int w8), z2], [], pv_mm s T) r
    intro z2
    refine pv_e_bk (ps := [(35, .iload_n 1, 1)]) (t' := (0, 0, 36, [some (.ref o), some (.int w8), z2], [.int w8], pv_mm s T)) (by decide +kernel) rfl ?_
    obtain rfl := Option.some.inj h
    cases hr
    exact pv_e_ri (by decide +kernel)
  exact pv_lq_ok (H := f24_mothers_b1_H xs L d r T o s) (X := f24_mothers_b1_X xs L d r T o s) (f24_mothers_b1_ok (xs := xs) (L := L) (d := d) (r := r) (T := T) (v0 := o) (s := s) g0) 20000 _ _ e11 hx10
def f26_renew_b1 (v0 : Nat) (v1 : Int32) (v2 : Int32) (st : Int32 × pv_F) : Option ((Int32 × pv_F) ⊕ (Int32 × pv_F)) := match st with
  | (v3, s) =>
    if v1 ≤ v3 then
      some (.inr (v3, s))
    else
      (pv_wr s (v0 + 1) (pv_an (v0 + 1)) v3 v2).bind fun s6 =>
      some (.inl (v3 + (1:Int32), s6))
def f26_renew_b1_H (xs : Nat → Int32) (L d : Nat) (r : Option Value × pv_M) (T : pv_T) (v0 : Nat) (v1 : Int32) (v2 : Int32) (st : Int32 × pv_F) : Prop := match st with
  | (v3, s) => pv_Ev xs L (d + 0) 26 (0, 0, 12, [some (.ref v0), some (.int v1), some (.int v2), some (.int v3)], [], pv_mm s T) r
def f26_renew_b1_X (xs : Nat → Int32) (L d : Nat) (r : Option Value × pv_M) (T : pv_T) (v0 : Nat) (v1 : Int32) (v2 : Int32) (st : Int32 × pv_F) : Prop := match st with
  | (v3, s) => ∀ z3 : Option Value, pv_Ev xs L (d + 0) 26 (0, 0, 30, [some (.ref v0), some (.int v1), some (.int v2), z3], [], pv_mm s T) r
def f26_renew (o : Nat) (x1 : Int32) (x2 : Int32) (s : pv_F) : Option (pv_F) :=
  (pv_pf s o 1 (1:Int32)).bind fun s1 =>
  (pv_pf s1 o 2 x1).bind fun s3 =>
  (pv_lq (f26_renew_b1 o x1 x2) 20000 ((0:Int32), s3)).bind fun (w8, s9) =>
  some s9
theorem f26_renew_b1_ok {xs : Nat → Int32} {L d : Nat} {r : Option Value × pv_M} {T : pv_T} {v0 : Nat} {v1 : Int32} {v2 : Int32} (g0 : v0 ∈ pv_rows) (st : Int32 × pv_F) (o : (Int32 × pv_F) ⊕ (Int32 × pv_F)) (h : f26_renew_b1 v0 v1 v2 st = some o) (hK : pv_Kq (f26_renew_b1_H xs L d r T v0 v1 v2) (f26_renew_b1_X xs L d r T v0 v1 v2) o) : f26_renew_b1_H xs L d r T v0 v1 v2 st := by
  obtain ⟨v3, s⟩ := st
  show pv_Ev xs L (d + 0) 26 (0, 0, 12, [some (.ref v0), some (.int v1), some (.int v2), some (.int v3)], [], pv_mm s T) r
  unfold f26_renew_b1 at h
  dsimp only at h
  refine pv_e_bk (ps := [(12, .iload_n 3, 1), (13, .iload_n 1, 1)]) (t' := (0, 0, 14, [some (.ref v0), some (.int v1), some (.int v2), some (.int v3)], [.int v1, .int v3], pv_mm s T)) (by decide +kernel) rfl ?_
  refine pv_e_icmpge (off := 16) (b := 30) (pc' := 17) (by decide +kernel) (by decide +kernel) rfl (fun c5 => ?_) (fun c5 => ?_)
  · rw [if_pos c5] at h
    obtain rfl := Option.some.inj h
    exact hK _
  · rw [if_neg c5] at h
    refine pv_e_bk (ps := [(17, .aload_n 0, 1)]) (t' := (0, 0, 18, [some (.ref v0), some (.int v1), some (.int v2), some (.int v3)], [.ref v0], pv_mm s T)) (by decide +kernel) rfl ?_
    refine pv_e_gr (i := 19) (ci := 2) (j := 0) (b := v0 + 1) (pc' := 21) (by decide +kernel) (rw_ g0).1 rfl rfl ?_
    refine pv_e_bk (ps := [(21, .iload_n 3, 1), (22, .iload_n 2, 1)]) (t' := (0, 0, 23, [some (.ref v0), some (.int v1), some (.int v2), some (.int v3)], [.int v2, .int v3, .ref (v0 + 1)], pv_mm s T)) (by decide +kernel) rfl ?_
    obtain ⟨s6, e7, h⟩ := Option.bind_eq_some_iff.mp h
    refine pv_e_wc (pc' := 24) (by decide +kernel) (rw_ g0).2.2 (rw_ g0).2.1 e7 rfl ?_
    refine pv_e_bk (ps := [(24, .iinc 3 1, 3), (27, .goto (-15), 3)]) (t' := (0, 0, 12, [some (.ref v0), some (.int v1), some (.int v2), some (.int (v3 + (1:Int32)))], [], pv_mm s6 T)) (by decide +kernel) rfl ?_
    obtain rfl := Option.some.inj h
    exact hK
theorem ee26 {xs : Nat → Int32} {L : Nat} (d : Nat) (o : Nat) (x1 : Int32) (x2 : Int32) {s : pv_F} {T : pv_T} {q : pv_F} (g0 : o ∈ pv_rows) (h : f26_renew o x1 x2 s = some q) : pv_Ev xs L (d + 0) 26 (0, 0, 0, [some (.ref o), some (.int x1), some (.int x2), none], [], pv_mm s T) (none, pv_mm q T) := by
  generalize hr : ((none, pv_mm q T) : Option Value × pv_M) = r
  unfold f26_renew at h
  refine pv_e_bk (ps := [(0, .aload_n 0, 1), (1, .iconst 1, 1)]) (t' := (0, 0, 2, [some (.ref o), some (.int x1), some (.int x2), none], [.int (1:Int32), .ref o], pv_mm s T)) (by decide +kernel) rfl ?_
  obtain ⟨s1, e2, h⟩ := Option.bind_eq_some_iff.mp h
  refine pv_e_pcs (i := 9) (ci := 2) (j := 1) (pc' := 5) (by decide +kernel) (by decide +kernel) (by decide +kernel) (by have := (rw_ g0).2.2; omega) (rw_ g0).1 rfl e2 rfl ?_
  refine pv_e_bk (ps := [(5, .aload_n 0, 1), (6, .iload_n 1, 1)]) (t' := (0, 0, 7, [some (.ref o), some (.int x1), some (.int x2), none], [.int x1, .ref o], pv_mm s1 T)) (by decide +kernel) rfl ?_
  obtain ⟨s3, e4, h⟩ := Option.bind_eq_some_iff.mp h
  refine pv_e_pcs (i := 15) (ci := 2) (j := 2) (pc' := 10) (by decide +kernel) rfl rfl (by have := (rw_ g0).2.2; omega) (rw_ g0).1 rfl e4 rfl ?_
  refine pv_e_bk (ps := [(10, .iconst 0, 1), (11, .istore_n 3, 1)]) (t' := (0, 0, 12, [some (.ref o), some (.int x1), some (.int x2), some (.int (0:Int32))], [], pv_mm s3 T)) (by decide +kernel) rfl ?_
  obtain ⟨⟨w8, s9⟩, e11, h⟩ := Option.bind_eq_some_iff.mp h
  dsimp only at h
  have hx10 : f26_renew_b1_X xs L d r T o x1 x2 (w8, s9) := by
    show ∀ z3 : Option Value, pv_Ev xs L (d + 0) 26 (0, 0, 30, [some (.ref o), some (.int x1), some (.int x2), z3], [], pv_mm s9 T) r
    intro z3
    obtain rfl := Option.some.inj h
    cases hr
    exact pv_e_rv (by decide +kernel)
  exact pv_lq_ok (H := f26_renew_b1_H xs L d r T o x1 x2) (X := f26_renew_b1_X xs L d r T o x1 x2) (f26_renew_b1_ok (xs := xs) (L := L) (d := d) (r := r) (T := T) (v0 := o) (v1 := x1) (v2 := x2) g0) 20000 _ _ e11 hx10
