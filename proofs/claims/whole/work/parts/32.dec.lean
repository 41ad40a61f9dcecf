-- printed by wip/whole/gen/parts.py: methods as functions over the ints of the memory, and that the pure machine runs so
def f97_digest_b1 (s : pv_F) (st : Int64 × Int32) : Option ((Int64 × Int32) ⊕ (Int64 × Int32)) := match st with
  | (v1, v3) =>
    if (9:Int32) ≤ v3 then
      some (.inr (v1, v3))
    else
      (f94_count v3 s).bind fun q3 =>
      some (.inl (((31:Int64) * v1) + q3.toInt64, v3 + (1:Int32)))
def f97_digest_b1_H (xs : Nat → Int32) (L d : Nat) (r : Option Value × pv_M) (T : pv_T) (s : pv_F) (st : Int64 × Int32) : Prop := match st with
  | (v1, v3) => pv_Ev xs L (d + 4) 97 (0, 0, 6, [some (.ref 0), some (.long v1), none, some (.int v3)], [], pv_mm s T) r
def f97_digest_b1_X (xs : Nat → Int32) (L d : Nat) (r : Option Value × pv_M) (T : pv_T) (s : pv_F) (st : Int64 × Int32) : Prop := match st with
  | (v1, v3) => ∀ z3 : Option Value, pv_Ev xs L (d + 4) 97 (0, 0, 31, [some (.ref 0), some (.long v1), none, z3], [], pv_mm s T) r
def f97_digest_b2 (s : pv_F) (st : Int64 × Int32) : Option ((Int64 × Int32) ⊕ (Int64 × Int32)) := match st with
  | (v1, v3) =>
    if (6:Int32) ≤ v3 then
      some (.inr (v1, v3))
    else
      (pv_ra 1 6 v3).bind fun o9 =>
      (f31_mixedInto o9 v1 s).bind fun q13 =>
      some (.inl (q13, v3 + (1:Int32)))
def f97_digest_b2_H (xs : Nat → Int32) (L d : Nat) (r : Option Value × pv_M) (T : pv_T) (s : pv_F) (st : Int64 × Int32) : Prop := match st with
  | (v1, v3) => pv_Ev xs L (d + 4) 97 (0, 0, 66, [some (.ref 0), some (.long v1), none, some (.int v3)], [], pv_mm s T) r
def f97_digest_b2_X (xs : Nat → Int32) (L d : Nat) (r : Option Value × pv_M) (T : pv_T) (s : pv_F) (st : Int64 × Int32) : Prop := match st with
  | (v1, v3) => ∀ z3 : Option Value, pv_Ev xs L (d + 4) 97 (0, 0, 89, [some (.ref 0), some (.long v1), none, z3], [], pv_mm s T) r
def f97_digest_b3 (s : pv_F) (st : Int64 × Int32) : Option ((Int64 × Int32) ⊕ (Int64 × Int32)) := match st with
  | (v1, v3) =>
    if (4:Int32) ≤ v3 then
      some (.inr (v1, v3))
    else
      (pv_ra 2 4 v3).bind fun o17 =>
      (f31_mixedInto o17 v1 s).bind fun q21 =>
      some (.inl (q21, v3 + (1:Int32)))
def f97_digest_b3_H (xs : Nat → Int32) (L d : Nat) (r : Option Value × pv_M) (T : pv_T) (s : pv_F) (st : Int64 × Int32) : Prop := match st with
  | (v1, v3) => pv_Ev xs L (d + 4) 97 (0, 0, 91, [some (.ref 0), some (.long v1), none, some (.int v3)], [], pv_mm s T) r
def f97_digest_b3_X (xs : Nat → Int32) (L d : Nat) (r : Option Value × pv_M) (T : pv_T) (s : pv_F) (st : Int64 × Int32) : Prop := match st with
  | (v1, v3) => ∀ z3 : Option Value, pv_Ev xs L (d + 4) 97 (0, 0, 113, [some (.ref 0), some (.long v1), none, z3], [], pv_mm s T) r
def f97_digest (s : pv_F) : Option (Int64) :=
  (pv_lq (f97_digest_b1 s) 20000 ((17:Int64), (0:Int32))).bind fun (w4, w5) =>
  (f51_mixedInto (((31:Int64) * (((31:Int64) * w4) + ((s 0 6).toInt64))) + ((s 0 7).toInt64)) s).bind fun q7 =>
  (pv_lq (f97_digest_b2 s) 20000 (q7, (0:Int32))).bind fun (w14, w15) =>
  (pv_lq (f97_digest_b3 s) 20000 (w14, (0:Int32))).bind fun (w22, w23) =>
  some w22
theorem f97_digest_b1_ok {xs : Nat → Int32} {L d : Nat} {r : Option Value × pv_M} {T : pv_T} {s : pv_F} (st : Int64 × Int32) (o : (Int64 × Int32) ⊕ (Int64 × Int32)) (h : f97_digest_b1 s st = some o) (hK : pv_Kq (f97_digest_b1_H xs L d r T s) (f97_digest_b1_X xs L d r T s) o) : f97_digest_b1_H xs L d r T s st := by
  obtain ⟨v1, v3⟩ := st
  show pv_Ev xs L (d + 4) 97 (0, 0, 6, [some (.ref 0), some (.long v1), none, some (.int v3)], [], pv_mm s T) r
  unfold f97_digest_b1 at h
  dsimp only at h
  refine pv_e_bk (ps := [(6, .iload_n 3, 1), (7, .bipush 9, 2)]) (t' := (0, 0, 9, [some (.ref 0), some (.long v1), none, some (.int v3)], [.int (9:Int32), .int v3], pv_mm s T)) (by decide +kernel) rfl ?_
  refine pv_e_icmpge (off := 22) (b := 31) (pc' := 12) (by decide +kernel) (by decide +kernel) rfl (fun c1 => ?_) (fun c1 => ?_)
  · rw [if_pos c1] at h
    obtain rfl := Option.some.inj h
    exact hK _
  · rw [if_neg c1] at h
    refine pv_e_bk (ps := [(12, .ldc2_w 321, 3), (15, .lload_n 1, 1), (16, .lmul, 1), (17, .aload_n 0, 1), (18, .iload_n 3, 1)]) (t' := (0, 0, 19, [some (.ref 0), some (.long v1), none, some (.int v3)], [.int v3, .ref 0, .long ((31:Int64) * v1)], pv_mm s T)) (by decide +kernel) rfl ?_
    obtain ⟨q3, e2, h⟩ := Option.bind_eq_some_iff.mp h
    refine pv_e_cvi (d := d + 3) (i := 323) (z := 94) (np := 1) (ml := 2) (ci := 5) (As := [.int v3]) (rs := [.long ((31:Int64) * v1)]) (pc' := 22) (by decide +kernel) rfl rfl rfl rfl (Nat.le_of_ble_eq_true rfl) (Nat.le_of_ble_eq_true rfl) rfl (ee94 (d + 0) v3 e2) ?_
    refine pv_e_bk (ps := [(22, .i2l, 1), (23, .ladd, 1), (24, .lstore_n 1, 1), (25, .iinc 3 1, 3), (28, .goto (-22), 3)]) (t' := (0, 0, 6, [some (.ref 0), some (.long (((31:Int64) * v1) + q3.toInt64)), none, some (.int (v3 + (1:Int32)))], [], pv_mm s T)) (by decide +kernel) rfl ?_
    obtain rfl := Option.some.inj h
    exact hK
theorem f97_digest_b2_ok {xs : Nat → Int32} {L d : Nat} {r : Option Value × pv_M} {T : pv_T} {s : pv_F} (st : Int64 × Int32) (o : (Int64 × Int32) ⊕ (Int64 × Int32)) (h : f97_digest_b2 s st = some o) (hK : pv_Kq (f97_digest_b2_H xs L d r T s) (f97_digest_b2_X xs L d r T s) o) : f97_digest_b2_H xs L d r T s st := by
  obtain ⟨v1, v3⟩ := st
  show pv_Ev xs L (d + 4) 97 (0, 0, 66, [some (.ref 0), some (.long v1), none, some (.int v3)], [], pv_mm s T) r
  unfold f97_digest_b2 at h
  dsimp only at h
  refine pv_e_bk (ps := [(66, .iload_n 3, 1), (67, .bipush 6, 2)]) (t' := (0, 0, 69, [some (.ref 0), some (.long v1), none, some (.int v3)], [.int (6:Int32), .int v3], pv_mm s T)) (by decide +kernel) rfl ?_
  refine pv_e_icmpge (off := 20) (b := 89) (pc' := 72) (by decide +kernel) (by decide +kernel) rfl (fun c8 => ?_) (fun c8 => ?_)
  · rw [if_pos c8] at h
    obtain rfl := Option.some.inj h
    exact hK _
  · rw [if_neg c8] at h
    refine pv_e_bk (ps := [(72, .aload_n 0, 1)]) (t' := (0, 0, 73, [some (.ref 0), some (.long v1), none, some (.int v3)], [.ref 0], pv_mm s T)) (by decide +kernel) rfl ?_
    refine pv_e_gr (i := 11) (ci := 5) (j := 0) (b := 1) (pc' := 76) (by decide +kernel) rfl rfl rfl ?_
    refine pv_e_bk (ps := [(76, .iload_n 3, 1)]) (t' := (0, 0, 77, [some (.ref 0), some (.long v1), none, some (.int v3)], [.int v3, .ref 1], pv_mm s T)) (by decide +kernel) rfl ?_
    obtain ⟨o9, e10, h⟩ := Option.bind_eq_some_iff.mp h
    have g11 := ra_rows e10
    refine pv_e_ra (zz := 6) (pc' := 78) (by decide +kernel) rfl (by decide) e10 rfl ?_
    refine pv_e_bk (ps := [(78, .lload_n 1, 1)]) (t' := (0, 0, 79, [some (.ref 0), some (.long v1), none, some (.int v3)], [.long v1, .ref o9], pv_mm s T)) (by decide +kernel) rfl ?_
    obtain ⟨q13, e12, h⟩ := Option.bind_eq_some_iff.mp h
    refine pv_e_cvl (d := d + 3) (i := 330) (z := 31) (np := 1) (ml := 6) (ci := 2) (As := [.long v1]) (rs := []) (pc' := 82) (by decide +kernel) (rw_ g11).1 rfl rfl rfl (Nat.le_of_ble_eq_true rfl) (Nat.le_of_ble_eq_true rfl) rfl (ee31 (d + 3) o9 v1 g11 e12) ?_
    refine pv_e_bk (ps := [(82, .lstore_n 1, 1), (83, .iinc 3 1, 3), (86, .goto (-20), 3)]) (t' := (0, 0, 66, [some (.ref 0), some (.long q13), none, some (.int (v3 + (1:Int32)))], [], pv_mm s T)) (by decide +kernel) rfl ?_
    obtain rfl := Option.some.inj h
    exact hK
theorem f97_digest_b3_ok {xs : Nat → Int32} {L d : Nat} {r : Option Value × pv_M} {T : pv_T} {s : pv_F} (st : Int64 × Int32) (o : (Int64 × Int32) ⊕ (Int64 × Int32)) (h : f97_digest_b3 s st = some o) (hK : pv_Kq (f97_digest_b3_H xs L d r T s) (f97_digest_b3_X xs L d r T s) o) : f97_digest_b3_H xs L d r T s st := by
  obtain ⟨v1, v3⟩ := st
  show pv_Ev xs L (d + 4) 97 (0, 0, 91, [some (.ref 0), some (.long v1), none, some (.int v3)], [], pv_mm s T) r
  unfold f97_digest_b3 at h
  dsimp only at h
  refine pv_e_bk (ps := [(91, .iload_n 3, 1), (92, .iconst 4, 1)]) (t' := (0, 0, 93, [some (.ref 0), some (.long v1), none, some (.int v3)], [.int (4:Int32), .int v3], pv_mm s T)) (by decide +kernel) rfl ?_
  refine pv_e_icmpge (off := 20) (b := 113) (pc' := 96) (by decide +kernel) (by decide +kernel) rfl (fun c16 => ?_) (fun c16 => ?_)
  · rw [if_pos c16] at h
    obtain rfl := Option.some.inj h
    exact hK _
  · rw [if_neg c16] at h
    refine pv_e_bk (ps := [(96, .aload_n 0, 1)]) (t' := (0, 0, 97, [some (.ref 0), some (.long v1), none, some (.int v3)], [.ref 0], pv_mm s T)) (by decide +kernel) rfl ?_
    refine pv_e_gr (i := 15) (ci := 5) (j := 1) (b := 2) (pc' := 100) (by decide +kernel) rfl rfl rfl ?_
    refine pv_e_bk (ps := [(100, .iload_n 3, 1)]) (t' := (0, 0, 101, [some (.ref 0), some (.long v1), none, some (.int v3)], [.int v3, .ref 2], pv_mm s T)) (by decide +kernel) rfl ?_
    obtain ⟨o17, e18, h⟩ := Option.bind_eq_some_iff.mp h
    have g19 := ra_texts e18
    refine pv_e_ra (zz := 4) (pc' := 102) (by decide +kernel) rfl (by decide) e18 rfl ?_
    refine pv_e_bk (ps := [(102, .lload_n 1, 1)]) (t' := (0, 0, 103, [some (.ref 0), some (.long v1), none, some (.int v3)], [.long v1, .ref o17], pv_mm s T)) (by decide +kernel) rfl ?_
    obtain ⟨q21, e20, h⟩ := Option.bind_eq_some_iff.mp h
    refine pv_e_cvl (d := d + 3) (i := 330) (z := 31) (np := 1) (ml := 6) (ci := 2) (As := [.long v1]) (rs := []) (pc' := 106) (by decide +kernel) (rw_ g19).1 rfl rfl rfl (Nat.le_of_ble_eq_true rfl) (Nat.le_of_ble_eq_true rfl) rfl (ee31 (d + 3) o17 v1 g19 e20) ?_
    refine pv_e_bk (ps := [(106, .lstore_n 1, 1), (107, .iinc 3 1, 3), (110, .goto (-19), 3)]) (t' := (0, 0, 91, [some (.ref 0), some (.long q21), none, some (.int (v3 + (1:Int32)))], [], pv_mm s T)) (by decide +kernel) rfl ?_
    obtain rfl := Option.some.inj h
    exact hK
theorem ee97 {xs : Nat → Int32} {L : Nat} (d : Nat)  {s : pv_F} {T : pv_T} {q : Int64}  (h : f97_digest s = some q) : pv_Ev xs L (d + 4) 97 (0, 0, 0, [some (.ref 0), none, none, none], [], pv_mm s T) (some (.long q), pv_mm s T) := by
  generalize hr : ((some (.long q), pv_mm s T) : Option Value × pv_M) = r
  unfold f97_digest at h
  refine pv_e_bk (ps := [(0, .ldc2_w 319, 3), (3, .lstore_n 1, 1), (4, .iconst 0, 1), (5, .istore_n 3, 1)]) (t' := (0, 0, 6, [some (.ref 0), some (.long (17:Int64)), none, some (.int (0:Int32))], [], pv_mm s T)) (by decide +kernel) rfl ?_
  obtain ⟨⟨w4, w5⟩, e29, h⟩ := Option.bind_eq_some_iff.mp h
  dsimp only at h
  have hx28 : f97_digest_b1_X xs L d r T s (w4, w5) := by
    show ∀ z3 : Option Value, pv_Ev xs L (d + 4) 97 (0, 0, 31, [some (.ref 0), some (.long w4), none, z3], [], pv_mm s T) r
    intro z3
    refine pv_e_bk (ps := [(31, .ldc2_w 321, 3), (34, .lload_n 1, 1), (35, .lmul, 1), (36, .aload_n 0, 1)]) (t' := (0, 0, 37, [some (.ref 0), some (.long w4), none, z3], [.ref 0, .long ((31:Int64) * w4)], pv_mm s T)) (by decide +kernel) rfl ?_
    refine pv_e_gc (i := 43) (ci := 5) (j := 6) (pc' := 40) (by decide +kernel) (by decide) rfl rfl rfl ?_
    refine pv_e_bk (ps := [(40, .i2l, 1), (41, .ladd, 1), (42, .lstore_n 1, 1), (43, .ldc2_w 321, 3), (46, .lload_n 1, 1), (47, .lmul, 1), (48, .aload_n 0, 1)]) (t' := (0, 0, 49, [some (.ref 0), some (.long (((31:Int64) * w4) + ((s 0 6).toInt64))), none, z3], [.ref 0, .long ((31:Int64) * (((31:Int64) * w4) + ((s 0 6).toInt64)))], pv_mm s T)) (by decide +kernel) rfl ?_
    refine pv_e_gc (i := 47) (ci := 5) (j := 7) (pc' := 52) (by decide +kernel) (by decide) rfl rfl rfl ?_
    refine pv_e_bk (ps := [(52, .i2l, 1), (53, .ladd, 1), (54, .lstore_n 1, 1), (55, .aload_n 0, 1)]) (t' := (0, 0, 56, [some (.ref 0), some (.long (((31:Int64) * (((31:Int64) * w4) + ((s 0 6).toInt64))) + ((s 0 7).toInt64))), none, z3], [.ref 0], pv_mm s T)) (by decide +kernel) rfl ?_
    refine pv_e_gr (i := 21) (ci := 5) (j := 2) (b := 3) (pc' := 59) (by decide +kernel) rfl rfl rfl ?_
    refine pv_e_bk (ps := [(59, .lload_n 1, 1)]) (t' := (0, 0, 60, [some (.ref 0), some (.long (((31:Int64) * (((31:Int64) * w4) + ((s 0 6).toInt64))) + ((s 0 7).toInt64))), none, z3], [.long (((31:Int64) * (((31:Int64) * w4) + ((s 0 6).toInt64))) + ((s 0 7).toInt64)), .ref 3], pv_mm s T)) (by decide +kernel) rfl ?_
    obtain ⟨q7, e6, h⟩ := Option.bind_eq_some_iff.mp h
    refine pv_e_cvl (d := d + 3) (i := 326) (z := 51) (np := 1) (ml := 7) (ci := 4) (As := [.long (((31:Int64) * (((31:Int64) * w4) + ((s 0 6).toInt64))) + ((s 0 7).toInt64))]) (rs := []) (pc' := 63) (by decide +kernel) rfl rfl rfl rfl (Nat.le_of_ble_eq_true rfl) (Nat.le_of_ble_eq_true rfl) rfl (ee51 (d + 1) (((31:Int64) * (((31:Int64) * w4) + ((s 0 6).toInt64))) + ((s 0 7).toInt64)) e6) ?_
    refine pv_e_bk (ps := [(63, .lstore_n 1, 1), (64, .iconst 0, 1), (65, .istore_n 3, 1)]) (t' := (0, 0, 66, [some (.ref 0), some (.long q7), none, some (.int (0:Int32))], [], pv_mm s T)) (by decide +kernel) rfl ?_
    obtain ⟨⟨w14, w15⟩, e27, h⟩ := Option.bind_eq_some_iff.mp h
    dsimp only at h
    have hx26 : f97_digest_b2_X xs L d r T s (w14, w15) := by
      show ∀ z3 : Option Value, pv_Ev xs L (d + 4) 97 (0, 0, 89, [some (.ref 0), some (.long w14), none, z3], [], pv_mm s T) r
      intro z3
      refine pv_e_bk (ps := [(89, .iconst 0, 1), (90, .istore_n 3, 1)]) (t' := (0, 0, 91, [some (.ref 0), some (.long w14), none, some (.int (0:Int32))], [], pv_mm s T)) (by decide +kernel) rfl ?_
      obtain ⟨⟨w22, w23⟩, e25, h⟩ := Option.bind_eq_some_iff.mp h
      dsimp only at h
      have hx24 : f97_digest_b3_X xs L d r T s (w22, w23) := by
        show ∀ z3 : Option Value, pv_Ev xs L (d + 4) 97 (0, 0, 113, [some (.ref 0), some (.long w22), none, z3], [], pv_mm s T) r
        intro z3
        refine pv_e_bk (ps := [(113, .lload_n 1, 1)]) (t' := (0, 0, 114, [some (.ref 0), some (.long w22), none, z3], [.long w22], pv_mm s T)) (by decide +kernel) rfl ?_
        obtain rfl := Option.some.inj h
        cases hr
        exact pv_e_rl (by decide +kernel)
      exact pv_lq_ok (H := f97_digest_b3_H xs L d r T s) (X := f97_digest_b3_X xs L d r T s) (f97_digest_b3_ok (xs := xs) (L := L) (d := d) (r := r) (T := T) (s := s)) 20000 _ _ e25 hx24
    exact pv_lq_ok (H := f97_digest_b2_H xs L d r T s) (X := f97_digest_b2_X xs L d r T s) (f97_digest_b2_ok (xs := xs) (L := L) (d := d) (r := r) (T := T) (s := s)) 20000 _ _ e27 hx26
  exact pv_lq_ok (H := f97_digest_b1_H xs L d r T s) (X := f97_digest_b1_X xs L d r T s) (f97_digest_b1_ok (xs := xs) (L := L) (d := d) (r := r) (T := T) (s := s)) 20000 _ _ e29 hx28
def f113_in (x0 : Int32) (x1 : Int32) (x2 : Int32) : Option (Int32) :=
  ((
    if x0 < x1 then
      some (0:Int32)
    else
      if x2 < x0 then
        some (0:Int32)
      else
        some (1:Int32)) : Option (Int32)).bind fun t1 =>
  (pv_bl t1).bind fun q2 => some q2
theorem ee113 {xs : Nat → Int32} {L : Nat} (d : Nat) (x0 : Int32) (x1 : Int32) (x2 : Int32) {M : pv_M} {q : Int32}  (h : f113_in x0 x1 x2 = some q) : pv_Ev xs L (d + 0) 113 (0, 0, 0, [some (.int x0), some (.int x1), some (.int x2)], [], M) (some (.int q), M) := by
  generalize hr : ((some (.int q), M) : Option Value × pv_M) = r
  unfold f113_in at h
  refine pv_e_bk (ps := [(0, .iload_n 0, 1), (1, .iload_n 1, 1)]) (t' := (0, 0, 2, [some (.int x0), some (.int x1), some (.int x2)], [.int x1, .int x0], M)) (by decide +kernel) rfl ?_
  obtain ⟨t1, hv4, h⟩ := Option.bind_eq_some_iff.mp h
  have hJ5 : pv_Ev xs L (d + 0) 113 (0, 0, 15, [some (.int x0), some (.int x1), some (.int x2)], [.int t1], M) r := by
    obtain ⟨q2, e3, h⟩ := Option.bind_eq_some_iff.mp h
    obtain rfl := Option.some.inj h
    cases hr
    exact pv_e_rz (by decide +kernel) e3
  clear h
  have h := hv4
  clear hv4
  refine pv_e_icmplt (off := 12) (b := 14) (pc' := 5) (by decide +kernel) (by decide +kernel) rfl (fun c6 => ?_) (fun c6 => ?_)
  · rw [if_pos c6] at h
    refine pv_e_bk (ps := [(14, .iconst 0, 1)]) (t' := (0, 0, 15, [some (.int x0), some (.int x1), some (.int x2)], [.int (0:Int32)], M)) (by decide +kernel) rfl ?_
    obtain rfl := Option.some.inj h
    exact hJ5
  · rw [if_neg c6] at h
    refine pv_e_bk (ps := [(5, .iload_n 0, 1), (6, .iload_n 2, 1)]) (t' := (0, 0, 7, [some (.int x0), some (.int x1), some (.int x2)], [.int x2, .int x0], M)) (by decide +kernel) rfl ?_
    refine pv_e_icmpgt (off := 7) (b := 14) (pc' := 10) (by decide +kernel) (by decide +kernel) rfl (fun c7 => ?_) (fun c7 => ?_)
    · rw [if_pos c7] at h
      refine pv_e_bk (ps := [(14, .iconst 0, 1)]) (t' := (0, 0, 15, [some (.int x0), some (.int x1), some (.int x2)], [.int (0:Int32)], M)) (by decide +kernel) rfl ?_
      obtain rfl := Option.some.inj h
      exact hJ5
    · rw [if_neg c7] at h
      refine pv_e_bk (ps := [(10, .iconst 1, 1), (11, .goto 4, 3)]) (t' := (0, 0, 15, [some (.int x0), some (.int x1), some (.int x2)], [.int (1:Int32)], M)) (by decide +kernel) rfl ?_
      obtain rfl := Option.some.inj h
      exact hJ5
def f114_meet (x1 : Int32) (T : pv_T) : Option (Int32 × pv_T) :=
  (pv_pm T 94 0 x1).bind fun T1 =>
  (pv_rd T1.1 95 6 x1).bind fun q3 =>
  (pv_wm T1 95 6 x1 (q3 + (1:Int32))).bind fun T5 =>
  some ((-3:Int32), T5)
theorem ee114 {xs : Nat → Int32} {L : Nat} (d : Nat) (x1 : Int32) {s : pv_F} {T : pv_T} {q : Int32 × pv_T}  (h : f114_meet x1 T = some q) : pv_Ev xs L (d + 0) 114 (0, 0, 0, [some (.ref 94), some (.int x1)], [], pv_mm s T) (some (.int q.1), pv_mm s q.2) := by
  generalize hr : ((some (.int q.1), pv_mm s q.2) : Option Value × pv_M) = r
  unfold f114_meet at h
  refine pv_e_bk (ps := [(0, .aload_n 0, 1), (1, .iload_n 1, 1)]) (t' := (0, 0, 2, [some (.ref 94), some (.int x1)], [.int x1, .ref 94], pv_mm s T)) (by decide +kernel) rfl ?_
  obtain ⟨T1, e2, h⟩ := Option.bind_eq_some_iff.mp h
  refine pv_e_pms (i := 77) (ci := 6) (j := 0) (pc' := 5) (by decide +kernel) rfl rfl (by decide) rfl rfl e2 rfl ?_
  refine pv_e_bk (ps := [(5, .aload_n 0, 1)]) (t' := (0, 0, 6, [some (.ref 94), some (.int x1)], [.ref 94], pv_mm s T1)) (by decide +kernel) rfl ?_
  refine pv_e_gr (i := 7) (ci := 6) (j := 1) (b := 95) (pc' := 9) (by decide +kernel) rfl rfl rfl ?_
  refine pv_e_bk (ps := [(9, .iload_n 1, 1), (10, .dup2, 1)]) (t' := (0, 0, 11, [some (.ref 94), some (.int x1)], [.int x1, .ref 95, .int x1, .ref 95], pv_mm s T1)) (by decide +kernel) rfl ?_
  obtain ⟨q3, e4, h⟩ := Option.bind_eq_some_iff.mp h
  refine pv_e_rm (pc' := 12) (by decide +kernel) (by decide) rfl e4 rfl ?_
  refine pv_e_bk (ps := [(12, .iconst 1, 1), (13, .iadd, 1)]) (t' := (0, 0, 14, [some (.ref 94), some (.int x1)], [.int (q3 + (1:Int32)), .int x1, .ref 95], pv_mm s T1)) (by decide +kernel) rfl ?_
  obtain ⟨T5, e6, h⟩ := Option.bind_eq_some_iff.mp h
  refine pv_e_wm (pc' := 15) (by decide +kernel) (by decide) rfl e6 rfl ?_
  refine pv_e_bk (ps := [(15, .bipush (-3), 2)]) (t' := (0, 0, 17, [some (.ref 94), some (.int x1)], [.int (-3:Int32)], pv_mm s T5)) (by decide +kernel) rfl ?_
  obtain rfl := Option.some.inj h
  cases hr
  exact pv_e_ri (by decide +kernel)
def f115_ask (x1 : Int32) (x2 : Int32) (T : pv_T) : Option (Int32 × pv_T) :=
  (pv_pm T 94 2 x1).bind fun T1 =>
  some (x2, T1)
theorem ee115 {xs : Nat → Int32} {L : Nat} (d : Nat) (x1 : Int32) (x2 : Int32) {s : pv_F} {T : pv_T} {q : Int32 × pv_T}  (h : f115_ask x1 x2 T = some q) : pv_Ev xs L (d + 0) 115 (0, 0, 0, [some (.ref 94), some (.int x1), some (.int x2)], [], pv_mm s T) (some (.int q.1), pv_mm s q.2) := by
  generalize hr : ((some (.int q.1), pv_mm s q.2) : Option Value × pv_M) = r
  unfold f115_ask at h
  refine pv_e_bk (ps := [(0, .aload_n 0, 1), (1, .iload_n 1, 1)]) (t' := (0, 0, 2, [some (.ref 94), some (.int x1), some (.int x2)], [.int x1, .ref 94], pv_mm s T)) (by decide +kernel) rfl ?_
  obtain ⟨T1, e2, h⟩ := Option.bind_eq_some_iff.mp h
  refine pv_e_pms (i := 80) (ci := 6) (j := 2) (pc' := 5) (by decide +kernel) rfl rfl (by decide) rfl rfl e2 rfl ?_
  refine pv_e_bk (ps := [(5, .iload_n 2, 1)]) (t' := (0, 0, 6, [some (.ref 94), some (.int x1), some (.int x2)], [.int x2], pv_mm s T1)) (by decide +kernel) rfl ?_
  obtain rfl := Option.some.inj h
  cases hr
  exact pv_e_ri (by decide +kernel)
def f116_has (x0 : Int32) (x1 : Int32) : Option (Int32) :=
  ((
    if ((x0 >>> (x1 &&& 31)) &&& (1:Int32)) = (1:Int32) then
      some (1:Int32)
    else
      some (0:Int32)) : Option (Int32)).bind fun t1 =>
  (pv_bl t1).bind fun q2 => some q2
theorem ee116 {xs : Nat → Int32} {L : Nat} (d : Nat) (x0 : Int32) (x1 : Int32) {M : pv_M} {q : Int32}  (h : f116_has x0 x1 = some q) : pv_Ev xs L (d + 0) 116 (0, 0, 0, [some (.int x0), some (.int x1)], [], M) (some (.int q), M) := by
  generalize hr : ((some (.int q), M) : Option Value × pv_M) = r
  unfold f116_has at h
  refine pv_e_bk (ps := [(0, .iload_n 0, 1), (1, .iload_n 1, 1), (2, .ishr, 1), (3, .iconst 1, 1), (4, .iand, 1), (5, .iconst 1, 1)]) (t' := (0, 0, 6, [some (.int x0), some (.int x1)], [.int (1:Int32), .int ((x0 >>> (x1 &&& 31)) &&& (1:Int32))], M)) (by decide +kernel) rfl ?_
  obtain ⟨t1, hv4, h⟩ := Option.bind_eq_some_iff.mp h
  have hJ5 : pv_Ev xs L (d + 0) 116 (0, 0, 14, [some (.int x0), some (.int x1)], [.int t1], M) r := by
    obtain ⟨q2, e3, h⟩ := Option.bind_eq_some_iff.mp h
    obtain rfl := Option.some.inj h
    cases hr
    exact pv_e_rz (by decide +kernel) e3
  clear h
  have h := hv4
  clear hv4
  refine pv_e_icmpne (off := 7) (b := 13) (pc' := 9) (by decide +kernel) (by decide +kernel) rfl (fun c6 => ?_) (fun c6 => ?_)
  · rw [if_pos c6] at h
    refine pv_e_bk (ps := [(9, .iconst 1, 1), (10, .goto 4, 3)]) (t' := (0, 0, 14, [some (.int x0), some (.int x1)], [.int (1:Int32)], M)) (by decide +kernel) rfl ?_
    obtain rfl := Option.some.inj h
    exact hJ5
  · rw [if_neg c6] at h
    refine pv_e_bk (ps := [(13, .iconst 0, 1)]) (t' := (0, 0, 14, [some (.int x0), some (.int x1)], [.int (0:Int32)], M)) (by decide +kernel) rfl ?_
    obtain rfl := Option.some.inj h
    exact hJ5
def f117_sizeOf_b1 (v0 : Int32) (st : Int32 × Int32) : Option ((Int32 × Int32) ⊕ (Int32 × Int32)) := match st with
  | (v1, v2) =>
    if (7:Int32) ≤ v2 then
      some (.inr (v1, v2))
    else
      some (.inl (v1 + ((v0 >>> (v2 &&& 31)) &&& (1:Int32)), v2 + (1:Int32)))
def f117_sizeOf_b1_H (xs : Nat → Int32) (L d : Nat) (r : Option Value × pv_M) (M : pv_M) (v0 : Int32) (st : Int32 × Int32) : Prop := match st with
  | (v1, v2) => pv_Ev xs L (d + 0) 117 (0, 0, 4, [some (.int v0), some (.int v1), some (.int v2)], [], M) r
def f117_sizeOf_b1_X (xs : Nat → Int32) (L d : Nat) (r : Option Value × pv_M) (M : pv_M) (v0 : Int32) (st : Int32 × Int32) : Prop := match st with
  | (v1, v2) => ∀ z2 : Option Value, pv_Ev xs L (d + 0) 117 (0, 0, 24, [some (.int v0), some (.int v1), z2], [], M) r
def f117_sizeOf (x0 : Int32) : Option (Int32) :=
  (pv_lq (f117_sizeOf_b1 x0) 20000 ((0:Int32), (0:Int32))).bind fun (w2, w3) =>
  some w2
theorem f117_sizeOf_b1_ok {xs : Nat → Int32} {L d : Nat} {r : Option Value × pv_M} {M : pv_M} {v0 : Int32} (st : Int32 × Int32) (o : (Int32 × Int32) ⊕ (Int32 × Int32)) (h : f117_sizeOf_b1 v0 st = some o) (hK : pv_Kq (f117_sizeOf_b1_H xs L d r M v0) (f117_sizeOf_b1_X xs L d r M v0) o) : f117_sizeOf_b1_H xs L d r M v0 st := by
  obtain ⟨v1, v2⟩ := st
  show pv_Ev xs L (d + 0) 117 (0, 0, 4, [some (.int v0), some (.int v1), some (.int v2)], [], M) r
  unfold f117_sizeOf_b1 at h
  dsimp only at h
  refine pv_e_bk (ps := [(4, .iload_n 2, 1), (5, .bipush 7, 2)]) (t' := (0, 0, 7, [some (.int v0), some (.int v1), some (.int v2)], [.int (7:Int32), .int v2], M)) (by decide +kernel) rfl ?_
  refine pv_e_icmpge (off := 17) (b := 24) (pc' := 10) (by decide +kernel) (by decide +kernel) rfl (fun c1 => ?_) (fun c1 => ?_)
  · rw [if_pos c1] at h
    obtain rfl := Option.some.inj h
    exact hK _
  · rw [if_neg c1] at h
    refine pv_e_bk (ps := [(10, .iload_n 1, 1), (11, .iload_n 0, 1), (12, .iload_n 2, 1), (13, .ishr, 1), (14, .iconst 1, 1), (15, .iand, 1), (16, .iadd, 1), (17, .istore_n 1, 1), (18, .iinc 2 1, 3), (21, .goto (-17), 3)]) (t' := (0, 0, 4, [some (.int v0), some (.int (v1 + ((v0 >>> (v2 &&& 31)) &&& (1:Int32)))), some (.int (v2 + (1:Int32)))], [], M)) (by decide +kernel) rfl ?_
    obtain rfl := Option.some.inj h
    exact hK
theorem ee117 {xs : Nat → Int32} {L : Nat} (d : Nat) (x0 : Int32) {M : pv_M} {q : Int32}  (h : f117_sizeOf x0 = some q) : pv_Ev xs L (d + 0) 117 (0, 0, 0, [some (.int x0), none, none], [], M) (some (.int q), M) := by
  generalize hr : ((some (.int q), M) : Option Value × pv_M) = r
  unfold f117_sizeOf at h
  refine pv_e_bk (ps := [(0, .iconst 0, 1), (1, .istore_n 1, 1), (2, .iconst 0, 1), (3, .istore_n 2, 1)]) (t' := (0, 0, 4, [some (.int x0), some (.int (0:Int32)), some (.int (0:Int32))], [], M)) (by decide +kernel) rfl ?_
  obtain ⟨⟨w2, w3⟩, e5, h⟩ := Option.bind_eq_some_iff.mp h
  dsimp only at h
  have hx4 : f117_sizeOf_b1_X xs L d r M x0 (w2, w3) := by
    show ∀ z2 : Option Value, pv_Ev xs L (d + 0) 117 (0, 0, 24, [some (.int x0), some (.int w2), z2], [], M) r
    intro z2
    refine pv_e_bk (ps := [(24, .iload_n 1, 1)]) (t' := (0, 0, 25, [some (.int x0), some (.int w2), z2], [.int w2], M)) (by decide +kernel) rfl ?_
    obtain rfl := Option.some.inj h
    cases hr
    exact pv_e_ri (by decide +kernel)
  exact pv_lq_ok (H := f117_sizeOf_b1_H xs L d r M x0) (X := f117_sizeOf_b1_X xs L d r M x0) (f117_sizeOf_b1_ok (xs := xs) (L := L) (d := d) (r := r) (M := M) (v0 := x0)) 20000 _ _ e5 hx4
def f118_isRow (x0 : Int32) : Option (Int32) :=
  (f113_in x0 (0:Int32) (5:Int32)).bind fun q2 =>
  (pv_bl q2).bind fun q3 => some q3
theorem ee118 {xs : Nat → Int32} {L : Nat} (d : Nat) (x0 : Int32) {M : pv_M} {q : Int32}  (h : f118_isRow x0 = some q) : pv_Ev xs L (d + 1) 118 (0, 0, 0, [some (.int x0)], [], M) (some (.int q), M) := by
  generalize hr : ((some (.int q), M) : Option Value × pv_M) = r
  unfold f118_isRow at h
  refine pv_e_bk (ps := [(0, .iload_n 0, 1), (1, .iconst 0, 1), (2, .iconst 5, 1)]) (t' := (0, 0, 3, [some (.int x0)], [.int (5:Int32), .int (0:Int32), .int x0], M)) (by decide +kernel) rfl ?_
  obtain ⟨q2, e1, h⟩ := Option.bind_eq_some_iff.mp h
  refine pv_e_csi (d := d + 0) (i := 83) (z := 113) (np := 3) (ml := 3) (As := [.int x0, .int (0:Int32), .int (5:Int32)]) (rs := []) (pc' := 6) (by decide +kernel) rfl rfl rfl (Nat.le_of_ble_eq_true rfl) (Nat.le_of_ble_eq_true rfl) rfl (ee113 (d + 0) x0 (0:Int32) (5:Int32) e1) ?_
  obtain ⟨q3, e4, h⟩ := Option.bind_eq_some_iff.mp h
  obtain rfl := Option.some.inj h
  cases hr
  exact pv_e_rz (by decide +kernel) e4
def f119_isText (x0 : Int32) : Option (Int32) :=
  (f113_in x0 (0:Int32) (3:Int32)).bind fun q2 =>
  (pv_bl q2).bind fun q3 => some q3
theorem ee119 {xs : Nat → Int32} {L : Nat} (d : Nat) (x0 : Int32) {M : pv_M} {q : Int32}  (h : f119_isText x0 = some q) : pv_Ev xs L (d + 1) 119 (0, 0, 0, [some (.int x0)], [], M) (some (.int q), M) := by
  generalize hr : ((some (.int q), M) : Option Value × pv_M) = r
  unfold f119_isText at h
  refine pv_e_bk (ps := [(0, .iload_n 0, 1), (1, .iconst 0, 1), (2, .iconst 3, 1)]) (t' := (0, 0, 3, [some (.int x0)], [.int (3:Int32), .int (0:Int32), .int x0], M)) (by decide +kernel) rfl ?_
  obtain ⟨q2, e1, h⟩ := Option.bind_eq_some_iff.mp h
  refine pv_e_csi (d := d + 0) (i := 83) (z := 113) (np := 3) (ml := 3) (As := [.int x0, .int (0:Int32), .int (3:Int32)]) (rs := []) (pc' := 6) (by decide +kernel) rfl rfl rfl (Nat.le_of_ble_eq_true rfl) (Nat.le_of_ble_eq_true rfl) rfl (ee113 (d + 0) x0 (0:Int32) (3:Int32) e1) ?_
  obtain ⟨q3, e4, h⟩ := Option.bind_eq_some_iff.mp h
  obtain rfl := Option.some.inj h
  cases hr
  exact pv_e_rz (by decide +kernel) e4
def f120_askedRow (x1 : Int32) (T : pv_T) : Option (Int32 × pv_T) :=
  (f118_isRow x1).bind fun q2 =>
  ((
    if q2 = 0 then
      some ((-1:Int32), T)
    else
      (pv_rd T.1 96 6 x1).bind fun q8 =>
      if 0 ≤ q8 then
        some ((0:Int32), T)
      else
        (f114_meet (1:Int32) T).bind fun (q12, T13) =>
        some (q12, T13)) : Option (Int32 × pv_T)).bind fun (t3, T4) =>
  some (t3, T4)
theorem ee120 {xs : Nat → Int32} {L : Nat} (d : Nat) (x1 : Int32) {s : pv_F} {T : pv_T} {q : Int32 × pv_T}  (h : f120_askedRow x1 T = some q) : pv_Ev xs L (d + 2) 120 (0, 0, 0, [some (.ref 94), some (.int x1)], [], pv_mm s T) (some (.int q.1), pv_mm s q.2) := by
  generalize hr : ((some (.int q.1), pv_mm s q.2) : Option Value × pv_M) = r
  unfold f120_askedRow at h
  refine pv_e_bk (ps := [(0, .iload_n 1, 1)]) (t' := (0, 0, 1, [some (.ref 94), some (.int x1)], [.int x1], pv_mm s T)) (by decide +kernel) rfl ?_
  obtain ⟨q2, e1, h⟩ := Option.bind_eq_some_iff.mp h
  refine pv_e_csi (d := d + 1) (i := 87) (z := 118) (np := 1) (ml := 1) (As := [.int x1]) (rs := []) (pc' := 4) (by decide +kernel) rfl rfl rfl (Nat.le_of_ble_eq_true rfl) (Nat.le_of_ble_eq_true rfl) rfl (ee118 (d + 0) x1 e1) ?_
  obtain ⟨⟨t3, T4⟩, hv5, h⟩ := Option.bind_eq_some_iff.mp h
  dsimp only at h
  have hJ6 : pv_Ev xs L (d + 2) 120 (0, 0, 29, [some (.ref 94), some (.int x1)], [.int t3], pv_mm s T4) r := by
    obtain rfl := Option.some.inj h
    cases hr
    exact pv_e_ri (by decide +kernel)
  clear h
  have h := hv5
  clear hv5
  refine pv_e_ifne (off := 7) (b := 11) (pc' := 7) (by decide +kernel) (by decide +kernel) rfl (fun c7 => ?_) (fun c7 => ?_)
  · rw [if_pos c7] at h
    refine pv_e_bk (ps := [(7, .iconst (-1), 1), (8, .goto 21, 3)]) (t' := (0, 0, 29, [some (.ref 94), some (.int x1)], [.int (-1:Int32)], pv_mm s T)) (by decide +kernel) rfl ?_
    cases h
    exact hJ6
  · rw [if_neg c7] at h
    refine pv_e_bk (ps := [(11, .aload_n 0, 1)]) (t' := (0, 0, 12, [some (.ref 94), some (.int x1)], [.ref 94], pv_mm s T)) (by decide +kernel) rfl ?_
    refine pv_e_gr (i := 13) (ci := 6) (j := 3) (b := 96) (pc' := 15) (by decide +kernel) rfl rfl rfl ?_
    refine pv_e_bk (ps := [(15, .iload_n 1, 1)]) (t' := (0, 0, 16, [some (.ref 94), some (.int x1)], [.int x1, .ref 96], pv_mm s T)) (by decide +kernel) rfl ?_
    obtain ⟨q8, e9, h⟩ := Option.bind_eq_some_iff.mp h
    refine pv_e_rm (pc' := 17) (by decide +kernel) (by decide) rfl e9 rfl ?_
    refine pv_e_ifge (off := 11) (b := 28) (pc' := 20) (by decide +kernel) (by decide +kernel) rfl (fun c10 => ?_) (fun c10 => ?_)
    · rw [if_pos c10] at h
      refine pv_e_bk (ps := [(28, .iconst 0, 1)]) (t' := (0, 0, 29, [some (.ref 94), some (.int x1)], [.int (0:Int32)], pv_mm s T)) (by decide +kernel) rfl ?_
      cases h
      exact hJ6
    · rw [if_neg c10] at h
      refine pv_e_bk (ps := [(20, .aload_n 0, 1), (21, .iconst 1, 1)]) (t' := (0, 0, 22, [some (.ref 94), some (.int x1)], [.int (1:Int32), .ref 94], pv_mm s T)) (by decide +kernel) rfl ?_
      obtain ⟨⟨q12, T13⟩, e11, h⟩ := Option.bind_eq_some_iff.mp h
      dsimp only at h
      refine pv_e_cvi (d := d + 1) (i := 91) (z := 114) (np := 1) (ml := 2) (ci := 6) (As := [.int (1:Int32)]) (rs := []) (pc' := 25) (by decide +kernel) rfl rfl rfl rfl (Nat.le_of_ble_eq_true rfl) (Nat.le_of_ble_eq_true rfl) rfl (ee114 (d + 1) (1:Int32) e11) ?_
      refine pv_e_bk (ps := [(25, .goto 4, 3)]) (t' := (0, 0, 29, [some (.ref 94), some (.int x1)], [.int q12], pv_mm s T13)) (by decide +kernel) rfl ?_
      cases h
      exact hJ6
def f121_askedText (x1 : Int32) (T : pv_T) : Option (Int32 × pv_T) :=
  (f119_isText x1).bind fun q2 =>
  ((
    if q2 = 0 then
      some ((-1:Int32), T)
    else
      (pv_rd T.1 99 4 x1).bind fun q8 =>
      if 0 ≤ q8 then
        some ((0:Int32), T)
      else
        (f114_meet (1:Int32) T).bind fun (q12, T13) =>
        some (q12, T13)) : Option (Int32 × pv_T)).bind fun (t3, T4) =>
  some (t3, T4)
theorem ee121 {xs : Nat → Int32} {L : Nat} (d : Nat) (x1 : Int32) {s : pv_F} {T : pv_T} {q : Int32 × pv_T}  (h : f121_askedText x1 T = some q) : pv_Ev xs L (d + 2) 121 (0, 0, 0, [some (.ref 94), some (.int x1)], [], pv_mm s T) (some (.int q.1), pv_mm s q.2) := by
  generalize hr : ((some (.int q.1), pv_mm s q.2) : Option Value × pv_M) = r
  unfold f121_askedText at h
  refine pv_e_bk (ps := [(0, .iload_n 1, 1)]) (t' := (0, 0, 1, [some (.ref 94), some (.int x1)], [.int x1], pv_mm s T)) (by decide +kernel) rfl ?_
  obtain ⟨q2, e1, h⟩ := Option.bind_eq_some_iff.mp h
  refine pv_e_csi (d := d + 1) (i := 95) (z := 119) (np := 1) (ml := 1) (As := [.int x1]) (rs := []) (pc' := 4) (by decide +kernel) rfl rfl rfl (Nat.le_of_ble_eq_true rfl) (Nat.le_of_ble_eq_true rfl) rfl (ee119 (d + 0) x1 e1) ?_
  obtain ⟨⟨t3, T4⟩, hv5, h⟩ := Option.bind_eq_some_iff.mp h
  dsimp only at h
  have hJ6 : pv_Ev xs L (d + 2) 121 (0, 0, 29, [some (.ref 94), some (.int x1)], [.int t3], pv_mm s T4) r := by
    obtain rfl := Option.some.inj h
    cases hr
    exact pv_e_ri (by decide +kernel)
  clear h
  have h := hv5
  clear hv5
  refine pv_e_ifne (off := 7) (b := 11) (pc' := 7) (by decide +kernel) (by decide +kernel) rfl (fun c7 => ?_) (fun c7 => ?_)
  · rw [if_pos c7] at h
    refine pv_e_bk (ps := [(7, .iconst (-1), 1), (8, .goto 21, 3)]) (t' := (0, 0, 29, [some (.ref 94), some (.int x1)], [.int (-1:Int32)], pv_mm s T)) (by decide +kernel) rfl ?_
    cases h
    exact hJ6
  · rw [if_neg c7] at h
    refine pv_e_bk (ps := [(11, .aload_n 0, 1)]) (t' := (0, 0, 12, [some (.ref 94), some (.int x1)], [.ref 94], pv_mm s T)) (by decide +kernel) rfl ?_
    refine pv_e_gr (i := 22) (ci := 6) (j := 6) (b := 99) (pc' := 15) (by decide +kernel) rfl rfl rfl ?_
    refine pv_e_bk (ps := [(15, .iload_n 1, 1)]) (t' := (0, 0, 16, [some (.ref 94), some (.int x1)], [.int x1, .ref 99], pv_mm s T)) (by decide +kernel) rfl ?_
    obtain ⟨q8, e9, h⟩ := Option.bind_eq_some_iff.mp h
    refine pv_e_rm (pc' := 17) (by decide +kernel) (by decide) rfl e9 rfl ?_
    refine pv_e_ifge (off := 11) (b := 28) (pc' := 20) (by decide +kernel) (by decide +kernel) rfl (fun c10 => ?_) (fun c10 => ?_)
    · rw [if_pos c10] at h
      refine pv_e_bk (ps := [(28, .iconst 0, 1)]) (t' := (0, 0, 29, [some (.ref 94), some (.int x1)], [.int (0:Int32)], pv_mm s T)) (by decide +kernel) rfl ?_
      cases h
      exact hJ6
    · rw [if_neg c10] at h
      refine pv_e_bk (ps := [(20, .aload_n 0, 1), (21, .iconst 1, 1)]) (t' := (0, 0, 22, [some (.ref 94), some (.int x1)], [.int (1:Int32), .ref 94], pv_mm s T)) (by decide +kernel) rfl ?_
      obtain ⟨⟨q12, T13⟩, e11, h⟩ := Option.bind_eq_some_iff.mp h
      dsimp only at h
      refine pv_e_cvi (d := d + 1) (i := 91) (z := 114) (np := 1) (ml := 2) (ci := 6) (As := [.int (1:Int32)]) (rs := []) (pc' := 25) (by decide +kernel) rfl rfl rfl rfl (Nat.le_of_ble_eq_true rfl) (Nat.le_of_ble_eq_true rfl) rfl (ee114 (d + 1) (1:Int32) e11) ?_
      refine pv_e_bk (ps := [(25, .goto 4, 3)]) (t' := (0, 0, 29, [some (.ref 94), some (.int x1)], [.int q12], pv_mm s T13)) (by decide +kernel) rfl ?_
      cases h
      exact hJ6
def f122_rowAt (x1 : Int32) (x2 : Int32) (T : pv_T) : Option (Int32) :=
  (pv_rd T.1 97 240 (((40:Int32) * x1) + x2)).bind fun q1 =>
  some q1
theorem ee122 {xs : Nat → Int32} {L : Nat} (d : Nat) (x1 : Int32) (x2 : Int32) {s : pv_F} {T : pv_T} {q : Int32}  (h : f122_rowAt x1 x2 T = some q) : pv_Ev xs L (d + 0) 122 (0, 0, 0, [some (.ref 94), some (.int x1), some (.int x2)], [], pv_mm s T) (some (.int q), pv_mm s T) := by
  generalize hr : ((some (.int q), pv_mm s T) : Option Value × pv_M) = r
  unfold f122_rowAt at h
  refine pv_e_bk (ps := [(0, .aload_n 0, 1)]) (t' := (0, 0, 1, [some (.ref 94), some (.int x1), some (.int x2)], [.ref 94], pv_mm s T)) (by decide +kernel) rfl ?_
  refine pv_e_gr (i := 16) (ci := 6) (j := 4) (b := 97) (pc' := 4) (by decide +kernel) rfl rfl rfl ?_
  refine pv_e_bk (ps := [(4, .bipush 40, 2), (6, .iload_n 1, 1), (7, .imul, 1), (8, .iload_n 2, 1), (9, .iadd, 1)]) (t' := (0, 0, 10, [some (.ref 94), some (.int x1), some (.int x2)], [.int (((40:Int32) * x1) + x2), .ref 97], pv_mm s T)) (by decide +kernel) rfl ?_
  obtain ⟨q1, e2, h⟩ := Option.bind_eq_some_iff.mp h
  refine pv_e_rm (pc' := 11) (by decide +kernel) (by decide) rfl e2 rfl ?_
  obtain rfl := Option.some.inj h
  cases hr
  exact pv_e_ri (by decide +kernel)
def f123_setRow (x1 : Int32) (x2 : Int32) (x3 : Int32) (T : pv_T) : Option (pv_T) :=
  (pv_wm T 97 240 (((40:Int32) * x1) + x2) x3).bind fun T1 =>
  some T1
theorem ee123 {xs : Nat → Int32} {L : Nat} (d : Nat) (x1 : Int32) (x2 : Int32) (x3 : Int32) {s : pv_F} {T : pv_T} {q : pv_T}  (h : f123_setRow x1 x2 x3 T = some q) : pv_Ev xs L (d + 0) 123 (0, 0, 0, [some (.ref 94), some (.int x1), some (.int x2), some (.int x3)], [], pv_mm s T) (none, pv_mm s q) := by
  generalize hr : ((none, pv_mm s q) : Option Value × pv_M) = r
  unfold f123_setRow at h
  refine pv_e_bk (ps := [(0, .aload_n 0, 1)]) (t' := (0, 0, 1, [some (.ref 94), some (.int x1), some (.int x2), some (.int x3)], [.ref 94], pv_mm s T)) (by decide +kernel) rfl ?_
  refine pv_e_gr (i := 16) (ci := 6) (j := 4) (b := 97) (pc' := 4) (by decide +kernel) rfl rfl rfl ?_
  refine pv_e_bk (ps := [(4, .bipush 40, 2), (6, .iload_n 1, 1), (7, .imul, 1), (8, .iload_n 2, 1), (9, .iadd, 1), (10, .iload_n 3, 1)]) (t' := (0, 0, 11, [some (.ref 94), some (.int x1), some (.int x2), some (.int x3)], [.int x3, .int (((40:Int32) * x1) + x2), .ref 97], pv_mm s T)) (by decide +kernel) rfl ?_
  obtain ⟨T1, e2, h⟩ := Option.bind_eq_some_iff.mp h
  refine pv_e_wm (pc' := 12) (by decide +kernel) (by decide) rfl e2 rfl ?_
  obtain rfl := Option.some.inj h
  cases hr
  exact pv_e_rv (by decide +kernel)
def f124_row_b1 (v1 : Int32) (v2 : Int32) (st : Int32 × pv_T) : Option ((Int32 × pv_T) ⊕ (Int32 × pv_T)) := match st with
  | (v3, T) =>
    if (40:Int32) ≤ v3 then
      some (.inr (v3, T))
    else
      (f123_setRow v1 v3 (0:Int32) T).bind fun T10 =>
      some (.inl (v3 + (1:Int32), T10))
def f124_row_b1_H (xs : Nat → Int32) (L d : Nat) (r : Option Value × pv_M) (s : pv_F) (v1 : Int32) (v2 : Int32) (st : Int32 × pv_T) : Prop := match st with
  | (v3, T) => pv_Ev xs L (d + 2) 124 (0, 0, 34, [some (.ref 94), some (.int v1), some (.int v2), some (.int v3)], [], pv_mm s T) r
def f124_row_b1_X (xs : Nat → Int32) (L d : Nat) (r : Option Value × pv_M) (s : pv_F) (v1 : Int32) (v2 : Int32) (st : Int32 × pv_T) : Prop := match st with
  | (v3, T) => ∀ z3 : Option Value, pv_Ev xs L (d + 2) 124 (0, 0, 53, [some (.ref 94), some (.int v1), some (.int v2), z3], [], pv_mm s T) r
def f124_row (x1 : Int32) (x2 : Int32) (T : pv_T) : Option (Int32 × pv_T) :=
  (f118_isRow x1).bind fun q2 =>
  if q2 = 0 then
    some ((-1:Int32), T)
  else
    if x2 ≤ (40:Int32) then
      if 0 ≤ x2 then
        (pv_wm T 96 6 x1 x2).bind fun T6 =>
        (pv_lq (f124_row_b1 x1 x2) 20000 ((0:Int32), T6)).bind fun (w11, T12) =>
        some (x2, T12)
      else
        (f114_meet (5:Int32) T).bind fun (q16, T17) =>
        some (q16, T17)
    else
      some ((-1:Int32), T)
theorem f124_row_b1_ok {xs : Nat → Int32} {L d : Nat} {r : Option Value × pv_M} {s : pv_F} {v1 : Int32} {v2 : Int32} (st : Int32 × pv_T) (o : (Int32 × pv_T) ⊕ (Int32 × pv_T)) (h : f124_row_b1 v1 v2 st = some o) (hK : pv_Kq (f124_row_b1_H xs L d r s v1 v2) (f124_row_b1_X xs L d r s v1 v2) o) : f124_row_b1_H xs L d r s v1 v2 st := by
  obtain ⟨v3, T⟩ := st
  show pv_Ev xs L (d + 2) 124 (0, 0, 34, [some (.ref 94), some (.int v1), some (.int v2), some (.int v3)], [], pv_mm s T) r
  unfold f124_row_b1 at h
  dsimp only at h
  refine pv_e_bk (ps := [(34, .iload_n 3, 1), (35, .bipush 40, 2)]) (t' := (0, 0, 37, [some (.ref 94), some (.int v1), some (.int v2), some (.int v3)], [.int (40:Int32), .int v3], pv_mm s T)) (by decide +kernel) rfl ?_
  refine pv_e_icmpge (off := 16) (b := 53) (pc' := 40) (by decide +kernel) (by decide +kernel) rfl (fun c8 => ?_) (fun c8 => ?_)
  · rw [if_pos c8] at h
    obtain rfl := Option.some.inj h
    exact hK _
  · rw [if_neg c8] at h
    refine pv_e_bk (ps := [(40, .aload_n 0, 1), (41, .iload_n 1, 1), (42, .iload_n 3, 1), (43, .iconst 0, 1)]) (t' := (0, 0, 44, [some (.ref 94), some (.int v1), some (.int v2), some (.int v3)], [.int (0:Int32), .int v3, .int v1, .ref 94], pv_mm s T)) (by decide +kernel) rfl ?_
    obtain ⟨T10, e9, h⟩ := Option.bind_eq_some_iff.mp h
    refine pv_e_cvv (d := d + 1) (i := 98) (z := 123) (np := 3) (ml := 4) (ci := 6) (As := [.int v1, .int v3, .int (0:Int32)]) (rs := []) (pc' := 47) (by decide +kernel) rfl rfl rfl rfl (Nat.le_of_ble_eq_true rfl) (Nat.le_of_ble_eq_true rfl) rfl (ee123 (d + 1) v1 v3 (0:Int32) e9) ?_
    refine pv_e_bk (ps := [(47, .iinc 3 1, 3), (50, .goto (-16), 3)]) (t' := (0, 0, 34, [some (.ref 94), some (.int v1), some (.int v2), some (.int (v3 + (1:Int32)))], [], pv_mm s T10)) (by decide +kernel) rfl ?_
    obtain rfl := Option.some.inj h
    exact hK
theorem ee124 {xs : Nat → Int32} {L : Nat} (d : Nat) (x1 : Int32) (x2 : Int32) {s : pv_F} {T : pv_T} {q : Int32 × pv_T}  (h : f124_row x1 x2 T = some q) : pv_Ev xs L (d + 2) 124 (0, 0, 0, [some (.ref 94), some (.int x1), some (.int x2), none], [], pv_mm s T) (some (.int q.1), pv_mm s q.2) := by
  generalize hr : ((some (.int q.1), pv_mm s q.2) : Option Value × pv_M) = r
  unfold f124_row at h
  refine pv_e_bk (ps := [(0, .iload_n 1, 1)]) (t' := (0, 0, 1, [some (.ref 94), some (.int x1), some (.int x2), none], [.int x1], pv_mm s T)) (by decide +kernel) rfl ?_
  obtain ⟨q2, e1, h⟩ := Option.bind_eq_some_iff.mp h
  refine pv_e_csi (d := d + 1) (i := 87) (z := 118) (np := 1) (ml := 1) (As := [.int x1]) (rs := []) (pc' := 4) (by decide +kernel) rfl rfl rfl (Nat.le_of_ble_eq_true rfl) (Nat.le_of_ble_eq_true rfl) rfl (ee118 (d + 0) x1 e1) ?_
  refine pv_e_ifeq (off := 9) (b := 13) (pc' := 7) (by decide +kernel) (by decide +kernel) rfl (fun c3 => ?_) (fun c3 => ?_)
  · rw [if_pos c3] at h
    refine pv_e_bk (ps := [(13, .iconst (-1), 1)]) (t' := (0, 0, 14, [some (.ref 94), some (.int x1), some (.int x2), none], [.int (-1:Int32)], pv_mm s T)) (by decide +kernel) rfl ?_
    obtain rfl := Option.some.inj h
    cases hr
    exact pv_e_ri (by decide +kernel)
  · rw [if_neg c3] at h
    refine pv_e_bk (ps := [(7, .iload_n 2, 1), (8, .bipush 40, 2)]) (t' := (0, 0, 10, [some (.ref 94), some (.int x1), some (.int x2), none], [.int (40:Int32), .int x2], pv_mm s T)) (by decide +kernel) rfl ?_
    refine pv_e_icmple (off := 5) (b := 15) (pc' := 13) (by decide +kernel) (by decide +kernel) rfl (fun c4 => ?_) (fun c4 => ?_)
    · rw [if_pos c4] at h
      refine pv_e_bk (ps := [(15, .iload_n 2, 1)]) (t' := (0, 0, 16, [some (.ref 94), some (.int x1), some (.int x2), none], [.int x2], pv_mm s T)) (by decide +kernel) rfl ?_
      refine pv_e_ifge (off := 9) (b := 25) (pc' := 19) (by decide +kernel) (by decide +kernel) rfl (fun c5 => ?_) (fun c5 => ?_)
      · rw [if_pos c5] at h
        refine pv_e_bk (ps := [(25, .aload_n 0, 1)]) (t' := (0, 0, 26, [some (.ref 94), some (.int x1), some (.int x2), none], [.ref 94], pv_mm s T)) (by decide +kernel) rfl ?_
        refine pv_e_gr (i := 13) (ci := 6) (j := 3) (b := 96) (pc' := 29) (by decide +kernel) rfl rfl rfl ?_
        refine pv_e_bk (ps := [(29, .iload_n 1, 1), (30, .iload_n 2, 1)]) (t' := (0, 0, 31, [some (.ref 94), some (.int x1), some (.int x2), none], [.int x2, .int x1, .ref 96], pv_mm s T)) (by decide +kernel) rfl ?_
        obtain ⟨T6, e7, h⟩ := Option.bind_eq_some_iff.mp h
        refine pv_e_wm (pc' := 32) (by decide +kernel) (by decide) rfl e7 rfl ?_
        refine pv_e_bk (ps := [(32, .iconst 0, 1), (33, .istore_n 3, 1)]) (t' := (0, 0, 34, [some (.ref 94), some (.int x1), some (.int x2), some (.int (0:Int32))], [], pv_mm s T6)) (by decide +kernel) rfl ?_
        obtain ⟨⟨w11, T12⟩, e14, h⟩ := Option.bind_eq_some_iff.mp h
        dsimp only at h
        have hx13 : f124_row_b1_X xs L d r s x1 x2 (w11, T12) := by
          show ∀ z3 : Option Value, pv_Ev xs L (d + 2) 124 (0, 0, 53, [some (.ref 94), some (.int x1), some (.int x2), z3], [], pv_mm s T12) r
          intro z3
          refine pv_e_bk (ps := [(53, .iload_n 2, 1)]) (t' := (0, 0, 54, [some (.ref 94), some (.int x1), some (.int x2), z3], [.int x2], pv_mm s T12)) (by decide +kernel) rfl ?_
          obtain rfl := Option.some.inj h
          cases hr
          exact pv_e_ri (by decide +kernel)
        exact pv_lq_ok (H := f124_row_b1_H xs L d r s x1 x2) (X := f124_row_b1_X xs L d r s x1 x2) (f124_row_b1_ok (xs := xs) (L := L) (d := d) (r := r) (s := s) (v1 := x1) (v2 := x2)) 20000 _ _ e14 hx13
      · rw [if_neg c5] at h
        refine pv_e_bk (ps := [(19, .aload_n 0, 1), (20, .iconst 5, 1)]) (t' := (0, 0, 21, [some (.ref 94), some (.int x1), some (.int x2), none], [.int (5:Int32), .ref 94], pv_mm s T)) (by decide +kernel) rfl ?_
        obtain ⟨⟨q16, T17⟩, e15, h⟩ := Option.bind_eq_some_iff.mp h
        dsimp only at h
        refine pv_e_cvi (d := d + 1) (i := 91) (z := 114) (np := 1) (ml := 2) (ci := 6) (As := [.int (5:Int32)]) (rs := []) (pc' := 24) (by decide +kernel) rfl rfl rfl rfl (Nat.le_of_ble_eq_true rfl) (Nat.le_of_ble_eq_true rfl) rfl (ee114 (d + 1) (5:Int32) e15) ?_
        obtain rfl := Option.some.inj h
        cases hr
        exact pv_e_ri (by decide +kernel)
    · rw [if_neg c4] at h
      refine pv_e_bk (ps := [(13, .iconst (-1), 1)]) (t' := (0, 0, 14, [some (.ref 94), some (.int x1), some (.int x2), none], [.int (-1:Int32)], pv_mm s T)) (by decide +kernel) rfl ?_
      obtain rfl := Option.some.inj h
      cases hr
      exact pv_e_ri (by decide +kernel)
def f125_at (x1 : Int32) (x2 : Int32) (T : pv_T) : Option (Int32 × pv_T) :=
  (f120_askedRow x1 T).bind fun (q2, T3) =>
  if 0 ≤ q2 then
    (pv_rd T3.1 96 6 x1).bind fun q5 =>
    (f113_in x2 (0:Int32) (q5 - (1:Int32))).bind fun q8 =>
    ((
      if q8 = 0 then
        (f114_meet (2:Int32) T3).bind fun (q15, T16) =>
        some (q15, T16)
      else
        (f122_rowAt x1 x2 T3).bind fun q18 =>
        (f115_ask q18 (1:Int32) T3).bind fun (q20, T21) =>
        some (q20, T21)) : Option (Int32 × pv_T)).bind fun (t9, T10) =>
    some (t9, T10)
  else
    some (q2, T3)
theorem ee125 {xs : Nat → Int32} {L : Nat} (d : Nat) (x1 : Int32) (x2 : Int32) {s : pv_F} {T : pv_T} {q : Int32 × pv_T}  (h : f125_at x1 x2 T = some q) : pv_Ev xs L (d + 3) 125 (0, 0, 0, [some (.ref 94), some (.int x1), some (.int x2), none], [], pv_mm s T) (some (.int q.1), pv_mm s q.2) := by
  generalize hr : ((some (.int q.1), pv_mm s q.2) : Option Value × pv_M) = r
  unfold f125_at at h
  refine pv_e_bk (ps := [(0, .aload_n 0, 1), (1, .iload_n 1, 1)]) (t' := (0, 0, 2, [some (.ref 94), some (.int x1), some (.int x2), none], [.int x1, .ref 94], pv_mm s T)) (by decide +kernel) rfl ?_
  obtain ⟨⟨q2, T3⟩, e1, h⟩ := Option.bind_eq_some_iff.mp h
  dsimp only at h
  refine pv_e_cvi (d := d + 2) (i := 102) (z := 120) (np := 1) (ml := 2) (ci := 6) (As := [.int x1]) (rs := []) (pc' := 5) (by decide +kernel) rfl rfl rfl rfl (Nat.le_of_ble_eq_true rfl) (Nat.le_of_ble_eq_true rfl) rfl (ee120 (d + 0) x1 e1) ?_
  refine pv_e_bk (ps := [(5, .istore_n 3, 1), (6, .iload_n 3, 1)]) (t' := (0, 0, 7, [some (.ref 94), some (.int x1), some (.int x2), some (.int q2)], [.int q2], pv_mm s T3)) (by decide +kernel) rfl ?_
  refine pv_e_ifge (off := 5) (b := 12) (pc' := 10) (by decide +kernel) (by decide +kernel) rfl (fun c4 => ?_) (fun c4 => ?_)
  · rw [if_pos c4] at h
    refine pv_e_bk (ps := [(12, .iload_n 2, 1), (13, .iconst 0, 1), (14, .aload_n 0, 1)]) (t' := (0, 0, 15, [some (.ref 94), some (.int x1), some (.int x2), some (.int q2)], [.ref 94, .int (0:Int32), .int x2], pv_mm s T3)) (by decide +kernel) rfl ?_
    refine pv_e_gr (i := 13) (ci := 6) (j := 3) (b := 96) (pc' := 18) (by decide +kernel) rfl rfl rfl ?_
    refine pv_e_bk (ps := [(18, .iload_n 1, 1)]) (t' := (0, 0, 19, [some (.ref 94), some (.int x1), some (.int x2), some (.int q2)], [.int x1, .ref 96, .int (0:Int32), .int x2], pv_mm s T3)) (by decide +kernel) rfl ?_
    obtain ⟨q5, e6, h⟩ := Option.bind_eq_some_iff.mp h
    refine pv_e_rm (pc' := 20) (by decide +kernel) (by decide) rfl e6 rfl ?_
    refine pv_e_bk (ps := [(20, .iconst 1, 1), (21, .isub, 1)]) (t' := (0, 0, 22, [some (.ref 94), some (.int x1), some (.int x2), some (.int q2)], [.int (q5 - (1:Int32)), .int (0:Int32), .int x2], pv_mm s T3)) (by decide +kernel) rfl ?_
    obtain ⟨q8, e7, h⟩ := Option.bind_eq_some_iff.mp h
    refine pv_e_csi (d := d + 2) (i := 83) (z := 113) (np := 3) (ml := 3) (As := [.int x2, .int (0:Int32), .int (q5 - (1:Int32))]) (rs := []) (pc' := 25) (by decide +kernel) rfl rfl rfl (Nat.le_of_ble_eq_true rfl) (Nat.le_of_ble_eq_true rfl) rfl (ee113 (d + 2) x2 (0:Int32) (q5 - (1:Int32)) e7) ?_
    obtain ⟨⟨t9, T10⟩, hv11, h⟩ := Option.bind_eq_some_iff.mp h
    dsimp only at h
    have hJ12 : pv_Ev xs L (d + 3) 125 (0, 0, 47, [some (.ref 94), some (.int x1), some (.int x2), some (.int q2)], [.int t9], pv_mm s T10) r := by
      obtain rfl := Option.some.inj h
      cases hr
      exact pv_e_ri (by decide +kernel)
    clear h
    have h := hv11
    clear hv11
    refine pv_e_ifeq (off := 17) (b := 42) (pc' := 28) (by decide +kernel) (by decide +kernel) rfl (fun c13 => ?_) (fun c13 => ?_)
    · rw [if_pos c13] at h
      refine pv_e_bk (ps := [(42, .aload_n 0, 1), (43, .iconst 2, 1)]) (t' := (0, 0, 44, [some (.ref 94), some (.int x1), some (.int x2), some (.int q2)], [.int (2:Int32), .ref 94], pv_mm s T3)) (by decide +kernel) rfl ?_
      obtain ⟨⟨q15, T16⟩, e14, h⟩ := Option.bind_eq_some_iff.mp h
      dsimp only at h
      refine pv_e_cvi (d := d + 2) (i := 91) (z := 114) (np := 1) (ml := 2) (ci := 6) (As := [.int (2:Int32)]) (rs := []) (pc' := 47) (by decide +kernel) rfl rfl rfl rfl (Nat.le_of_ble_eq_true rfl) (Nat.le_of_ble_eq_true rfl) rfl (ee114 (d + 2) (2:Int32) e14) ?_
      cases h
      exact hJ12
    · rw [if_neg c13] at h
      refine pv_e_bk (ps := [(28, .aload_n 0, 1), (29, .aload_n 0, 1), (30, .iload_n 1, 1), (31, .iload_n 2, 1)]) (t' := (0, 0, 32, [some (.ref 94), some (.int x1), some (.int x2), some (.int q2)], [.int x2, .int x1, .ref 94, .ref 94], pv_mm s T3)) (by decide +kernel) rfl ?_
      obtain ⟨q18, e17, h⟩ := Option.bind_eq_some_iff.mp h
      refine pv_e_cvi (d := d + 2) (i := 105) (z := 122) (np := 2) (ml := 3) (ci := 6) (As := [.int x1, .int x2]) (rs := [.ref 94]) (pc' := 35) (by decide +kernel) rfl rfl rfl rfl (Nat.le_of_ble_eq_true rfl) (Nat.le_of_ble_eq_true rfl) rfl (ee122 (d + 2) x1 x2 e17) ?_
      refine pv_e_bk (ps := [(35, .iconst 1, 1)]) (t' := (0, 0, 36, [some (.ref 94), some (.int x1), some (.int x2), some (.int q2)], [.int (1:Int32), .int q18, .ref 94], pv_mm s T3)) (by decide +kernel) rfl ?_
      obtain ⟨⟨q20, T21⟩, e19, h⟩ := Option.bind_eq_some_iff.mp h
      dsimp only at h
      refine pv_e_cvi (d := d + 2) (i := 109) (z := 115) (np := 2) (ml := 3) (ci := 6) (As := [.int q18, .int (1:Int32)]) (rs := []) (pc' := 39) (by decide +kernel) rfl rfl rfl rfl (Nat.le_of_ble_eq_true rfl) (Nat.le_of_ble_eq_true rfl) rfl (ee115 (d + 2) q18 (1:Int32) e19) ?_
      refine pv_e_bk (ps := [(39, .goto 8, 3)]) (t' := (0, 0, 47, [some (.ref 94), some (.int x1), some (.int x2), some (.int q2)], [.int q20], pv_mm s T21)) (by decide +kernel) rfl ?_
      cases h
      exact hJ12
  · rw [if_neg c4] at h
    refine pv_e_bk (ps := [(10, .iload_n 3, 1)]) (t' := (0, 0, 11, [some (.ref 94), some (.int x1), some (.int x2), some (.int q2)], [.int q2], pv_mm s T3)) (by decide +kernel) rfl ?_
    obtain rfl := Option.some.inj h
    cases hr
    exact pv_e_ri (by decide +kernel)
def f126_lay (x1 : Int32) (x2 : Int32) (x3 : Int32) (T : pv_T) : Option (Int32 × pv_T) :=
  (f125_at x1 x2 T).bind fun (q2, T3) =>
  if 0 ≤ q2 then
    (f123_setRow x1 x2 x3 T3).bind fun T6 =>
    some ((1:Int32), T6)
  else
    some (q2, T3)
theorem ee126 {xs : Nat → Int32} {L : Nat} (d : Nat) (x1 : Int32) (x2 : Int32) (x3 : Int32) {s : pv_F} {T : pv_T} {q : Int32 × pv_T}  (h : f126_lay x1 x2 x3 T = some q) : pv_Ev xs L (d + 4) 126 (0, 0, 0, [some (.ref 94), some (.int x1), some (.int x2), some (.int x3), none], [], pv_mm s T) (some (.int q.1), pv_mm s q.2) := by
  generalize hr : ((some (.int q.1), pv_mm s q.2) : Option Value × pv_M) = r
  unfold f126_lay at h
  refine pv_e_bk (ps := [(0, .aload_n 0, 1), (1, .iload_n 1, 1), (2, .iload_n 2, 1)]) (t' := (0, 0, 3, [some (.ref 94), some (.int x1), some (.int x2), some (.int x3), none], [.int x2, .int x1, .ref 94], pv_mm s T)) (by decide +kernel) rfl ?_
  obtain ⟨⟨q2, T3⟩, e1, h⟩ := Option.bind_eq_some_iff.mp h
  dsimp only at h
  refine pv_e_cvi (d := d + 3) (i := 112) (z := 125) (np := 2) (ml := 4) (ci := 6) (As := [.int x1, .int x2]) (rs := []) (pc' := 6) (by decide +kernel) rfl rfl rfl rfl (Nat.le_of_ble_eq_true rfl) (Nat.le_of_ble_eq_true rfl) rfl (ee125 (d + 0) x1 x2 e1) ?_
  refine pv_e_bk (ps := [(6, .istore 4, 2), (8, .iload 4, 2)]) (t' := (0, 0, 10, [some (.ref 94), some (.int x1), some (.int x2), some (.int x3), some (.int q2)], [.int q2], pv_mm s T3)) (by decide +kernel) rfl ?_
  refine pv_e_ifge (off := 6) (b := 16) (pc' := 13) (by decide +kernel) (by decide +kernel) rfl (fun c4 => ?_) (fun c4 => ?_)
  · rw [if_pos c4] at h
    refine pv_e_bk (ps := [(16, .aload_n 0, 1), (17, .iload_n 1, 1), (18, .iload_n 2, 1), (19, .iload_n 3, 1)]) (t' := (0, 0, 20, [some (.ref 94), some (.int x1), some (.int x2), some (.int x3), some (.int q2)], [.int x3, .int x2, .int x1, .ref 94], pv_mm s T3)) (by decide +kernel) rfl ?_
    obtain ⟨T6, e5, h⟩ := Option.bind_eq_some_iff.mp h
    refine pv_e_cvv (d := d + 3) (i := 98) (z := 123) (np := 3) (ml := 4) (ci := 6) (As := [.int x1, .int x2, .int x3]) (rs := []) (pc' := 23) (by decide +kernel) rfl rfl rfl rfl (Nat.le_of_ble_eq_true rfl) (Nat.le_of_ble_eq_true rfl) rfl (ee123 (d + 3) x1 x2 x3 e5) ?_
    refine pv_e_bk (ps := [(23, .iconst 1, 1)]) (t' := (0, 0, 24, [some (.ref 94), some (.int x1), some (.int x2), some (.int x3), some (.int q2)], [.int (1:Int32)], pv_mm s T6)) (by decide +kernel) rfl ?_
    obtain rfl := Option.some.inj h
    cases hr
    exact pv_e_ri (by decide +kernel)
  · rw [if_neg c4] at h
    refine pv_e_bk (ps := [(13, .iload 4, 2)]) (t' := (0, 0, 15, [some (.ref 94), some (.int x1), some (.int x2), some (.int x3), some (.int q2)], [.int q2], pv_mm s T3)) (by decide +kernel) rfl ?_
    obtain rfl := Option.some.inj h
    cases hr
    exact pv_e_ri (by decide +kernel)
def f127_tear (x1 : Int32) (T : pv_T) : Option (Int32 × pv_T) :=
  (f120_askedRow x1 T).bind fun (q2, T3) =>
  if 0 ≤ q2 then
    (pv_wm T3 96 6 x1 (-9:Int32)).bind fun T5 =>
    some ((1:Int32), T5)
  else
    some (q2, T3)
theorem ee127 {xs : Nat → Int32} {L : Nat} (d : Nat) (x1 : Int32) {s : pv_F} {T : pv_T} {q : Int32 × pv_T}  (h : f127_tear x1 T = some q) : pv_Ev xs L (d + 3) 127 (0, 0, 0, [some (.ref 94), some (.int x1), none], [], pv_mm s T) (some (.int q.1), pv_mm s q.2) := by
  generalize hr : ((some (.int q.1), pv_mm s q.2) : Option Value × pv_M) = r
  unfold f127_tear at h
  refine pv_e_bk (ps := [(0, .aload_n 0, 1), (1, .iload_n 1, 1)]) (t' := (0, 0, 2, [some (.ref 94), some (.int x1), none], [.int x1, .ref 94], pv_mm s T)) (by decide +kernel) rfl ?_
  obtain ⟨⟨q2, T3⟩, e1, h⟩ := Option.bind_eq_some_iff.mp h
  dsimp only at h
  refine pv_e_cvi (d := d + 2) (i := 102) (z := 120) (np := 1) (ml := 2) (ci := 6) (As := [.int x1]) (rs := []) (pc' := 5) (by decide +kernel) rfl rfl rfl rfl (Nat.le_of_ble_eq_true rfl) (Nat.le_of_ble_eq_true rfl) rfl (ee120 (d + 0) x1 e1) ?_
  refine pv_e_bk (ps := [(5, .istore_n 2, 1), (6, .iload_n 2, 1)]) (t' := (0, 0, 7, [some (.ref 94), some (.int x1), some (.int q2)], [.int q2], pv_mm s T3)) (by decide +kernel) rfl ?_
  refine pv_e_ifge (off := 5) (b := 12) (pc' := 10) (by decide +kernel) (by decide +kernel) rfl (fun c4 => ?_) (fun c4 => ?_)
  · rw [if_pos c4] at h
    refine pv_e_bk (ps := [(12, .aload_n 0, 1)]) (t' := (0, 0, 13, [some (.ref 94), some (.int x1), some (.int q2)], [.ref 94], pv_mm s T3)) (by decide +kernel) rfl ?_
    refine pv_e_gr (i := 13) (ci := 6) (j := 3) (b := 96) (pc' := 16) (by decide +kernel) rfl rfl rfl ?_
    refine pv_e_bk (ps := [(16, .iload_n 1, 1), (17, .bipush (-9), 2)]) (t' := (0, 0, 19, [some (.ref 94), some (.int x1), some (.int q2)], [.int (-9:Int32), .int x1, .ref 96], pv_mm s T3)) (by decide +kernel) rfl ?_
    obtain ⟨T5, e6, h⟩ := Option.bind_eq_some_iff.mp h
    refine pv_e_wm (pc' := 20) (by decide +kernel) (by decide) rfl e6 rfl ?_
    refine pv_e_bk (ps := [(20, .iconst 1, 1)]) (t' := (0, 0, 21, [some (.ref 94), some (.int x1), some (.int q2)], [.int (1:Int32)], pv_mm s T5)) (by decide +kernel) rfl ?_
    obtain rfl := Option.some.inj h
    cases hr
    exact pv_e_ri (by decide +kernel)
  · rw [if_neg c4] at h
    refine pv_e_bk (ps := [(10, .iload_n 2, 1)]) (t' := (0, 0, 11, [some (.ref 94), some (.int x1), some (.int q2)], [.int q2], pv_mm s T3)) (by decide +kernel) rfl ?_
    obtain rfl := Option.some.inj h
    cases hr
    exact pv_e_ri (by decide +kernel)
