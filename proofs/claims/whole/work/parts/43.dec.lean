-- printed by wip/whole/gen/parts.py: methods as functions over the ints of the memory, and that the pure machine runs so
def f206_divisor_b1 (st : Int32 × Int32) : Option ((Int32 × Int32) ⊕ (Int32 × Int32)) := match st with
  | (v2, v3) =>
    if v3 = 0 then
      some (.inr (v2, v3))
    else
      (pv_rmd v2 v3).bind fun q2 =>
      some (.inl (v3, q2))
def f206_divisor_b1_H (xs : Nat → Int32) (L d : Nat) (r : Option Value × pv_M) (M : pv_M) (v0 : Int32) (v1 : Int32) (st : Int32 × Int32) : Prop := match st with
  | (v2, v3) => ∀ z4 : Option Value, pv_Ev xs L (d + 0) 206 (0, 0, 4, [some (.int v0), some (.int v1), some (.int v2), some (.int v3), z4], [], M) r
def f206_divisor_b1_X (xs : Nat → Int32) (L d : Nat) (r : Option Value × pv_M) (M : pv_M) (v0 : Int32) (v1 : Int32) (st : Int32 × Int32) : Prop := match st with
  | (v2, v3) => ∀ z3 : Option Value, ∀ z4 : Option Value, pv_Ev xs L (d + 0) 206 (0, 0, 21, [some (.int v0), some (.int v1), some (.int v2), z3, z4], [], M) r
def f206_divisor (x0 : Int32) (x1 : Int32) : Option (Int32) :=
  (pv_lq (f206_divisor_b1) 20000 (x0, x1)).bind fun (w4, w5) =>
  some w4
theorem f206_divisor_b1_ok {xs : Nat → Int32} {L d : Nat} {r : Option Value × pv_M} {M : pv_M} {v0 : Int32} {v1 : Int32} (st : Int32 × Int32) (o : (Int32 × Int32) ⊕ (Int32 × Int32)) (h : f206_divisor_b1 st = some o) (hK : pv_Kq (f206_divisor_b1_H xs L d r M v0 v1) (f206_divisor_b1_X xs L d r M v0 v1) o) : f206_divisor_b1_H xs L d r M v0 v1 st := by
  obtain ⟨v2, v3⟩ := st
  show ∀ z4 : Option Value, pv_Ev xs L (d + 0) 206 (0, 0, 4, [some (.int v0), some (.int v1), some (.int v2), some (.int v3), z4], [], M) r
  intro z4
  unfold f206_divisor_b1 at h
  dsimp only at h
  refine pv_e_bk (ps := [(4, .iload_n 3, 1)]) (t' := (0, 0, 5, [some (.int v0), some (.int v1), some (.int v2), some (.int v3), z4], [.int v3], M)) (by decide +kernel) rfl ?_
  refine pv_e_ifeq (off := 16) (b := 21) (pc' := 8) (by decide +kernel) (by decide +kernel) rfl (fun c1 => ?_) (fun c1 => ?_)
  · rw [if_pos c1] at h
    obtain rfl := Option.some.inj h
    exact hK _ _
  · rw [if_neg c1] at h
    refine pv_e_bk (ps := [(8, .iload_n 2, 1), (9, .iload_n 3, 1)]) (t' := (0, 0, 10, [some (.int v0), some (.int v1), some (.int v2), some (.int v3), z4], [.int v3, .int v2], M)) (by decide +kernel) rfl ?_
    obtain ⟨q2, e3, h⟩ := Option.bind_eq_some_iff.mp h
    refine pv_e_rm_ (pc' := 11) (by decide +kernel) e3 rfl ?_
    refine pv_e_bk (ps := [(11, .istore 4, 2), (13, .iload_n 3, 1), (14, .istore_n 2, 1), (15, .iload 4, 2), (17, .istore_n 3, 1), (18, .goto (-14), 3)]) (t' := (0, 0, 4, [some (.int v0), some (.int v1), some (.int v3), some (.int q2), some (.int q2)], [], M)) (by decide +kernel) rfl ?_
    obtain rfl := Option.some.inj h
    exact hK _
theorem ee206 {xs : Nat → Int32} {L : Nat} (d : Nat) (x0 : Int32) (x1 : Int32) {M : pv_M} {q : Int32}  (h : f206_divisor x0 x1 = some q) : pv_Ev xs L (d + 0) 206 (0, 0, 0, [some (.int x0), some (.int x1), none, none, none], [], M) (some (.int q), M) := by
  generalize hr : ((some (.int q), M) : Option Value × pv_M) = r
  unfold f206_divisor at h
  refine pv_e_bk (ps := [(0, .iload_n 0, 1), (1, .istore_n 2, 1), (2, .iload_n 1, 1), (3, .istore_n 3, 1)]) (t' := (0, 0, 4, [some (.int x0), some (.int x1), some (.int x0), some (.int x1), none], [], M)) (by decide +kernel) rfl ?_
  obtain ⟨⟨w4, w5⟩, e7, h⟩ := Option.bind_eq_some_iff.mp h
  dsimp only at h
  have hx6 : f206_divisor_b1_X xs L d r M x0 x1 (w4, w5) := by
    show ∀ z3 : Option Value, ∀ z4 : Option Value, pv_Ev xs L (d + 0) 206 (0, 0, 21, [some (.int x0), some (.int x1), some (.int w4), z3, z4], [], M) r
    intro z3 z4
    refine pv_e_bk (ps := [(21, .iload_n 2, 1)]) (t' := (0, 0, 22, [some (.int x0), some (.int x1), some (.int w4), z3, z4], [.int w4], M)) (by decide +kernel) rfl ?_
    obtain rfl := Option.some.inj h
    cases hr
    exact pv_e_ri (by decide +kernel)
  exact pv_lq_ok (H := f206_divisor_b1_H xs L d r M x0 x1) (X := f206_divisor_b1_X xs L d r M x0 x1) (f206_divisor_b1_ok (xs := xs) (L := L) (d := d) (r := r) (M := M) (v0 := x0) (v1 := x1)) 20000 _ _ e7 hx6 _
def f207_upper (T : pv_T) : Option (Int64) :=
  (f205_sumOf (56:Int32) T).bind fun q2 =>
  ((
    if q2 = 0 then
      some (0:Int64)
    else
      (f205_sumOf (63:Int32) T).bind fun q8 =>
      (f205_sumOf (63:Int32) T).bind fun q10 =>
      (f206_divisor q10 q2).bind fun q12 =>
      (pv_dv q8 q12).bind fun q13 =>
      some q13.toInt64) : Option (Int64)).bind fun t3 =>
  some t3
theorem ee207 {xs : Nat → Int32} {L : Nat} (d : Nat)  {s : pv_F} {T : pv_T} {q : Int64}  (h : f207_upper T = some q) : pv_Ev xs L (d + 1) 207 (0, 0, 0, [some (.ref 94), none], [], pv_mm s T) (some (.long q), pv_mm s T) := by
  generalize hr : ((some (.long q), pv_mm s T) : Option Value × pv_M) = r
  unfold f207_upper at h
  refine pv_e_bk (ps := [(0, .aload_n 0, 1), (1, .bipush 56, 2)]) (t' := (0, 0, 3, [some (.ref 94), none], [.int (56:Int32), .ref 94], pv_mm s T)) (by decide +kernel) rfl ?_
  obtain ⟨q2, e1, h⟩ := Option.bind_eq_some_iff.mp h
  refine pv_e_cvi (d := d + 0) (i := 298) (z := 205) (np := 1) (ml := 4) (ci := 6) (As := [.int (56:Int32)]) (rs := []) (pc' := 6) (by decide +kernel) rfl rfl rfl rfl (Nat.le_of_ble_eq_true rfl) (Nat.le_of_ble_eq_true rfl) rfl (ee205 (d + 0) (56:Int32) e1) ?_
  refine pv_e_bk (ps := [(6, .istore_n 1, 1), (7, .iload_n 1, 1)]) (t' := (0, 0, 8, [some (.ref 94), some (.int q2)], [.int q2], pv_mm s T)) (by decide +kernel) rfl ?_
  obtain ⟨t3, hv4, h⟩ := Option.bind_eq_some_iff.mp h
  have hJ5 : pv_Ev xs L (d + 1) 207 (0, 0, 33, [some (.ref 94), some (.int q2)], [.long t3], pv_mm s T) r := by
    obtain rfl := Option.some.inj h
    cases hr
    exact pv_e_rl (by decide +kernel)
  clear h
  have h := hv4
  clear hv4
  refine pv_e_ifne (off := 7) (b := 15) (pc' := 11) (by decide +kernel) (by decide +kernel) rfl (fun c6 => ?_) (fun c6 => ?_)
  · rw [if_pos c6] at h
    refine pv_e_bk (ps := [(11, .lconst 0, 1), (12, .goto 21, 3)]) (t' := (0, 0, 33, [some (.ref 94), some (.int q2)], [.long (0:Int64)], pv_mm s T)) (by decide +kernel) rfl ?_
    obtain rfl := Option.some.inj h
    exact hJ5
  · rw [if_neg c6] at h
    refine pv_e_bk (ps := [(15, .aload_n 0, 1), (16, .bipush 63, 2)]) (t' := (0, 0, 18, [some (.ref 94), some (.int q2)], [.int (63:Int32), .ref 94], pv_mm s T)) (by decide +kernel) rfl ?_
    obtain ⟨q8, e7, h⟩ := Option.bind_eq_some_iff.mp h
    refine pv_e_cvi (d := d + 0) (i := 298) (z := 205) (np := 1) (ml := 4) (ci := 6) (As := [.int (63:Int32)]) (rs := []) (pc' := 21) (by decide +kernel) rfl rfl rfl rfl (Nat.le_of_ble_eq_true rfl) (Nat.le_of_ble_eq_true rfl) rfl (ee205 (d + 0) (63:Int32) e7) ?_
    refine pv_e_bk (ps := [(21, .aload_n 0, 1), (22, .bipush 63, 2)]) (t' := (0, 0, 24, [some (.ref 94), some (.int q2)], [.int (63:Int32), .ref 94, .int q8], pv_mm s T)) (by decide +kernel) rfl ?_
    obtain ⟨q10, e9, h⟩ := Option.bind_eq_some_iff.mp h
    refine pv_e_cvi (d := d + 0) (i := 298) (z := 205) (np := 1) (ml := 4) (ci := 6) (As := [.int (63:Int32)]) (rs := [.int q8]) (pc' := 27) (by decide +kernel) rfl rfl rfl rfl (Nat.le_of_ble_eq_true rfl) (Nat.le_of_ble_eq_true rfl) rfl (ee205 (d + 0) (63:Int32) e9) ?_
    refine pv_e_bk (ps := [(27, .iload_n 1, 1)]) (t' := (0, 0, 28, [some (.ref 94), some (.int q2)], [.int q2, .int q10, .int q8], pv_mm s T)) (by decide +kernel) rfl ?_
    obtain ⟨q12, e11, h⟩ := Option.bind_eq_some_iff.mp h
    refine pv_e_csi (d := d + 0) (i := 301) (z := 206) (np := 2) (ml := 5) (As := [.int q10, .int q2]) (rs := [.int q8]) (pc' := 31) (by decide +kernel) rfl rfl rfl (Nat.le_of_ble_eq_true rfl) (Nat.le_of_ble_eq_true rfl) rfl (ee206 (d + 0) q10 q2 e11) ?_
    obtain ⟨q13, e14, h⟩ := Option.bind_eq_some_iff.mp h
    refine pv_e_dv (pc' := 32) (by decide +kernel) e14 rfl ?_
    refine pv_e_bk (ps := [(32, .i2l, 1)]) (t' := (0, 0, 33, [some (.ref 94), some (.int q2)], [.long q13.toInt64], pv_mm s T)) (by decide +kernel) rfl ?_
    obtain rfl := Option.some.inj h
    exact hJ5
def f208_lower (T : pv_T) : Option (Int64) :=
  (f205_sumOf (56:Int32) T).bind fun q2 =>
  ((
    if q2 = 0 then
      some (1:Int64)
    else
      (f205_sumOf (63:Int32) T).bind fun q8 =>
      (f206_divisor q8 q2).bind fun q10 =>
      (pv_dv q2 q10).bind fun q11 =>
      some q11.toInt64) : Option (Int64)).bind fun t3 =>
  some t3
theorem ee208 {xs : Nat → Int32} {L : Nat} (d : Nat)  {s : pv_F} {T : pv_T} {q : Int64}  (h : f208_lower T = some q) : pv_Ev xs L (d + 1) 208 (0, 0, 0, [some (.ref 94), none], [], pv_mm s T) (some (.long q), pv_mm s T) := by
  generalize hr : ((some (.long q), pv_mm s T) : Option Value × pv_M) = r
  unfold f208_lower at h
  refine pv_e_bk (ps := [(0, .aload_n 0, 1), (1, .bipush 56, 2)]) (t' := (0, 0, 3, [some (.ref 94), none], [.int (56:Int32), .ref 94], pv_mm s T)) (by decide +kernel) rfl ?_
  obtain ⟨q2, e1, h⟩ := Option.bind_eq_some_iff.mp h
  refine pv_e_cvi (d := d + 0) (i := 298) (z := 205) (np := 1) (ml := 4) (ci := 6) (As := [.int (56:Int32)]) (rs := []) (pc' := 6) (by decide +kernel) rfl rfl rfl rfl (Nat.le_of_ble_eq_true rfl) (Nat.le_of_ble_eq_true rfl) rfl (ee205 (d + 0) (56:Int32) e1) ?_
  refine pv_e_bk (ps := [(6, .istore_n 1, 1), (7, .iload_n 1, 1)]) (t' := (0, 0, 8, [some (.ref 94), some (.int q2)], [.int q2], pv_mm s T)) (by decide +kernel) rfl ?_
  obtain ⟨t3, hv4, h⟩ := Option.bind_eq_some_iff.mp h
  have hJ5 : pv_Ev xs L (d + 1) 208 (0, 0, 28, [some (.ref 94), some (.int q2)], [.long t3], pv_mm s T) r := by
    obtain rfl := Option.some.inj h
    cases hr
    exact pv_e_rl (by decide +kernel)
  clear h
  have h := hv4
  clear hv4
  refine pv_e_ifne (off := 7) (b := 15) (pc' := 11) (by decide +kernel) (by decide +kernel) rfl (fun c6 => ?_) (fun c6 => ?_)
  · rw [if_pos c6] at h
    refine pv_e_bk (ps := [(11, .lconst 1, 1), (12, .goto 16, 3)]) (t' := (0, 0, 28, [some (.ref 94), some (.int q2)], [.long (1:Int64)], pv_mm s T)) (by decide +kernel) rfl ?_
    obtain rfl := Option.some.inj h
    exact hJ5
  · rw [if_neg c6] at h
    refine pv_e_bk (ps := [(15, .iload_n 1, 1), (16, .aload_n 0, 1), (17, .bipush 63, 2)]) (t' := (0, 0, 19, [some (.ref 94), some (.int q2)], [.int (63:Int32), .ref 94, .int q2], pv_mm s T)) (by decide +kernel) rfl ?_
    obtain ⟨q8, e7, h⟩ := Option.bind_eq_some_iff.mp h
    refine pv_e_cvi (d := d + 0) (i := 298) (z := 205) (np := 1) (ml := 4) (ci := 6) (As := [.int (63:Int32)]) (rs := [.int q2]) (pc' := 22) (by decide +kernel) rfl rfl rfl rfl (Nat.le_of_ble_eq_true rfl) (Nat.le_of_ble_eq_true rfl) rfl (ee205 (d + 0) (63:Int32) e7) ?_
    refine pv_e_bk (ps := [(22, .iload_n 1, 1)]) (t' := (0, 0, 23, [some (.ref 94), some (.int q2)], [.int q2, .int q8, .int q2], pv_mm s T)) (by decide +kernel) rfl ?_
    obtain ⟨q10, e9, h⟩ := Option.bind_eq_some_iff.mp h
    refine pv_e_csi (d := d + 0) (i := 301) (z := 206) (np := 2) (ml := 5) (As := [.int q8, .int q2]) (rs := [.int q2]) (pc' := 26) (by decide +kernel) rfl rfl rfl (Nat.le_of_ble_eq_true rfl) (Nat.le_of_ble_eq_true rfl) rfl (ee206 (d + 0) q8 q2 e9) ?_
    obtain ⟨q11, e12, h⟩ := Option.bind_eq_some_iff.mp h
    refine pv_e_dv (pc' := 27) (by decide +kernel) e12 rfl ?_
    refine pv_e_bk (ps := [(27, .i2l, 1)]) (t' := (0, 0, 28, [some (.ref 94), some (.int q2)], [.long q11.toInt64], pv_mm s T)) (by decide +kernel) rfl ?_
    obtain rfl := Option.some.inj h
    exact hJ5
def f209_tells_j1 (v1 : Int32) (v2 : Int32) (v3 : Int32) (T : pv_T) : Option (Int32) :=
  some (0:Int32)
def f209_tells_j2 (v1 : Int32) (v2 : Int32) (v3 : Int32) (T : pv_T) : Option (Int32) :=
  some (1:Int32)
def f209_tells_j3 (v1 : Int32) (v2 : Int32) (v3 : Int32) (T : pv_T) : Option (Int32) :=
  if v1 = (7:Int32) then
    if (4:Int32) ≤ v3 then
      f209_tells_j1 v1 v2 v3 T
    else
      (pv_rd T.1 99 4 v3).bind fun q10 =>
      if q10 < 0 then
        f209_tells_j1 v1 v2 v3 T
      else
        f209_tells_j2 v1 v2 v3 T
  else
    f209_tells_j1 v1 v2 v3 T
def f209_tells_j4 (v1 : Int32) (v2 : Int32) (v3 : Int32) (T : pv_T) : Option (Int32) :=
  if v1 = (6:Int32) then
    if (6:Int32) ≤ v3 then
      f209_tells_j3 v1 v2 v3 T
    else
      (pv_rd T.1 96 6 v3).bind fun q16 =>
      if 0 ≤ q16 then
        f209_tells_j2 v1 v2 v3 T
      else
        f209_tells_j3 v1 v2 v3 T
  else
    f209_tells_j3 v1 v2 v3 T
def f209_tells_j5 (v1 : Int32) (v2 : Int32) (v3 : Int32) (T : pv_T) : Option (Int32) :=
  if v1 = (5:Int32) then
    if (3:Int32) ≤ v3 then
      f209_tells_j4 v1 v2 v3 T
    else
      (pv_rd T.1 107 3 v3).bind fun q22 =>
      if q22 = (-9:Int32) then
        f209_tells_j4 v1 v2 v3 T
      else
        f209_tells_j2 v1 v2 v3 T
  else
    f209_tells_j4 v1 v2 v3 T
def f209_tells_j6 (v1 : Int32) (v2 : Int32) (v3 : Int32) (T : pv_T) : Option (Int32) :=
  if v1 = (4:Int32) then
    if (T.1 94 8) ≤ v3 then
      f209_tells_j5 v1 v2 v3 T
    else
      (pv_rd T.1 101 7 v3).bind fun q28 =>
      if q28 = (3:Int32) then
        f209_tells_j2 v1 v2 v3 T
      else
        (f142_lenOf v3 T).bind fun q32 =>
        if q32 = 0 then
          f209_tells_j2 v1 v2 v3 T
        else
          f209_tells_j5 v1 v2 v3 T
  else
    f209_tells_j5 v1 v2 v3 T
def f209_tells_b1 (v1 : Int32) (T : pv_T) (st : Int32 × Int32) : Option ((Int32 × Int32) ⊕ (Int32 × Int32)) := match st with
  | (v2, v3) =>
    if (7:Int32) ≤ v3 then
      some (.inr (v2, v3))
    else
      ((
        if v1 = (3:Int32) then
          if (T.1 94 8) ≤ v3 then
            f209_tells_j6 v1 v2 v3 T
          else
            (f141_isA v3 (1:Int32) T).bind fun q37 =>
            if q37 = 0 then
              f209_tells_j6 v1 v2 v3 T
            else
              f209_tells_j2 v1 v2 v3 T
        else
          f209_tells_j6 v1 v2 v3 T) : Option (Int32)).bind fun t2 =>
      some (.inl (v2 + t2, v3 + (1:Int32)))
def f209_tells_b1_H (xs : Nat → Int32) (L d : Nat) (r : Option Value × pv_M) (s : pv_F) (v1 : Int32) (T : pv_T) (st : Int32 × Int32) : Prop := match st with
  | (v2, v3) => pv_Ev xs L (d + 1) 209 (0, 0, 4, [some (.ref 94), some (.int v1), some (.int v2), some (.int v3)], [], pv_mm s T) r
def f209_tells_b1_X (xs : Nat → Int32) (L d : Nat) (r : Option Value × pv_M) (s : pv_F) (v1 : Int32) (T : pv_T) (st : Int32 × Int32) : Prop := match st with
  | (v2, v3) => ∀ z3 : Option Value, pv_Ev xs L (d + 1) 209 (0, 0, 139, [some (.ref 94), some (.int v1), some (.int v2), z3], [], pv_mm s T) r
def f209_tells (x1 : Int32) (T : pv_T) : Option (Int32) :=
  (pv_lq (f209_tells_b1 x1 T) 20000 ((0:Int32), (0:Int32))).bind fun (w39, w40) =>
  if x1 = (0:Int32) then
    some (T.1 94 8)
  else
    if x1 = (1:Int32) then
      some (T.1 94 18)
    else
      if x1 = (2:Int32) then
        (f205_sumOf (42:Int32) T).bind fun q45 =>
        some q45
      else
        if x1 = (3:Int32) then
          some w39
        else
          if x1 = (4:Int32) then
            some w39
          else
            if x1 = (5:Int32) then
              some w39
            else
              if x1 = (6:Int32) then
                some w39
              else
                if x1 = (7:Int32) then
                  some w39
                else
                  if x1 = (8:Int32) then
                    (pv_rd T.1 105 78 (77:Int32)).bind fun q52 =>
                    some q52
                  else
                    some w39
theorem f209_tells_b1_ok {xs : Nat → Int32} {L d : Nat} {r : Option Value × pv_M} {s : pv_F} {v1 : Int32} {T : pv_T} (st : Int32 × Int32) (o : (Int32 × Int32) ⊕ (Int32 × Int32)) (h : f209_tells_b1 v1 T st = some o) (hK : pv_Kq (f209_tells_b1_H xs L d r s v1 T) (f209_tells_b1_X xs L d r s v1 T) o) : f209_tells_b1_H xs L d r s v1 T st := by
  obtain ⟨v2, v3⟩ := st
  show pv_Ev xs L (d + 1) 209 (0, 0, 4, [some (.ref 94), some (.int v1), some (.int v2), some (.int v3)], [], pv_mm s T) r
  unfold f209_tells_b1 at h
  dsimp only at h
  refine pv_e_bk (ps := [(4, .iload_n 3, 1), (5, .bipush 7, 2)]) (t' := (0, 0, 7, [some (.ref 94), some (.int v1), some (.int v2), some (.int v3)], [.int (7:Int32), .int v3], pv_mm s T)) (by decide +kernel) rfl ?_
  refine pv_e_icmpge (off := 132) (b := 139) (pc' := 10) (by decide +kernel) (by decide +kernel) rfl (fun c1 => ?_) (fun c1 => ?_)
  · rw [if_pos c1] at h
    obtain rfl := Option.some.inj h
    exact hK _
  · rw [if_neg c1] at h
    refine pv_e_bk (ps := [(10, .iload_n 2, 1), (11, .iload_n 1, 1), (12, .iconst 3, 1)]) (t' := (0, 0, 13, [some (.ref 94), some (.int v1), some (.int v2), some (.int v3)], [.int (3:Int32), .int v1, .int v2], pv_mm s T)) (by decide +kernel) rfl ?_
    obtain ⟨t2, hv3, h⟩ := Option.bind_eq_some_iff.mp h
    have hJ4 : pv_Ev xs L (d + 1) 209 (0, 0, 131, [some (.ref 94), some (.int v1), some (.int v2), some (.int v3)], [.int t2, .int v2], pv_mm s T) r := by
      refine pv_e_bk (ps := [(131, .iadd, 1), (132, .istore_n 2, 1), (133, .iinc 3 1, 3), (136, .goto (-132), 3)]) (t' := (0, 0, 4, [some (.ref 94), some (.int v1), some (.int (v2 + t2)), some (.int (v3 + (1:Int32)))], [], pv_mm s T)) (by decide +kernel) rfl ?_
      obtain rfl := Option.some.inj h
      exact hK
    clear h
    have hc5 : f209_tells_j1 v1 v2 v3 T = some t2 → pv_Ev xs L (d + 1) 209 (0, 0, 130, [some (.ref 94), some (.int v1), some (.int v2), some (.int v3)], [.int v2], pv_mm s T) r := by
      intro h
      unfold f209_tells_j1 at h
      refine pv_e_bk (ps := [(130, .iconst 0, 1)]) (t' := (0, 0, 131, [some (.ref 94), some (.int v1), some (.int v2), some (.int v3)], [.int (0:Int32), .int v2], pv_mm s T)) (by decide +kernel) rfl ?_
      obtain rfl := Option.some.inj h
      exact hJ4
    have hc6 : f209_tells_j2 v1 v2 v3 T = some t2 → pv_Ev xs L (d + 1) 209 (0, 0, 126, [some (.ref 94), some (.int v1), some (.int v2), some (.int v3)], [.int v2], pv_mm s T) r := by
      intro h
      unfold f209_tells_j2 at h
      refine pv_e_bk (ps := [(126, .iconst 1, 1), (127, .goto 4, 3)]) (t' := (0, 0, 131, [some (.ref 94), some (.int v1), some (.int v2), some (.int v3)], [.int (1:Int32), .int v2], pv_mm s T)) (by decide +kernel) rfl ?_
      obtain rfl := Option.some.inj h
      exact hJ4
    have hc7 : f209_tells_j3 v1 v2 v3 T = some t2 → pv_Ev xs L (d + 1) 209 (0, 0, 106, [some (.ref 94), some (.int v1), some (.int v2), some (.int v3)], [.int v2], pv_mm s T) r := by
      intro h
      unfold f209_tells_j3 at h
      refine pv_e_bk (ps := [(106, .iload_n 1, 1), (107, .bipush 7, 2)]) (t' := (0, 0, 109, [some (.ref 94), some (.int v1), some (.int v2), some (.int v3)], [.int (7:Int32), .int v1, .int v2], pv_mm s T)) (by decide +kernel) rfl ?_
      refine pv_e_icmpne (off := 21) (b := 130) (pc' := 112) (by decide +kernel) (by decide +kernel) rfl (fun c8 => ?_) (fun c8 => ?_)
      · rw [if_pos c8] at h
        refine pv_e_bk (ps := [(112, .iload_n 3, 1), (113, .iconst 4, 1)]) (t' := (0, 0, 114, [some (.ref 94), some (.int v1), some (.int v2), some (.int v3)], [.int (4:Int32), .int v3, .int v2], pv_mm s T)) (by decide +kernel) rfl ?_
        refine pv_e_icmpge (off := 16) (b := 130) (pc' := 117) (by decide +kernel) (by decide +kernel) rfl (fun c9 => ?_) (fun c9 => ?_)
        · rw [if_pos c9] at h
          exact hc5 h
        · rw [if_neg c9] at h
          refine pv_e_bk (ps := [(117, .aload_n 0, 1)]) (t' := (0, 0, 118, [some (.ref 94), some (.int v1), some (.int v2), some (.int v3)], [.ref 94, .int v2], pv_mm s T)) (by decide +kernel) rfl ?_
          refine pv_e_gr (i := 22) (ci := 6) (j := 6) (b := 99) (pc' := 121) (by decide +kernel) rfl rfl rfl ?_
          refine pv_e_bk (ps := [(121, .iload_n 3, 1)]) (t' := (0, 0, 122, [some (.ref 94), some (.int v1), some (.int v2), some (.int v3)], [.int v3, .ref 99, .int v2], pv_mm s T)) (by decide +kernel) rfl ?_
          obtain ⟨q10, e11, h⟩ := Option.bind_eq_some_iff.mp h
          refine pv_e_rm (pc' := 123) (by decide +kernel) (by decide) rfl e11 rfl ?_
          refine pv_e_iflt (off := 7) (b := 130) (pc' := 126) (by decide +kernel) (by decide +kernel) rfl (fun c12 => ?_) (fun c12 => ?_)
          · rw [if_pos c12] at h
            exact hc5 h
          · rw [if_neg c12] at h
            exact hc6 h
      · rw [if_neg c8] at h
        exact hc5 h
    have hc13 : f209_tells_j4 v1 v2 v3 T = some t2 → pv_Ev xs L (d + 1) 209 (0, 0, 85, [some (.ref 94), some (.int v1), some (.int v2), some (.int v3)], [.int v2], pv_mm s T) r := by
      intro h
      unfold f209_tells_j4 at h
      refine pv_e_bk (ps := [(85, .iload_n 1, 1), (86, .bipush 6, 2)]) (t' := (0, 0, 88, [some (.ref 94), some (.int v1), some (.int v2), some (.int v3)], [.int (6:Int32), .int v1, .int v2], pv_mm s T)) (by decide +kernel) rfl ?_
      refine pv_e_icmpne (off := 18) (b := 106) (pc' := 91) (by decide +kernel) (by decide +kernel) rfl (fun c14 => ?_) (fun c14 => ?_)
      · rw [if_pos c14] at h
        refine pv_e_bk (ps := [(91, .iload_n 3, 1), (92, .bipush 6, 2)]) (t' := (0, 0, 94, [some (.ref 94), some (.int v1), some (.int v2), some (.int v3)], [.int (6:Int32), .int v3, .int v2], pv_mm s T)) (by decide +kernel) rfl ?_
        refine pv_e_icmpge (off := 12) (b := 106) (pc' := 97) (by decide +kernel) (by decide +kernel) rfl (fun c15 => ?_) (fun c15 => ?_)
        · rw [if_pos c15] at h
          exact hc7 h
        · rw [if_neg c15] at h
          refine pv_e_bk (ps := [(97, .aload_n 0, 1)]) (t' := (0, 0, 98, [some (.ref 94), some (.int v1), some (.int v2), some (.int v3)], [.ref 94, .int v2], pv_mm s T)) (by decide +kernel) rfl ?_
          refine pv_e_gr (i := 13) (ci := 6) (j := 3) (b := 96) (pc' := 101) (by decide +kernel) rfl rfl rfl ?_
          refine pv_e_bk (ps := [(101, .iload_n 3, 1)]) (t' := (0, 0, 102, [some (.ref 94), some (.int v1), some (.int v2), some (.int v3)], [.int v3, .ref 96, .int v2], pv_mm s T)) (by decide +kernel) rfl ?_
          obtain ⟨q16, e17, h⟩ := Option.bind_eq_some_iff.mp h
          refine pv_e_rm (pc' := 103) (by decide +kernel) (by decide) rfl e17 rfl ?_
          refine pv_e_ifge (off := 23) (b := 126) (pc' := 106) (by decide +kernel) (by decide +kernel) rfl (fun c18 => ?_) (fun c18 => ?_)
          · rw [if_pos c18] at h
            exact hc6 h
          · rw [if_neg c18] at h
            exact hc7 h
      · rw [if_neg c14] at h
        exact hc7 h
    have hc19 : f209_tells_j5 v1 v2 v3 T = some t2 → pv_Ev xs L (d + 1) 209 (0, 0, 64, [some (.ref 94), some (.int v1), some (.int v2), some (.int v3)], [.int v2], pv_mm s T) r := by
      intro h
      unfold f209_tells_j5 at h
      refine pv_e_bk (ps := [(64, .iload_n 1, 1), (65, .iconst 5, 1)]) (t' := (0, 0, 66, [some (.ref 94), some (.int v1), some (.int v2), some (.int v3)], [.int (5:Int32), .int v1, .int v2], pv_mm s T)) (by decide +kernel) rfl ?_
      refine pv_e_icmpne (off := 19) (b := 85) (pc' := 69) (by decide +kernel) (by decide +kernel) rfl (fun c20 => ?_) (fun c20 => ?_)
      · rw [if_pos c20] at h
        refine pv_e_bk (ps := [(69, .iload_n 3, 1), (70, .iconst 3, 1)]) (t' := (0, 0, 71, [some (.ref 94), some (.int v1), some (.int v2), some (.int v3)], [.int (3:Int32), .int v3, .int v2], pv_mm s T)) (by decide +kernel) rfl ?_
        refine pv_e_icmpge (off := 14) (b := 85) (pc' := 74) (by decide +kernel) (by decide +kernel) rfl (fun c21 => ?_) (fun c21 => ?_)
        · rw [if_pos c21] at h
          exact hc13 h
        · rw [if_neg c21] at h
          refine pv_e_bk (ps := [(74, .aload_n 0, 1)]) (t' := (0, 0, 75, [some (.ref 94), some (.int v1), some (.int v2), some (.int v3)], [.ref 94, .int v2], pv_mm s T)) (by decide +kernel) rfl ?_
          refine pv_e_gr (i := 50) (ci := 6) (j := 20) (b := 107) (pc' := 78) (by decide +kernel) rfl rfl rfl ?_
          refine pv_e_bk (ps := [(78, .iload_n 3, 1)]) (t' := (0, 0, 79, [some (.ref 94), some (.int v1), some (.int v2), some (.int v3)], [.int v3, .ref 107, .int v2], pv_mm s T)) (by decide +kernel) rfl ?_
          obtain ⟨q22, e23, h⟩ := Option.bind_eq_some_iff.mp h
          refine pv_e_rm (pc' := 80) (by decide +kernel) (by decide) rfl e23 rfl ?_
          refine pv_e_bk (ps := [(80, .bipush (-9), 2)]) (t' := (0, 0, 82, [some (.ref 94), some (.int v1), some (.int v2), some (.int v3)], [.int (-9:Int32), .int q22, .int v2], pv_mm s T)) (by decide +kernel) rfl ?_
          refine pv_e_icmpne (off := 44) (b := 126) (pc' := 85) (by decide +kernel) (by decide +kernel) rfl (fun c24 => ?_) (fun c24 => ?_)
          · rw [if_pos c24] at h
            exact hc13 h
          · rw [if_neg c24] at h
            exact hc6 h
      · rw [if_neg c20] at h
        exact hc13 h
    have hc25 : f209_tells_j6 v1 v2 v3 T = some t2 → pv_Ev xs L (d + 1) 209 (0, 0, 33, [some (.ref 94), some (.int v1), some (.int v2), some (.int v3)], [.int v2], pv_mm s T) r := by
      intro h
      unfold f209_tells_j6 at h
      refine pv_e_bk (ps := [(33, .iload_n 1, 1), (34, .iconst 4, 1)]) (t' := (0, 0, 35, [some (.ref 94), some (.int v1), some (.int v2), some (.int v3)], [.int (4:Int32), .int v1, .int v2], pv_mm s T)) (by decide +kernel) rfl ?_
      refine pv_e_icmpne (off := 29) (b := 64) (pc' := 38) (by decide +kernel) (by decide +kernel) rfl (fun c26 => ?_) (fun c26 => ?_)
      · rw [if_pos c26] at h
        refine pv_e_bk (ps := [(38, .iload_n 3, 1), (39, .aload_n 0, 1)]) (t' := (0, 0, 40, [some (.ref 94), some (.int v1), some (.int v2), some (.int v3)], [.ref 94, .int v3, .int v2], pv_mm s T)) (by decide +kernel) rfl ?_
        refine pv_e_gm (i := 136) (ci := 6) (j := 8) (pc' := 43) (by decide +kernel) (by decide) rfl rfl rfl ?_
        refine pv_e_icmpge (off := 21) (b := 64) (pc' := 46) (by decide +kernel) (by decide +kernel) rfl (fun c27 => ?_) (fun c27 => ?_)
        · rw [if_pos c27] at h
          exact hc19 h
        · rw [if_neg c27] at h
          refine pv_e_bk (ps := [(46, .aload_n 0, 1)]) (t' := (0, 0, 47, [some (.ref 94), some (.int v1), some (.int v2), some (.int v3)], [.ref 94, .int v2], pv_mm s T)) (by decide +kernel) rfl ?_
          refine pv_e_gr (i := 32) (ci := 6) (j := 11) (b := 101) (pc' := 50) (by decide +kernel) rfl rfl rfl ?_
          refine pv_e_bk (ps := [(50, .iload_n 3, 1)]) (t' := (0, 0, 51, [some (.ref 94), some (.int v1), some (.int v2), some (.int v3)], [.int v3, .ref 101, .int v2], pv_mm s T)) (by decide +kernel) rfl ?_
          obtain ⟨q28, e29, h⟩ := Option.bind_eq_some_iff.mp h
          refine pv_e_rm (pc' := 52) (by decide +kernel) (by decide) rfl e29 rfl ?_
          refine pv_e_bk (ps := [(52, .iconst 3, 1)]) (t' := (0, 0, 53, [some (.ref 94), some (.int v1), some (.int v2), some (.int v3)], [.int (3:Int32), .int q28, .int v2], pv_mm s T)) (by decide +kernel) rfl ?_
          refine pv_e_icmpeq (off := 73) (b := 126) (pc' := 56) (by decide +kernel) (by decide +kernel) rfl (fun c30 => ?_) (fun c30 => ?_)
          · rw [if_pos c30] at h
            exact hc6 h
          · rw [if_neg c30] at h
            refine pv_e_bk (ps := [(56, .aload_n 0, 1), (57, .iload_n 3, 1)]) (t' := (0, 0, 58, [some (.ref 94), some (.int v1), some (.int v2), some (.int v3)], [.int v3, .ref 94, .int v2], pv_mm s T)) (by decide +kernel) rfl ?_
            obtain ⟨q32, e31, h⟩ := Option.bind_eq_some_iff.mp h
            refine pv_e_cvi (d := d + 0) (i := 142) (z := 142) (np := 1) (ml := 2) (ci := 6) (As := [.int v3]) (rs := [.int v2]) (pc' := 61) (by decide +kernel) rfl rfl rfl rfl (Nat.le_of_ble_eq_true rfl) (Nat.le_of_ble_eq_true rfl) rfl (ee142 (d + 0) v3 e31) ?_
            refine pv_e_ifeq (off := 65) (b := 126) (pc' := 64) (by decide +kernel) (by decide +kernel) rfl (fun c33 => ?_) (fun c33 => ?_)
            · rw [if_pos c33] at h
              exact hc6 h
            · rw [if_neg c33] at h
              exact hc19 h
      · rw [if_neg c26] at h
        exact hc19 h
    have h := hv3
    clear hv3
    refine pv_e_icmpne (off := 20) (b := 33) (pc' := 16) (by decide +kernel) (by decide +kernel) rfl (fun c34 => ?_) (fun c34 => ?_)
    · rw [if_pos c34] at h
      refine pv_e_bk (ps := [(16, .iload_n 3, 1), (17, .aload_n 0, 1)]) (t' := (0, 0, 18, [some (.ref 94), some (.int v1), some (.int v2), some (.int v3)], [.ref 94, .int v3, .int v2], pv_mm s T)) (by decide +kernel) rfl ?_
      refine pv_e_gm (i := 136) (ci := 6) (j := 8) (pc' := 21) (by decide +kernel) (by decide) rfl rfl rfl ?_
      refine pv_e_icmpge (off := 12) (b := 33) (pc' := 24) (by decide +kernel) (by decide +kernel) rfl (fun c35 => ?_) (fun c35 => ?_)
      · rw [if_pos c35] at h
        exact hc25 h
      · rw [if_neg c35] at h
        refine pv_e_bk (ps := [(24, .aload_n 0, 1), (25, .iload_n 3, 1), (26, .iconst 1, 1)]) (t' := (0, 0, 27, [some (.ref 94), some (.int v1), some (.int v2), some (.int v3)], [.int (1:Int32), .int v3, .ref 94, .int v2], pv_mm s T)) (by decide +kernel) rfl ?_
        obtain ⟨q37, e36, h⟩ := Option.bind_eq_some_iff.mp h
        refine pv_e_cvi (d := d + 0) (i := 158) (z := 141) (np := 2) (ml := 3) (ci := 6) (As := [.int v3, .int (1:Int32)]) (rs := [.int v2]) (pc' := 30) (by decide +kernel) rfl rfl rfl rfl (Nat.le_of_ble_eq_true rfl) (Nat.le_of_ble_eq_true rfl) rfl (ee141 (d + 0) v3 (1:Int32) e36) ?_
        refine pv_e_ifne (off := 96) (b := 126) (pc' := 33) (by decide +kernel) (by decide +kernel) rfl (fun c38 => ?_) (fun c38 => ?_)
        · rw [if_pos c38] at h
          exact hc25 h
        · rw [if_neg c38] at h
          exact hc6 h
    · rw [if_neg c34] at h
      exact hc25 h
theorem ee209 {xs : Nat → Int32} {L : Nat} (d : Nat) (x1 : Int32) {s : pv_F} {T : pv_T} {q : Int32}  (h : f209_tells x1 T = some q) : pv_Ev xs L (d + 1) 209 (0, 0, 0, [some (.ref 94), some (.int x1), none, none], [], pv_mm s T) (some (.int q), pv_mm s T) := by
  generalize hr : ((some (.int q), pv_mm s T) : Option Value × pv_M) = r
  unfold f209_tells at h
  refine pv_e_bk (ps := [(0, .iconst 0, 1), (1, .istore_n 2, 1), (2, .iconst 0, 1), (3, .istore_n 3, 1)]) (t' := (0, 0, 4, [some (.ref 94), some (.int x1), some (.int (0:Int32)), some (.int (0:Int32))], [], pv_mm s T)) (by decide +kernel) rfl ?_
  obtain ⟨⟨w39, w40⟩, e55, h⟩ := Option.bind_eq_some_iff.mp h
  dsimp only at h
  have hx54 : f209_tells_b1_X xs L d r s x1 T (w39, w40) := by
    show ∀ z3 : Option Value, pv_Ev xs L (d + 1) 209 (0, 0, 139, [some (.ref 94), some (.int x1), some (.int w39), z3], [], pv_mm s T) r
    intro z3
    refine pv_e_bk (ps := [(139, .iload_n 1, 1)]) (t' := (0, 0, 140, [some (.ref 94), some (.int x1), some (.int w39), z3], [.int x1], pv_mm s T)) (by decide +kernel) rfl ?_
    by_cases c41 : x1 = (0:Int32)
    · rw [if_pos c41] at h
      refine pv_e_swin (dflt := 77) (lo := 0) (hi := 8) (offs := #[52, 57, 62, 77, 77, 77, 77, 77, 69]) (len := 52) (off := 52) (b := 192) (by decide +kernel) (by rw [c41]; decide +kernel) (by rw [c41]; decide +kernel) (by decide +kernel) ?_
      refine pv_e_bk (ps := [(192, .aload_n 0, 1)]) (t' := (0, 0, 193, [some (.ref 94), some (.int x1), some (.int w39), z3], [.ref 94], pv_mm s T)) (by decide +kernel) rfl ?_
      refine pv_e_gm (i := 136) (ci := 6) (j := 8) (pc' := 196) (by decide +kernel) (by decide) rfl rfl rfl ?_
      obtain rfl := Option.some.inj h
      cases hr
      exact pv_e_ri (by decide +kernel)
    · rw [if_neg c41] at h
      by_cases c42 : x1 = (1:Int32)
      · rw [if_pos c42] at h
        refine pv_e_swin (dflt := 77) (lo := 0) (hi := 8) (offs := #[52, 57, 62, 77, 77, 77, 77, 77, 69]) (len := 52) (off := 57) (b := 197) (by decide +kernel) (by rw [c42]; decide +kernel) (by rw [c42]; decide +kernel) (by decide +kernel) ?_
        refine pv_e_bk (ps := [(197, .aload_n 0, 1)]) (t' := (0, 0, 198, [some (.ref 94), some (.int x1), some (.int w39), z3], [.ref 94], pv_mm s T)) (by decide +kernel) rfl ?_
        refine pv_e_gm (i := 139) (ci := 6) (j := 18) (pc' := 201) (by decide +kernel) (by decide) rfl rfl rfl ?_
        obtain rfl := Option.some.inj h
        cases hr
        exact pv_e_ri (by decide +kernel)
      · rw [if_neg c42] at h
        by_cases c43 : x1 = (2:Int32)
        · rw [if_pos c43] at h
          refine pv_e_swin (dflt := 77) (lo := 0) (hi := 8) (offs := #[52, 57, 62, 77, 77, 77, 77, 77, 69]) (len := 52) (off := 62) (b := 202) (by decide +kernel) (by rw [c43]; decide +kernel) (by rw [c43]; decide +kernel) (by decide +kernel) ?_
          refine pv_e_bk (ps := [(202, .aload_n 0, 1), (203, .bipush 42, 2)]) (t' := (0, 0, 205, [some (.ref 94), some (.int x1), some (.int w39), z3], [.int (42:Int32), .ref 94], pv_mm s T)) (by decide +kernel) rfl ?_
          obtain ⟨q45, e44, h⟩ := Option.bind_eq_some_iff.mp h
          refine pv_e_cvi (d := d + 0) (i := 298) (z := 205) (np := 1) (ml := 4) (ci := 6) (As := [.int (42:Int32)]) (rs := []) (pc' := 208) (by decide +kernel) rfl rfl rfl rfl (Nat.le_of_ble_eq_true rfl) (Nat.le_of_ble_eq_true rfl) rfl (ee205 (d + 0) (42:Int32) e44) ?_
          obtain rfl := Option.some.inj h
          cases hr
          exact pv_e_ri (by decide +kernel)
        · rw [if_neg c43] at h
          by_cases c46 : x1 = (3:Int32)
          · rw [if_pos c46] at h
            refine pv_e_swin (dflt := 77) (lo := 0) (hi := 8) (offs := #[52, 57, 62, 77, 77, 77, 77, 77, 69]) (len := 52) (off := 77) (b := 217) (by decide +kernel) (by rw [c46]; decide +kernel) (by rw [c46]; decide +kernel) (by decide +kernel) ?_
            refine pv_e_bk (ps := [(217, .iload_n 2, 1)]) (t' := (0, 0, 218, [some (.ref 94), some (.int x1), some (.int w39), z3], [.int w39], pv_mm s T)) (by decide +kernel) rfl ?_
            obtain rfl := Option.some.inj h
            cases hr
            exact pv_e_ri (by decide +kernel)
          · rw [if_neg c46] at h
            by_cases c47 : x1 = (4:Int32)
            · rw [if_pos c47] at h
              refine pv_e_swin (dflt := 77) (lo := 0) (hi := 8) (offs := #[52, 57, 62, 77, 77, 77, 77, 77, 69]) (len := 52) (off := 77) (b := 217) (by decide +kernel) (by rw [c47]; decide +kernel) (by rw [c47]; decide +kernel) (by decide +kernel) ?_
              refine pv_e_bk (ps := [(217, .iload_n 2, 1)]) (t' := (0, 0, 218, [some (.ref 94), some (.int x1), some (.int w39), z3], [.int w39], pv_mm s T)) (by decide +kernel) rfl ?_
              obtain rfl := Option.some.inj h
              cases hr
              exact pv_e_ri (by decide +kernel)
            · rw [if_neg c47] at h
              by_cases c48 : x1 = (5:Int32)
              · rw [if_pos c48] at h
                refine pv_e_swin (dflt := 77) (lo := 0) (hi := 8) (offs := #[52, 57, 62, 77, 77, 77, 77, 77, 69]) (len := 52) (off := 77) (b := 217) (by decide +kernel) (by rw [c48]; decide +kernel) (by rw [c48]; decide +kernel) (by decide +kernel) ?_
                refine pv_e_bk (ps := [(217, .iload_n 2, 1)]) (t' := (0, 0, 218, [some (.ref 94), some (.int x1), some (.int w39), z3], [.int w39], pv_mm s T)) (by decide +kernel) rfl ?_
                obtain rfl := Option.some.inj h
                cases hr
                exact pv_e_ri (by decide +kernel)
              · rw [if_neg c48] at h
                by_cases c49 : x1 = (6:Int32)
                · rw [if_pos c49] at h
                  refine pv_e_swin (dflt := 77) (lo := 0) (hi := 8) (offs := #[52, 57, 62, 77, 77, 77, 77, 77, 69]) (len := 52) (off := 77) (b := 217) (by decide +kernel) (by rw [c49]; decide +kernel) (by rw [c49]; decide +kernel) (by decide +kernel) ?_
                  refine pv_e_bk (ps := [(217, .iload_n 2, 1)]) (t' := (0, 0, 218, [some (.ref 94), some (.int x1), some (.int w39), z3], [.int w39], pv_mm s T)) (by decide +kernel) rfl ?_
                  obtain rfl := Option.some.inj h
                  cases hr
                  exact pv_e_ri (by decide +kernel)
                · rw [if_neg c49] at h
                  by_cases c50 : x1 = (7:Int32)
                  · rw [if_pos c50] at h
                    refine pv_e_swin (dflt := 77) (lo := 0) (hi := 8) (offs := #[52, 57, 62, 77, 77, 77, 77, 77, 69]) (len := 52) (off := 77) (b := 217) (by decide +kernel) (by rw [c50]; decide +kernel) (by rw [c50]; decide +kernel) (by decide +kernel) ?_
                    refine pv_e_bk (ps := [(217, .iload_n 2, 1)]) (t' := (0, 0, 218, [some (.ref 94), some (.int x1), some (.int w39), z3], [.int w39], pv_mm s T)) (by decide +kernel) rfl ?_
                    obtain rfl := Option.some.inj h
                    cases hr
                    exact pv_e_ri (by decide +kernel)
                  · rw [if_neg c50] at h
                    by_cases c51 : x1 = (8:Int32)
                    · rw [if_pos c51] at h
                      refine pv_e_swin (dflt := 77) (lo := 0) (hi := 8) (offs := #[52, 57, 62, 77, 77, 77, 77, 77, 69]) (len := 52) (off := 69) (b := 209) (by decide +kernel) (by rw [c51]; decide +kernel) (by rw [c51]; decide +kernel) (by decide +kernel) ?_
                      refine pv_e_bk (ps := [(209, .aload_n 0, 1)]) (t' := (0, 0, 210, [some (.ref 94), some (.int x1), some (.int w39), z3], [.ref 94], pv_mm s T)) (by decide +kernel) rfl ?_
                      refine pv_e_gr (i := 44) (ci := 6) (j := 17) (b := 105) (pc' := 213) (by decide +kernel) rfl rfl rfl ?_
                      refine pv_e_bk (ps := [(213, .bipush 77, 2)]) (t' := (0, 0, 215, [some (.ref 94), some (.int x1), some (.int w39), z3], [.int (77:Int32), .ref 105], pv_mm s T)) (by decide +kernel) rfl ?_
                      obtain ⟨q52, e53, h⟩ := Option.bind_eq_some_iff.mp h
                      refine pv_e_rm (pc' := 216) (by decide +kernel) (by decide) rfl e53 rfl ?_
                      obtain rfl := Option.some.inj h
                      cases hr
                      exact pv_e_ri (by decide +kernel)
                    · rw [if_neg c51] at h
                      refine pv_e_swout (dflt := 77) (lo := 0) (hi := 8) (offs := #[52, 57, 62, 77, 77, 77, 77, 77, 69]) (len := 52) (b := 217) (by decide +kernel) ?_ (by decide +kernel) ?_
                      · have nc41 : x1.toInt ≠ (0 : Int) := fun e9 => c41 (Int32.toInt_inj.mp (e9.trans (by decide +kernel)))
                        have nc42 : x1.toInt ≠ (1 : Int) := fun e9 => c42 (Int32.toInt_inj.mp (e9.trans (by decide +kernel)))
                        have nc43 : x1.toInt ≠ (2 : Int) := fun e9 => c43 (Int32.toInt_inj.mp (e9.trans (by decide +kernel)))
                        have nc46 : x1.toInt ≠ (3 : Int) := fun e9 => c46 (Int32.toInt_inj.mp (e9.trans (by decide +kernel)))
                        have nc47 : x1.toInt ≠ (4 : Int) := fun e9 => c47 (Int32.toInt_inj.mp (e9.trans (by decide +kernel)))
                        have nc48 : x1.toInt ≠ (5 : Int) := fun e9 => c48 (Int32.toInt_inj.mp (e9.trans (by decide +kernel)))
                        have nc49 : x1.toInt ≠ (6 : Int) := fun e9 => c49 (Int32.toInt_inj.mp (e9.trans (by decide +kernel)))
                        have nc50 : x1.toInt ≠ (7 : Int) := fun e9 => c50 (Int32.toInt_inj.mp (e9.trans (by decide +kernel)))
                        have nc51 : x1.toInt ≠ (8 : Int) := fun e9 => c51 (Int32.toInt_inj.mp (e9.trans (by decide +kernel)))
                        omega
                      · refine pv_e_bk (ps := [(217, .iload_n 2, 1)]) (t' := (0, 0, 218, [some (.ref 94), some (.int x1), some (.int w39), z3], [.int w39], pv_mm s T)) (by decide +kernel) rfl ?_
                        obtain rfl := Option.some.inj h
                        cases hr
                        exact pv_e_ri (by decide +kernel)
  exact pv_lq_ok (H := f209_tells_b1_H xs L d r s x1 T) (X := f209_tells_b1_X xs L d r s x1 T) (f209_tells_b1_ok (xs := xs) (L := L) (d := d) (r := r) (s := s) (v1 := x1) (T := T)) 20000 _ _ e55 hx54
def f210_count (x1 : Int32) (T : pv_T) : Option (Int32) :=
  (f114_in x1 (0:Int32) (8:Int32)).bind fun q2 =>
  ((
    if q2 = 0 then
      some (-1:Int32)
    else
      (f209_tells x1 T).bind fun q8 =>
      some q8) : Option (Int32)).bind fun t3 =>
  some t3
theorem ee210 {xs : Nat → Int32} {L : Nat} (d : Nat) (x1 : Int32) {s : pv_F} {T : pv_T} {q : Int32}  (h : f210_count x1 T = some q) : pv_Ev xs L (d + 2) 210 (0, 0, 0, [some (.ref 94), some (.int x1)], [], pv_mm s T) (some (.int q), pv_mm s T) := by
  generalize hr : ((some (.int q), pv_mm s T) : Option Value × pv_M) = r
  unfold f210_count at h
  refine pv_e_bk (ps := [(0, .iload_n 1, 1), (1, .iconst 0, 1), (2, .bipush 8, 2)]) (t' := (0, 0, 4, [some (.ref 94), some (.int x1)], [.int (8:Int32), .int (0:Int32), .int x1], pv_mm s T)) (by decide +kernel) rfl ?_
  obtain ⟨q2, e1, h⟩ := Option.bind_eq_some_iff.mp h
  refine pv_e_csi (d := d + 1) (i := 83) (z := 114) (np := 3) (ml := 3) (As := [.int x1, .int (0:Int32), .int (8:Int32)]) (rs := []) (pc' := 7) (by decide +kernel) rfl rfl rfl (Nat.le_of_ble_eq_true rfl) (Nat.le_of_ble_eq_true rfl) rfl (ee114 (d + 1) x1 (0:Int32) (8:Int32) e1) ?_
  obtain ⟨t3, hv4, h⟩ := Option.bind_eq_some_iff.mp h
  have hJ5 : pv_Ev xs L (d + 2) 210 (0, 0, 19, [some (.ref 94), some (.int x1)], [.int t3], pv_mm s T) r := by
    obtain rfl := Option.some.inj h
    cases hr
    exact pv_e_ri (by decide +kernel)
  clear h
  have h := hv4
  clear hv4
  refine pv_e_ifeq (off := 11) (b := 18) (pc' := 10) (by decide +kernel) (by decide +kernel) rfl (fun c6 => ?_) (fun c6 => ?_)
  · rw [if_pos c6] at h
    refine pv_e_bk (ps := [(18, .iconst (-1), 1)]) (t' := (0, 0, 19, [some (.ref 94), some (.int x1)], [.int (-1:Int32)], pv_mm s T)) (by decide +kernel) rfl ?_
    obtain rfl := Option.some.inj h
    exact hJ5
  · rw [if_neg c6] at h
    refine pv_e_bk (ps := [(10, .aload_n 0, 1), (11, .iload_n 1, 1)]) (t' := (0, 0, 12, [some (.ref 94), some (.int x1)], [.int x1, .ref 94], pv_mm s T)) (by decide +kernel) rfl ?_
    obtain ⟨q8, e7, h⟩ := Option.bind_eq_some_iff.mp h
    refine pv_e_cvi (d := d + 1) (i := 304) (z := 209) (np := 1) (ml := 4) (ci := 6) (As := [.int x1]) (rs := []) (pc' := 15) (by decide +kernel) rfl rfl rfl rfl (Nat.le_of_ble_eq_true rfl) (Nat.le_of_ble_eq_true rfl) rfl (ee209 (d + 0) x1 e7) ?_
    refine pv_e_bk (ps := [(15, .goto 4, 3)]) (t' := (0, 0, 19, [some (.ref 94), some (.int x1)], [.int q8], pv_mm s T)) (by decide +kernel) rfl ?_
    obtain rfl := Option.some.inj h
    exact hJ5
def f211_finding (T : pv_T) : Option (Int32) :=
  some (T.1 94 0)
theorem ee211 {xs : Nat → Int32} {L : Nat} (d : Nat)  {s : pv_F} {T : pv_T} {q : Int32}  (h : f211_finding T = some q) : pv_Ev xs L (d + 0) 211 (0, 0, 0, [some (.ref 94)], [], pv_mm s T) (some (.int q), pv_mm s T) := by
  generalize hr : ((some (.int q), pv_mm s T) : Option Value × pv_M) = r
  unfold f211_finding at h
  refine pv_e_bk (ps := [(0, .aload_n 0, 1)]) (t' := (0, 0, 1, [some (.ref 94)], [.ref 94], pv_mm s T)) (by decide +kernel) rfl ?_
  refine pv_e_gm (i := 77) (ci := 6) (j := 0) (pc' := 4) (by decide +kernel) (by decide) rfl rfl rfl ?_
  obtain rfl := Option.some.inj h
  cases hr
  exact pv_e_ri (by decide +kernel)
def f212_findings (x1 : Int32) (T : pv_T) : Option (Int32) :=
  (f114_in x1 (1:Int32) (5:Int32)).bind fun q2 =>
  ((
    if q2 = 0 then
      some (-1:Int32)
    else
      (pv_rd T.1 95 6 x1).bind fun q7 =>
      some q7) : Option (Int32)).bind fun t3 =>
  some t3
theorem ee212 {xs : Nat → Int32} {L : Nat} (d : Nat) (x1 : Int32) {s : pv_F} {T : pv_T} {q : Int32}  (h : f212_findings x1 T = some q) : pv_Ev xs L (d + 1) 212 (0, 0, 0, [some (.ref 94), some (.int x1)], [], pv_mm s T) (some (.int q), pv_mm s T) := by
  generalize hr : ((some (.int q), pv_mm s T) : Option Value × pv_M) = r
  unfold f212_findings at h
  refine pv_e_bk (ps := [(0, .iload_n 1, 1), (1, .iconst 1, 1), (2, .iconst 5, 1)]) (t' := (0, 0, 3, [some (.ref 94), some (.int x1)], [.int (5:Int32), .int (1:Int32), .int x1], pv_mm s T)) (by decide +kernel) rfl ?_
  obtain ⟨q2, e1, h⟩ := Option.bind_eq_some_iff.mp h
  refine pv_e_csi (d := d + 0) (i := 83) (z := 114) (np := 3) (ml := 3) (As := [.int x1, .int (1:Int32), .int (5:Int32)]) (rs := []) (pc' := 6) (by decide +kernel) rfl rfl rfl (Nat.le_of_ble_eq_true rfl) (Nat.le_of_ble_eq_true rfl) rfl (ee114 (d + 0) x1 (1:Int32) (5:Int32) e1) ?_
  obtain ⟨t3, hv4, h⟩ := Option.bind_eq_some_iff.mp h
  have hJ5 : pv_Ev xs L (d + 1) 212 (0, 0, 19, [some (.ref 94), some (.int x1)], [.int t3], pv_mm s T) r := by
    obtain rfl := Option.some.inj h
    cases hr
    exact pv_e_ri (by decide +kernel)
  clear h
  have h := hv4
  clear hv4
  refine pv_e_ifeq (off := 12) (b := 18) (pc' := 9) (by decide +kernel) (by decide +kernel) rfl (fun c6 => ?_) (fun c6 => ?_)
  · rw [if_pos c6] at h
    refine pv_e_bk (ps := [(18, .iconst (-1), 1)]) (t' := (0, 0, 19, [some (.ref 94), some (.int x1)], [.int (-1:Int32)], pv_mm s T)) (by decide +kernel) rfl ?_
    obtain rfl := Option.some.inj h
    exact hJ5
  · rw [if_neg c6] at h
    refine pv_e_bk (ps := [(9, .aload_n 0, 1)]) (t' := (0, 0, 10, [some (.ref 94), some (.int x1)], [.ref 94], pv_mm s T)) (by decide +kernel) rfl ?_
    refine pv_e_gr (i := 7) (ci := 6) (j := 1) (b := 95) (pc' := 13) (by decide +kernel) rfl rfl rfl ?_
    refine pv_e_bk (ps := [(13, .iload_n 1, 1)]) (t' := (0, 0, 14, [some (.ref 94), some (.int x1)], [.int x1, .ref 95], pv_mm s T)) (by decide +kernel) rfl ?_
    obtain ⟨q7, e8, h⟩ := Option.bind_eq_some_iff.mp h
    refine pv_e_rm (pc' := 15) (by decide +kernel) (by decide) rfl e8 rfl ?_
    refine pv_e_bk (ps := [(15, .goto 4, 3)]) (t' := (0, 0, 19, [some (.ref 94), some (.int x1)], [.int q7], pv_mm s T)) (by decide +kernel) rfl ?_
    obtain rfl := Option.some.inj h
    exact hJ5
def f213_mix (x1 : Int32) (T : pv_T) : Option (pv_T) :=
  (pv_plg T (((31:Int64) * T.2) + x1.toInt64)).bind fun T1 =>
  some T1
theorem ee213 {xs : Nat → Int32} {L : Nat} (d : Nat) (x1 : Int32) {s : pv_F} {T : pv_T} {q : pv_T}  (h : f213_mix x1 T = some q) : pv_Ev xs L (d + 0) 213 (0, 0, 0, [some (.ref 94), some (.int x1)], [], pv_mm s T) (none, pv_mm s q) := by
  generalize hr : ((none, pv_mm s q) : Option Value × pv_M) = r
  unfold f213_mix at h
  refine pv_e_bk (ps := [(0, .aload_n 0, 1), (1, .ldc2_w 307, 3), (4, .aload_n 0, 1)]) (t' := (0, 0, 5, [some (.ref 94), some (.int x1)], [.ref 94, .long (31:Int64), .ref 94], pv_mm s T)) (by decide +kernel) rfl ?_
  refine pv_e_gl (i := 309) (ci := 6) (j := 35) (pc' := 8) (by decide +kernel) rfl rfl rfl ?_
  refine pv_e_bk (ps := [(8, .lmul, 1), (9, .iload_n 1, 1), (10, .i2l, 1), (11, .ladd, 1)]) (t' := (0, 0, 12, [some (.ref 94), some (.int x1)], [.long (((31:Int64) * T.2) + x1.toInt64), .ref 94], pv_mm s T)) (by decide +kernel) rfl ?_
  obtain ⟨T1, e2, h⟩ := Option.bind_eq_some_iff.mp h
  refine pv_e_pls (i := 309) (pc' := 15) (by decide +kernel) e2 rfl ?_
  obtain rfl := Option.some.inj h
  cases hr
  exact pv_e_rv (by decide +kernel)
def f214_mixTown_b2 (v1 : Int32) (st : Int32 × pv_T) : Option ((Int32 × pv_T) ⊕ (Int32 × pv_T)) := match st with
  | (v2, T) =>
    if (4:Int32) < v2 then
      some (.inr (v2, T))
    else
      (f146_personOf v1 v2 T).bind fun q8 =>
      (f213_mix q8 T).bind fun T10 =>
      some (.inl (v2 + (1:Int32), T10))
def f214_mixTown_b2_H (xs : Nat → Int32) (L d : Nat) (r : Option Value × pv_M) (s : pv_F) (v1 : Int32) (st : Int32 × pv_T) : Prop := match st with
  | (v2, T) => pv_Ev xs L (d + 2) 214 (0, 0, 28, [some (.ref 94), some (.int v1), some (.int v2)], [], pv_mm s T) r
def f214_mixTown_b2_X (xs : Nat → Int32) (L d : Nat) (r : Option Value × pv_M) (s : pv_F) (v1 : Int32) (st : Int32 × pv_T) : Prop := match st with
  | (v2, T) => ∀ z2 : Option Value, pv_Ev xs L (d + 2) 214 (0, 0, 49, [some (.ref 94), some (.int v1), z2], [], pv_mm s T) r
def f214_mixTown_b3 (v1 : Int32) (st : Int32 × pv_T) : Option ((Int32 × pv_T) ⊕ (Int32 × pv_T)) := match st with
  | (v2, T) =>
    (f142_lenOf v1 T).bind fun q14 =>
    if q14 ≤ v2 then
      some (.inr (v2, T))
    else
      (f143_letterOf v1 v2 T).bind fun q17 =>
      (f213_mix q17 T).bind fun T19 =>
      some (.inl (v2 + (1:Int32), T19))
def f214_mixTown_b3_H (xs : Nat → Int32) (L d : Nat) (r : Option Value × pv_M) (s : pv_F) (v1 : Int32) (st : Int32 × pv_T) : Prop := match st with
  | (v2, T) => pv_Ev xs L (d + 2) 214 (0, 0, 51, [some (.ref 94), some (.int v1), some (.int v2)], [], pv_mm s T) r
def f214_mixTown_b3_X (xs : Nat → Int32) (L d : Nat) (r : Option Value × pv_M) (s : pv_F) (v1 : Int32) (st : Int32 × pv_T) : Prop := match st with
  | (v2, T) => ∀ z2 : Option Value, pv_Ev xs L (d + 2) 214 (0, 0, 76, [some (.ref 94), some (.int v1), z2], [], pv_mm s T) r
def f214_mixTown_b1 (st : Int32 × pv_T) : Option ((Int32 × pv_T) ⊕ (Int32 × pv_T)) := match st with
  | (v1, T) =>
    if (T.1 94 8) ≤ v1 then
      some (.inr (v1, T))
    else
      (pv_lq (f214_mixTown_b2 v1) 20000 ((0:Int32), T)).bind fun (w11, T12) =>
      (pv_lq (f214_mixTown_b3 v1) 20000 ((0:Int32), T12)).bind fun (w20, T21) =>
      (pv_rd T21.1 101 7 v1).bind fun q22 =>
      ((
        if q22 = (4:Int32) then
          (pv_rd T21.1 105 78 ((49:Int32) + v1)).bind fun q30 =>
          some q30
        else
          some (0:Int32)) : Option (Int32)).bind fun t24 =>
      (f213_mix t24 T21).bind fun T26 =>
      some (.inl (v1 + (1:Int32), T26))
def f214_mixTown_b1_H (xs : Nat → Int32) (L d : Nat) (r : Option Value × pv_M) (s : pv_F) (st : Int32 × pv_T) : Prop := match st with
  | (v1, T) => ∀ z2 : Option Value, pv_Ev xs L (d + 2) 214 (0, 0, 18, [some (.ref 94), some (.int v1), z2], [], pv_mm s T) r
def f214_mixTown_b1_X (xs : Nat → Int32) (L d : Nat) (r : Option Value × pv_M) (s : pv_F) (st : Int32 × pv_T) : Prop := match st with
  | (v1, T) => ∀ z1 : Option Value, ∀ z2 : Option Value, pv_Ev xs L (d + 2) 214 (0, 0, 109, [some (.ref 94), z1, z2], [], pv_mm s T) r
def f214_mixTown_b4 (st : Int32 × pv_T) : Option ((Int32 × pv_T) ⊕ (Int32 × pv_T)) := match st with
  | (v1, T) =>
    if (3:Int32) ≤ v1 then
      some (.inr (v1, T))
    else
      (pv_rd T.1 107 3 v1).bind fun q39 =>
      ((
        if q39 = (-9:Int32) then
          some (-1:Int32)
        else
          (pv_rd T.1 107 3 v1).bind fun q47 =>
          some q47) : Option (Int32)).bind fun t41 =>
      (f213_mix t41 T).bind fun T43 =>
      some (.inl (v1 + (1:Int32), T43))
def f214_mixTown_b4_H (xs : Nat → Int32) (L d : Nat) (r : Option Value × pv_M) (s : pv_F) (z2 : Option Value) (st : Int32 × pv_T) : Prop := match st with
  | (v1, T) => pv_Ev xs L (d + 2) 214 (0, 0, 111, [some (.ref 94), some (.int v1), z2], [], pv_mm s T) r
def f214_mixTown_b4_X (xs : Nat → Int32) (L d : Nat) (r : Option Value × pv_M) (s : pv_F) (z2 : Option Value) (st : Int32 × pv_T) : Prop := match st with
  | (v1, T) => ∀ z1 : Option Value, pv_Ev xs L (d + 2) 214 (0, 0, 147, [some (.ref 94), z1, z2], [], pv_mm s T) r
def f214_mixTown (T : pv_T) : Option (pv_T) :=
  (f213_mix (T.1 94 9) T).bind fun T2 =>
  (f213_mix (T2.1 94 10) T2).bind fun T4 =>
  (pv_lq (f214_mixTown_b1) 20000 ((0:Int32), T4)).bind fun (w36, T37) =>
  (pv_lq (f214_mixTown_b4) 20000 ((0:Int32), T37)).bind fun (w49, T50) =>
  some T50
theorem f214_mixTown_b2_ok {xs : Nat → Int32} {L d : Nat} {r : Option Value × pv_M} {s : pv_F} {v1 : Int32} (st : Int32 × pv_T) (o : (Int32 × pv_T) ⊕ (Int32 × pv_T)) (h : f214_mixTown_b2 v1 st = some o) (hK : pv_Kq (f214_mixTown_b2_H xs L d r s v1) (f214_mixTown_b2_X xs L d r s v1) o) : f214_mixTown_b2_H xs L d r s v1 st := by
  obtain ⟨v2, T⟩ := st
  show pv_Ev xs L (d + 2) 214 (0, 0, 28, [some (.ref 94), some (.int v1), some (.int v2)], [], pv_mm s T) r
  unfold f214_mixTown_b2 at h
  dsimp only at h
  refine pv_e_bk (ps := [(28, .iload_n 2, 1), (29, .iconst 4, 1)]) (t' := (0, 0, 30, [some (.ref 94), some (.int v1), some (.int v2)], [.int (4:Int32), .int v2], pv_mm s T)) (by decide +kernel) rfl ?_
  refine pv_e_icmpgt (off := 19) (b := 49) (pc' := 33) (by decide +kernel) (by decide +kernel) rfl (fun c6 => ?_) (fun c6 => ?_)
  · rw [if_pos c6] at h
    obtain rfl := Option.some.inj h
    exact hK _
  · rw [if_neg c6] at h
    refine pv_e_bk (ps := [(33, .aload_n 0, 1), (34, .aload_n 0, 1), (35, .iload_n 1, 1), (36, .iload_n 2, 1)]) (t' := (0, 0, 37, [some (.ref 94), some (.int v1), some (.int v2)], [.int v2, .int v1, .ref 94, .ref 94], pv_mm s T)) (by decide +kernel) rfl ?_
    obtain ⟨q8, e7, h⟩ := Option.bind_eq_some_iff.mp h
    refine pv_e_cvi (d := d + 1) (i := 155) (z := 146) (np := 2) (ml := 3) (ci := 6) (As := [.int v1, .int v2]) (rs := [.ref 94]) (pc' := 40) (by decide +kernel) rfl rfl rfl rfl (Nat.le_of_ble_eq_true rfl) (Nat.le_of_ble_eq_true rfl) rfl (ee146 (d + 0) v1 v2 e7) ?_
    obtain ⟨T10, e9, h⟩ := Option.bind_eq_some_iff.mp h
    refine pv_e_cvv (d := d + 1) (i := 313) (z := 213) (np := 1) (ml := 2) (ci := 6) (As := [.int q8]) (rs := []) (pc' := 43) (by decide +kernel) rfl rfl rfl rfl (Nat.le_of_ble_eq_true rfl) (Nat.le_of_ble_eq_true rfl) rfl (ee213 (d + 1) q8 e9) ?_
    refine pv_e_bk (ps := [(43, .iinc 2 1, 3), (46, .goto (-18), 3)]) (t' := (0, 0, 28, [some (.ref 94), some (.int v1), some (.int (v2 + (1:Int32)))], [], pv_mm s T10)) (by decide +kernel) rfl ?_
    obtain rfl := Option.some.inj h
    exact hK
theorem f214_mixTown_b3_ok {xs : Nat → Int32} {L d : Nat} {r : Option Value × pv_M} {s : pv_F} {v1 : Int32} (st : Int32 × pv_T) (o : (Int32 × pv_T) ⊕ (Int32 × pv_T)) (h : f214_mixTown_b3 v1 st = some o) (hK : pv_Kq (f214_mixTown_b3_H xs L d r s v1) (f214_mixTown_b3_X xs L d r s v1) o) : f214_mixTown_b3_H xs L d r s v1 st := by
  obtain ⟨v2, T⟩ := st
  show pv_Ev xs L (d + 2) 214 (0, 0, 51, [some (.ref 94), some (.int v1), some (.int v2)], [], pv_mm s T) r
  unfold f214_mixTown_b3 at h
  dsimp only at h
  refine pv_e_bk (ps := [(51, .iload_n 2, 1), (52, .aload_n 0, 1), (53, .iload_n 1, 1)]) (t' := (0, 0, 54, [some (.ref 94), some (.int v1), some (.int v2)], [.int v1, .ref 94, .int v2], pv_mm s T)) (by decide +kernel) rfl ?_
  obtain ⟨q14, e13, h⟩ := Option.bind_eq_some_iff.mp h
  refine pv_e_cvi (d := d + 1) (i := 142) (z := 142) (np := 1) (ml := 2) (ci := 6) (As := [.int v1]) (rs := [.int v2]) (pc' := 57) (by decide +kernel) rfl rfl rfl rfl (Nat.le_of_ble_eq_true rfl) (Nat.le_of_ble_eq_true rfl) rfl (ee142 (d + 1) v1 e13) ?_
  refine pv_e_icmpge (off := 19) (b := 76) (pc' := 60) (by decide +kernel) (by decide +kernel) rfl (fun c15 => ?_) (fun c15 => ?_)
  · rw [if_pos c15] at h
    obtain rfl := Option.some.inj h
    exact hK _
  · rw [if_neg c15] at h
    refine pv_e_bk (ps := [(60, .aload_n 0, 1), (61, .aload_n 0, 1), (62, .iload_n 1, 1), (63, .iload_n 2, 1)]) (t' := (0, 0, 64, [some (.ref 94), some (.int v1), some (.int v2)], [.int v2, .int v1, .ref 94, .ref 94], pv_mm s T)) (by decide +kernel) rfl ?_
    obtain ⟨q17, e16, h⟩ := Option.bind_eq_some_iff.mp h
    refine pv_e_cvi (d := d + 1) (i := 145) (z := 143) (np := 2) (ml := 3) (ci := 6) (As := [.int v1, .int v2]) (rs := [.ref 94]) (pc' := 67) (by decide +kernel) rfl rfl rfl rfl (Nat.le_of_ble_eq_true rfl) (Nat.le_of_ble_eq_true rfl) rfl (ee143 (d + 1) v1 v2 e16) ?_
    obtain ⟨T19, e18, h⟩ := Option.bind_eq_some_iff.mp h
    refine pv_e_cvv (d := d + 1) (i := 313) (z := 213) (np := 1) (ml := 2) (ci := 6) (As := [.int q17]) (rs := []) (pc' := 70) (by decide +kernel) rfl rfl rfl rfl (Nat.le_of_ble_eq_true rfl) (Nat.le_of_ble_eq_true rfl) rfl (ee213 (d + 1) q17 e18) ?_
    refine pv_e_bk (ps := [(70, .iinc 2 1, 3), (73, .goto (-22), 3)]) (t' := (0, 0, 51, [some (.ref 94), some (.int v1), some (.int (v2 + (1:Int32)))], [], pv_mm s T19)) (by decide +kernel) rfl ?_
    obtain rfl := Option.some.inj h
    exact hK
theorem f214_mixTown_b1_ok {xs : Nat → Int32} {L d : Nat} {r : Option Value × pv_M} {s : pv_F} (st : Int32 × pv_T) (o : (Int32 × pv_T) ⊕ (Int32 × pv_T)) (h : f214_mixTown_b1 st = some o) (hK : pv_Kq (f214_mixTown_b1_H xs L d r s ) (f214_mixTown_b1_X xs L d r s ) o) : f214_mixTown_b1_H xs L d r s  st := by
  obtain ⟨v1, T⟩ := st
  show ∀ z2 : Option Value, pv_Ev xs L (d + 2) 214 (0, 0, 18, [some (.ref 94), some (.int v1), z2], [], pv_mm s T) r
  intro z2
  unfold f214_mixTown_b1 at h
  dsimp only at h
  refine pv_e_bk (ps := [(18, .iload_n 1, 1), (19, .aload_n 0, 1)]) (t' := (0, 0, 20, [some (.ref 94), some (.int v1), z2], [.ref 94, .int v1], pv_mm s T)) (by decide +kernel) rfl ?_
  refine pv_e_gm (i := 136) (ci := 6) (j := 8) (pc' := 23) (by decide +kernel) (by decide) rfl rfl rfl ?_
  refine pv_e_icmpge (off := 86) (b := 109) (pc' := 26) (by decide +kernel) (by decide +kernel) rfl (fun c5 => ?_) (fun c5 => ?_)
  · rw [if_pos c5] at h
    obtain rfl := Option.some.inj h
    exact hK _ _
  · rw [if_neg c5] at h
    refine pv_e_bk (ps := [(26, .iconst 0, 1), (27, .istore_n 2, 1)]) (t' := (0, 0, 28, [some (.ref 94), some (.int v1), some (.int (0:Int32))], [], pv_mm s T)) (by decide +kernel) rfl ?_
    obtain ⟨⟨w11, T12⟩, e35, h⟩ := Option.bind_eq_some_iff.mp h
    dsimp only at h
    have hx34 : f214_mixTown_b2_X xs L d r s v1 (w11, T12) := by
      show ∀ z2 : Option Value, pv_Ev xs L (d + 2) 214 (0, 0, 49, [some (.ref 94), some (.int v1), z2], [], pv_mm s T12) r
      intro z2
      refine pv_e_bk (ps := [(49, .iconst 0, 1), (50, .istore_n 2, 1)]) (t' := (0, 0, 51, [some (.ref 94), some (.int v1), some (.int (0:Int32))], [], pv_mm s T12)) (by decide +kernel) rfl ?_
      obtain ⟨⟨w20, T21⟩, e33, h⟩ := Option.bind_eq_some_iff.mp h
      dsimp only at h
      have hx32 : f214_mixTown_b3_X xs L d r s v1 (w20, T21) := by
        show ∀ z2 : Option Value, pv_Ev xs L (d + 2) 214 (0, 0, 76, [some (.ref 94), some (.int v1), z2], [], pv_mm s T21) r
        intro z2
        refine pv_e_bk (ps := [(76, .aload_n 0, 1), (77, .aload_n 0, 1)]) (t' := (0, 0, 78, [some (.ref 94), some (.int v1), z2], [.ref 94, .ref 94], pv_mm s T21)) (by decide +kernel) rfl ?_
        refine pv_e_gr (i := 32) (ci := 6) (j := 11) (b := 101) (pc' := 81) (by decide +kernel) rfl rfl rfl ?_
        refine pv_e_bk (ps := [(81, .iload_n 1, 1)]) (t' := (0, 0, 82, [some (.ref 94), some (.int v1), z2], [.int v1, .ref 101, .ref 94], pv_mm s T21)) (by decide +kernel) rfl ?_
        obtain ⟨q22, e23, h⟩ := Option.bind_eq_some_iff.mp h
        refine pv_e_rm (pc' := 83) (by decide +kernel) (by decide) rfl e23 rfl ?_
        refine pv_e_bk (ps := [(83, .iconst 4, 1)]) (t' := (0, 0, 84, [some (.ref 94), some (.int v1), z2], [.int (4:Int32), .int q22, .ref 94], pv_mm s T21)) (by decide +kernel) rfl ?_
        obtain ⟨t24, hv27, h⟩ := Option.bind_eq_some_iff.mp h
        have hJ28 : pv_Ev xs L (d + 2) 214 (0, 0, 100, [some (.ref 94), some (.int v1), z2], [.int t24, .ref 94], pv_mm s T21) r := by
          obtain ⟨T26, e25, h⟩ := Option.bind_eq_some_iff.mp h
          refine pv_e_cvv (d := d + 1) (i := 313) (z := 213) (np := 1) (ml := 2) (ci := 6) (As := [.int t24]) (rs := []) (pc' := 103) (by decide +kernel) rfl rfl rfl rfl (Nat.le_of_ble_eq_true rfl) (Nat.le_of_ble_eq_true rfl) rfl (ee213 (d + 1) t24 e25) ?_
          refine pv_e_bk (ps := [(103, .iinc 1 1, 3), (106, .goto (-88), 3)]) (t' := (0, 0, 18, [some (.ref 94), some (.int (v1 + (1:Int32))), z2], [], pv_mm s T26)) (by decide +kernel) rfl ?_
          obtain rfl := Option.some.inj h
          exact hK _
        clear h
        have h := hv27
        clear hv27
        refine pv_e_icmpne (off := 15) (b := 99) (pc' := 87) (by decide +kernel) (by decide +kernel) rfl (fun c29 => ?_) (fun c29 => ?_)
        · rw [if_pos c29] at h
          refine pv_e_bk (ps := [(87, .aload_n 0, 1)]) (t' := (0, 0, 88, [some (.ref 94), some (.int v1), z2], [.ref 94, .ref 94], pv_mm s T21)) (by decide +kernel) rfl ?_
          refine pv_e_gr (i := 44) (ci := 6) (j := 17) (b := 105) (pc' := 91) (by decide +kernel) rfl rfl rfl ?_
          refine pv_e_bk (ps := [(91, .bipush 49, 2), (93, .iload_n 1, 1), (94, .iadd, 1)]) (t' := (0, 0, 95, [some (.ref 94), some (.int v1), z2], [.int ((49:Int32) + v1), .ref 105, .ref 94], pv_mm s T21)) (by decide +kernel) rfl ?_
          obtain ⟨q30, e31, h⟩ := Option.bind_eq_some_iff.mp h
          refine pv_e_rm (pc' := 96) (by decide +kernel) (by decide) rfl e31 rfl ?_
          refine pv_e_bk (ps := [(96, .goto 4, 3)]) (t' := (0, 0, 100, [some (.ref 94), some (.int v1), z2], [.int q30, .ref 94], pv_mm s T21)) (by decide +kernel) rfl ?_
          obtain rfl := Option.some.inj h
          exact hJ28
        · rw [if_neg c29] at h
          refine pv_e_bk (ps := [(99, .iconst 0, 1)]) (t' := (0, 0, 100, [some (.ref 94), some (.int v1), z2], [.int (0:Int32), .ref 94], pv_mm s T21)) (by decide +kernel) rfl ?_
          obtain rfl := Option.some.inj h
          exact hJ28
      exact pv_lq_ok (H := f214_mixTown_b3_H xs L d r s v1) (X := f214_mixTown_b3_X xs L d r s v1) (f214_mixTown_b3_ok (xs := xs) (L := L) (d := d) (r := r) (s := s) (v1 := v1)) 20000 _ _ e33 hx32
    exact pv_lq_ok (H := f214_mixTown_b2_H xs L d r s v1) (X := f214_mixTown_b2_X xs L d r s v1) (f214_mixTown_b2_ok (xs := xs) (L := L) (d := d) (r := r) (s := s) (v1 := v1)) 20000 _ _ e35 hx34
theorem f214_mixTown_b4_ok {xs : Nat → Int32} {L d : Nat} {r : Option Value × pv_M} {s : pv_F} {z2 : Option Value} (st : Int32 × pv_T) (o : (Int32 × pv_T) ⊕ (Int32 × pv_T)) (h : f214_mixTown_b4 st = some o) (hK : pv_Kq (f214_mixTown_b4_H xs L d r s z2) (f214_mixTown_b4_X xs L d r s z2) o) : f214_mixTown_b4_H xs L d r s z2 st := by
  obtain ⟨v1, T⟩ := st
  show pv_Ev xs L (d + 2) 214 (0, 0, 111, [some (.ref 94), some (.int v1), z2], [], pv_mm s T) r
  unfold f214_mixTown_b4 at h
  dsimp only at h
  refine pv_e_bk (ps := [(111, .iload_n 1, 1), (112, .iconst 3, 1)]) (t' := (0, 0, 113, [some (.ref 94), some (.int v1), z2], [.int (3:Int32), .int v1], pv_mm s T)) (by decide +kernel) rfl ?_
  refine pv_e_icmpge (off := 34) (b := 147) (pc' := 116) (by decide +kernel) (by decide +kernel) rfl (fun c38 => ?_) (fun c38 => ?_)
  · rw [if_pos c38] at h
    obtain rfl := Option.some.inj h
    exact hK _
  · rw [if_neg c38] at h
    refine pv_e_bk (ps := [(116, .aload_n 0, 1), (117, .aload_n 0, 1)]) (t' := (0, 0, 118, [some (.ref 94), some (.int v1), z2], [.ref 94, .ref 94], pv_mm s T)) (by decide +kernel) rfl ?_
    refine pv_e_gr (i := 50) (ci := 6) (j := 20) (b := 107) (pc' := 121) (by decide +kernel) rfl rfl rfl ?_
    refine pv_e_bk (ps := [(121, .iload_n 1, 1)]) (t' := (0, 0, 122, [some (.ref 94), some (.int v1), z2], [.int v1, .ref 107, .ref 94], pv_mm s T)) (by decide +kernel) rfl ?_
    obtain ⟨q39, e40, h⟩ := Option.bind_eq_some_iff.mp h
    refine pv_e_rm (pc' := 123) (by decide +kernel) (by decide) rfl e40 rfl ?_
    refine pv_e_bk (ps := [(123, .bipush (-9), 2)]) (t' := (0, 0, 125, [some (.ref 94), some (.int v1), z2], [.int (-9:Int32), .int q39, .ref 94], pv_mm s T)) (by decide +kernel) rfl ?_
    obtain ⟨t41, hv44, h⟩ := Option.bind_eq_some_iff.mp h
    have hJ45 : pv_Ev xs L (d + 2) 214 (0, 0, 138, [some (.ref 94), some (.int v1), z2], [.int t41, .ref 94], pv_mm s T) r := by
      obtain ⟨T43, e42, h⟩ := Option.bind_eq_some_iff.mp h
      refine pv_e_cvv (d := d + 1) (i := 313) (z := 213) (np := 1) (ml := 2) (ci := 6) (As := [.int t41]) (rs := []) (pc' := 141) (by decide +kernel) rfl rfl rfl rfl (Nat.le_of_ble_eq_true rfl) (Nat.le_of_ble_eq_true rfl) rfl (ee213 (d + 1) t41 e42) ?_
      refine pv_e_bk (ps := [(141, .iinc 1 1, 3), (144, .goto (-33), 3)]) (t' := (0, 0, 111, [some (.ref 94), some (.int (v1 + (1:Int32))), z2], [], pv_mm s T43)) (by decide +kernel) rfl ?_
      obtain rfl := Option.some.inj h
      exact hK
    clear h
    have h := hv44
    clear hv44
    refine pv_e_icmpne (off := 7) (b := 132) (pc' := 128) (by decide +kernel) (by decide +kernel) rfl (fun c46 => ?_) (fun c46 => ?_)
    · rw [if_pos c46] at h
      refine pv_e_bk (ps := [(128, .iconst (-1), 1), (129, .goto 9, 3)]) (t' := (0, 0, 138, [some (.ref 94), some (.int v1), z2], [.int (-1:Int32), .ref 94], pv_mm s T)) (by decide +kernel) rfl ?_
      obtain rfl := Option.some.inj h
      exact hJ45
    · rw [if_neg c46] at h
      refine pv_e_bk (ps := [(132, .aload_n 0, 1)]) (t' := (0, 0, 133, [some (.ref 94), some (.int v1), z2], [.ref 94, .ref 94], pv_mm s T)) (by decide +kernel) rfl ?_
      refine pv_e_gr (i := 50) (ci := 6) (j := 20) (b := 107) (pc' := 136) (by decide +kernel) rfl rfl rfl ?_
      refine pv_e_bk (ps := [(136, .iload_n 1, 1)]) (t' := (0, 0, 137, [some (.ref 94), some (.int v1), z2], [.int v1, .ref 107, .ref 94], pv_mm s T)) (by decide +kernel) rfl ?_
      obtain ⟨q47, e48, h⟩ := Option.bind_eq_some_iff.mp h
      refine pv_e_rm (pc' := 138) (by decide +kernel) (by decide) rfl e48 rfl ?_
      obtain rfl := Option.some.inj h
      exact hJ45
theorem ee214 {xs : Nat → Int32} {L : Nat} (d : Nat)  {s : pv_F} {T : pv_T} {q : pv_T}  (h : f214_mixTown T = some q) : pv_Ev xs L (d + 2) 214 (0, 0, 0, [some (.ref 94), none, none], [], pv_mm s T) (none, pv_mm s q) := by
  generalize hr : ((none, pv_mm s q) : Option Value × pv_M) = r
  unfold f214_mixTown at h
  refine pv_e_bk (ps := [(0, .aload_n 0, 1), (1, .aload_n 0, 1)]) (t' := (0, 0, 2, [some (.ref 94), none, none], [.ref 94, .ref 94], pv_mm s T)) (by decide +kernel) rfl ?_
  refine pv_e_gm (i := 173) (ci := 6) (j := 9) (pc' := 5) (by decide +kernel) (by decide) rfl rfl rfl ?_
  obtain ⟨T2, e1, h⟩ := Option.bind_eq_some_iff.mp h
  refine pv_e_cvv (d := d + 1) (i := 313) (z := 213) (np := 1) (ml := 2) (ci := 6) (As := [.int (T.1 94 9)]) (rs := []) (pc' := 8) (by decide +kernel) rfl rfl rfl rfl (Nat.le_of_ble_eq_true rfl) (Nat.le_of_ble_eq_true rfl) rfl (ee213 (d + 1) (T.1 94 9) e1) ?_
  refine pv_e_bk (ps := [(8, .aload_n 0, 1), (9, .aload_n 0, 1)]) (t' := (0, 0, 10, [some (.ref 94), none, none], [.ref 94, .ref 94], pv_mm s T2)) (by decide +kernel) rfl ?_
  refine pv_e_gm (i := 28) (ci := 6) (j := 10) (pc' := 13) (by decide +kernel) (by decide) rfl rfl rfl ?_
  obtain ⟨T4, e3, h⟩ := Option.bind_eq_some_iff.mp h
  refine pv_e_cvv (d := d + 1) (i := 313) (z := 213) (np := 1) (ml := 2) (ci := 6) (As := [.int (T2.1 94 10)]) (rs := []) (pc' := 16) (by decide +kernel) rfl rfl rfl rfl (Nat.le_of_ble_eq_true rfl) (Nat.le_of_ble_eq_true rfl) rfl (ee213 (d + 1) (T2.1 94 10) e3) ?_
  refine pv_e_bk (ps := [(16, .iconst 0, 1), (17, .istore_n 1, 1)]) (t' := (0, 0, 18, [some (.ref 94), some (.int (0:Int32)), none], [], pv_mm s T4)) (by decide +kernel) rfl ?_
  obtain ⟨⟨w36, T37⟩, e54, h⟩ := Option.bind_eq_some_iff.mp h
  dsimp only at h
  have hx53 : f214_mixTown_b1_X xs L d r s (w36, T37) := by
    show ∀ z1 : Option Value, ∀ z2 : Option Value, pv_Ev xs L (d + 2) 214 (0, 0, 109, [some (.ref 94), z1, z2], [], pv_mm s T37) r
    intro z1 z2
    refine pv_e_bk (ps := [(109, .iconst 0, 1), (110, .istore_n 1, 1)]) (t' := (0, 0, 111, [some (.ref 94), some (.int (0:Int32)), z2], [], pv_mm s T37)) (by decide +kernel) rfl ?_
    obtain ⟨⟨w49, T50⟩, e52, h⟩ := Option.bind_eq_some_iff.mp h
    dsimp only at h
    have hx51 : f214_mixTown_b4_X xs L d r s z2 (w49, T50) := by
      show ∀ z1 : Option Value, pv_Ev xs L (d + 2) 214 (0, 0, 147, [some (.ref 94), z1, z2], [], pv_mm s T50) r
      intro z1
      obtain rfl := Option.some.inj h
      cases hr
      exact pv_e_rv (by decide +kernel)
    exact pv_lq_ok (H := f214_mixTown_b4_H xs L d r s z2) (X := f214_mixTown_b4_X xs L d r s z2) (f214_mixTown_b4_ok (xs := xs) (L := L) (d := d) (r := r) (s := s) (z2 := z2)) 20000 _ _ e52 hx51
  exact pv_lq_ok (H := f214_mixTown_b1_H xs L d r s) (X := f214_mixTown_b1_X xs L d r s) (f214_mixTown_b1_ok (xs := xs) (L := L) (d := d) (r := r) (s := s)) 20000 _ _ e54 hx53 _
