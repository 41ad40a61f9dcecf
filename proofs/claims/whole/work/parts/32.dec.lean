-- printed by wip/whole/gen/parts.py: methods as functions over the ints of the memory, and that the pure machine runs so
def f114_in (x0 : Int32) (x1 : Int32) (x2 : Int32) : Option (Int32) :=
  ((
    if x0 < x1 then
      some (0:Int32)
    else
      if x2 < x0 then
        some (0:Int32)
      else
        some (1:Int32)) : Option (Int32)).bind fun t1 =>
  (pv_bl t1).bind fun q2 => some q2
theorem ee114 {xs : Nat → Int32} {L : Nat} (d : Nat) (x0 : Int32) (x1 : Int32) (x2 : Int32) {M : pv_M} {q : Int32}  (h : f114_in x0 x1 x2 = some q) : pv_Ev xs L (d + 0) 114 (0, 0, 0, [some (.int x0), some (.int x1), some (.int x2)], [], M) (some (.int q), M) := by
  generalize hr : ((some (.int q), M) : Option Value × pv_M) = r
  unfold f114_in at h
  refine pv_e_bk (ps := [(0, .iload_n 0, 1), (1, .iload_n 1, 1)]) (t' := (0, 0, 2, [some (.int x0), some (.int x1), some (.int x2)], [.int x1, .int x0], M)) (by decide +kernel) rfl ?_
  obtain ⟨t1, hv4, h⟩ := Option.bind_eq_some_iff.mp h
  have hJ5 : pv_Ev xs L (d + 0) 114 (0, 0, 15, [some (.int x0), some (.int x1), some (.int x2)], [.int t1], M) r := by
    obtain ⟨q2, e3, h⟩ := Option.bind_eq_some_iff.mp h
    obtain rfl := Option.some.inj h
    cases hr
    exact pv_e_rz (by decide +kernel) e3
  clear h
  have h := hv4
  clear hv4
  refine pv_e_icmplt (off := 12) (b := 14) (pc' := 5) (by decide +kernel) (by decide +kernel) rfl (fun c6 => ?_) (fun c6 => ?_)
  · rw [if_pos c6] at h
    refine pv_e_bk (ps := [(14, .iconst 0, 1)]) (t' := (0, 0, 15, [some (.int x0), some (.int x1), some (.int x2)], [.int (0:Int32)], M)) (by decide +kernel) rfl ?_
    obtain rfl := Option.some.inj h
    exact hJ5
  · rw [if_neg c6] at h
    refine pv_e_bk (ps := [(5, .iload_n 0, 1), (6, .iload_n 2, 1)]) (t' := (0, 0, 7, [some (.int x0), some (.int x1), some (.int x2)], [.int x2, .int x0], M)) (by decide +kernel) rfl ?_
    refine pv_e_icmpgt (off := 7) (b := 14) (pc' := 10) (by decide +kernel) (by decide +kernel) rfl (fun c7 => ?_) (fun c7 => ?_)
    · rw [if_pos c7] at h
      refine pv_e_bk (ps := [(14, .iconst 0, 1)]) (t' := (0, 0, 15, [some (.int x0), some (.int x1), some (.int x2)], [.int (0:Int32)], M)) (by decide +kernel) rfl ?_
      obtain rfl := Option.some.inj h
      exact hJ5
    · rw [if_neg c7] at h
      refine pv_e_bk (ps := [(10, .iconst 1, 1), (11, .goto 4, 3)]) (t' := (0, 0, 15, [some (.int x0), some (.int x1), some (.int x2)], [.int (1:Int32)], M)) (by decide +kernel) rfl ?_
      obtain rfl := Option.some.inj h
      exact hJ5
def f115_meet (x1 : Int32) (T : pv_T) : Option (Int32 × pv_T) :=
  (pv_pm T 94 0 x1).bind fun T1 =>
  (pv_rd T1.1 95 6 x1).bind fun q3 =>
  (pv_wm T1 95 6 x1 (q3 + (1:Int32))).bind fun T5 =>
  some ((-3:Int32), T5)
theorem ee115 {xs : Nat → Int32} {L : Nat} (d : Nat) (x1 : Int32) {s : pv_F} {T : pv_T} {q : Int32 × pv_T}  (h : f115_meet x1 T = some q) : pv_Ev xs L (d + 0) 115 (0, 0, 0, [some (.ref 94), some (.int x1)], [], pv_mm s T) (some (.int q.1), pv_mm s q.2) := by
  generalize hr : ((some (.int q.1), pv_mm s q.2) : Option Value × pv_M) = r
  unfold f115_meet at h
  refine pv_e_bk (ps := [(0, .aload_n 0, 1), (1, .iload_n 1, 1)]) (t' := (0, 0, 2, [some (.ref 94), some (.int x1)], [.int x1, .ref 94], pv_mm s T)) (by decide +kernel) rfl ?_
  obtain ⟨T1, e2, h⟩ := Option.bind_eq_some_iff.mp h
  refine pv_e_pms (i := 77) (ci := 6) (j := 0) (pc' := 5) (by decide +kernel) rfl rfl (by decide) rfl rfl e2 rfl ?_
  refine pv_e_bk (ps := [(5, .aload_n 0, 1)]) (t' := (0, 0, 6, [some (.ref 94), some (.int x1)], [.ref 94], pv_mm s T1)) (by decide +kernel) rfl ?_
  refine pv_e_gr (i := 7) (ci := 6) (j := 1) (b := 95) (pc' := 9) (by decide +kernel) rfl rfl rfl ?_
  refine pv_e_bk (ps := [(9, .iload_n 1, 1), (10, .dup2, 1)]) (t' := (0, 0, 11, [some (.ref 94), some (.int x1)], [.int x1, .ref 95, .int x1, .ref 95], pv_mm s T1)) (by decide +kernel) rfl ?_
  obtain ⟨q3, e4, h⟩ := Option.bind_eq_some_iff.mp h
  refine pv_e_rm (pc' := 12) (by decide +kernel) (by decide) rfl e4 rfl ?_
  refine pv_e_bk (ps := [(12, .iconst 1, 1), (13, .iadd, 1)]) (t' := (0, 0, 14, [some (.ref 94), some (.int x1)], [.int (q3 + (1:Int32)), .int x1, .ref 95], pv_mm s T1)) (by decide +kernel) rfl ?_
  obtain ⟨T5, e6, h⟩ := Option.bind_eq_some_iff.mp h
  refine pv_e_wm (pc' := 15) (by decide +kernel) (by decide) rfl e6 rfl ?_
  refine pv_e_bk (ps := [(15, .bipush (-3), 2)]) (t' := (0, 0, 17, [some (.ref 94), some (.int x1)], [.int (-3:Int32)], pv_mm s T5)) (by decide +kernel) rfl ?_
  obtain rfl := Option.some.inj h
  cases hr
  exact pv_e_ri (by decide +kernel)
def f116_ask (x1 : Int32) (x2 : Int32) (T : pv_T) : Option (Int32 × pv_T) :=
  (pv_pm T 94 2 x1).bind fun T1 =>
  some (x2, T1)
theorem ee116 {xs : Nat → Int32} {L : Nat} (d : Nat) (x1 : Int32) (x2 : Int32) {s : pv_F} {T : pv_T} {q : Int32 × pv_T}  (h : f116_ask x1 x2 T = some q) : pv_Ev xs L (d + 0) 116 (0, 0, 0, [some (.ref 94), some (.int x1), some (.int x2)], [], pv_mm s T) (some (.int q.1), pv_mm s q.2) := by
  generalize hr : ((some (.int q.1), pv_mm s q.2) : Option Value × pv_M) = r
  unfold f116_ask at h
  refine pv_e_bk (ps := [(0, .aload_n 0, 1), (1, .iload_n 1, 1)]) (t' := (0, 0, 2, [some (.ref 94), some (.int x1), some (.int x2)], [.int x1, .ref 94], pv_mm s T)) (by decide +kernel) rfl ?_
  obtain ⟨T1, e2, h⟩ := Option.bind_eq_some_iff.mp h
  refine pv_e_pms (i := 80) (ci := 6) (j := 2) (pc' := 5) (by decide +kernel) rfl rfl (by decide) rfl rfl e2 rfl ?_
  refine pv_e_bk (ps := [(5, .iload_n 2, 1)]) (t' := (0, 0, 6, [some (.ref 94), some (.int x1), some (.int x2)], [.int x2], pv_mm s T1)) (by decide +kernel) rfl ?_
  obtain rfl := Option.some.inj h
  cases hr
  exact pv_e_ri (by decide +kernel)
def f117_has (x0 : Int32) (x1 : Int32) : Option (Int32) :=
  ((
    if ((x0 >>> (x1 &&& 31)) &&& (1:Int32)) = (1:Int32) then
      some (1:Int32)
    else
      some (0:Int32)) : Option (Int32)).bind fun t1 =>
  (pv_bl t1).bind fun q2 => some q2
theorem ee117 {xs : Nat → Int32} {L : Nat} (d : Nat) (x0 : Int32) (x1 : Int32) {M : pv_M} {q : Int32}  (h : f117_has x0 x1 = some q) : pv_Ev xs L (d + 0) 117 (0, 0, 0, [some (.int x0), some (.int x1)], [], M) (some (.int q), M) := by
  generalize hr : ((some (.int q), M) : Option Value × pv_M) = r
  unfold f117_has at h
  refine pv_e_bk (ps := [(0, .iload_n 0, 1), (1, .iload_n 1, 1), (2, .ishr, 1), (3, .iconst 1, 1), (4, .iand, 1), (5, .iconst 1, 1)]) (t' := (0, 0, 6, [some (.int x0), some (.int x1)], [.int (1:Int32), .int ((x0 >>> (x1 &&& 31)) &&& (1:Int32))], M)) (by decide +kernel) rfl ?_
  obtain ⟨t1, hv4, h⟩ := Option.bind_eq_some_iff.mp h
  have hJ5 : pv_Ev xs L (d + 0) 117 (0, 0, 14, [some (.int x0), some (.int x1)], [.int t1], M) r := by
    obtain ⟨q2, e3, h⟩ := Option.bind_eq_some_iff.mp h
    obtain rfl := Option.some.inj h
    cases hr
    exact pv_e_rz (by decide +kernel) e3
  clear h
  have h := hv4
  clear hv4
  refine pv_e_icmpne (off := 7) (b := 13) (pc' := 9) (by decide +kernel) (by decide +kernel) rfl (fun c6 => ?_) (fun c6 => ?_)
  · rw [if_pos c6] at h
    refine pv_e_bk (ps := [(9, .iconst 1, 1), (10, .goto 4, 3)]) (t' := (0, 0, 14, [some (.int x0), some (.int x1)], [.int (1:Int32)], M)) (by decide +kernel) rfl ?_
    obtain rfl := Option.some.inj h
    exact hJ5
  · rw [if_neg c6] at h
    refine pv_e_bk (ps := [(13, .iconst 0, 1)]) (t' := (0, 0, 14, [some (.int x0), some (.int x1)], [.int (0:Int32)], M)) (by decide +kernel) rfl ?_
    obtain rfl := Option.some.inj h
    exact hJ5
def f118_sizeOf_b1 (v0 : Int32) (st : Int32 × Int32) : Option ((Int32 × Int32) ⊕ (Int32 × Int32)) := match st with
  | (v1, v2) =>
    if (7:Int32) ≤ v2 then
      some (.inr (v1, v2))
    else
      some (.inl (v1 + ((v0 >>> (v2 &&& 31)) &&& (1:Int32)), v2 + (1:Int32)))
def f118_sizeOf_b1_H (xs : Nat → Int32) (L d : Nat) (r : Option Value × pv_M) (M : pv_M) (v0 : Int32) (st : Int32 × Int32) : Prop := match st with
  | (v1, v2) => pv_Ev xs L (d + 0) 118 (0, 0, 4, [some (.int v0), some (.int v1), some (.int v2)], [], M) r
def f118_sizeOf_b1_X (xs : Nat → Int32) (L d : Nat) (r : Option Value × pv_M) (M : pv_M) (v0 : Int32) (st : Int32 × Int32) : Prop := match st with
  | (v1, v2) => ∀ z2 : Option Value, pv_Ev xs L (d + 0) 118 (0, 0, 24, [some (.int v0), some (.int v1), z2], [], M) r
def f118_sizeOf (x0 : Int32) : Option (Int32) :=
  (pv_lq (f118_sizeOf_b1 x0) 20000 ((0:Int32), (0:Int32))).bind fun (w2, w3) =>
  some w2
theorem f118_sizeOf_b1_ok {xs : Nat → Int32} {L d : Nat} {r : Option Value × pv_M} {M : pv_M} {v0 : Int32} (st : Int32 × Int32) (o : (Int32 × Int32) ⊕ (Int32 × Int32)) (h : f118_sizeOf_b1 v0 st = some o) (hK : pv_Kq (f118_sizeOf_b1_H xs L d r M v0) (f118_sizeOf_b1_X xs L d r M v0) o) : f118_sizeOf_b1_H xs L d r M v0 st := by
  obtain ⟨v1, v2⟩ := st
  show pv_Ev xs L (d + 0) 118 (0, 0, 4, [some (.int v0), some (.int v1), some (.int v2)], [], M) r
  unfold f118_sizeOf_b1 at h
  dsimp only at h
  refine pv_e_bk (ps := [(4, .iload_n 2, 1), (5, .bipush 7, 2)]) (t' := (0, 0, 7, [some (.int v0), some (.int v1), some (.int v2)], [.int (7:Int32), .int v2], M)) (by decide +kernel) rfl ?_
  refine pv_e_icmpge (off := 17) (b := 24) (pc' := 10) (by decide +kernel) (by decide +kernel) rfl (fun c1 => ?_) (fun c1 => ?_)
  · rw [if_pos c1] at h
    obtain rfl := Option.some.inj h
    exact hK _
  · rw [if_neg c1] at h
    refine pv_e_bk (ps := [(10, .iload_n 1, 1), (11, .iload_n 0, 1), (12, .iload_n 2, 1), (13, .ishr, 1), (14, .iconst 1, 1), (15, .iand, 1), (16, .iadd, 1), (17, .istore_n 1, 1), (18, .iinc 2 1, 3), (21, .goto (-17), 3)]) (t' := (0, 0, 4, [some (.int v0), some (.int (v1 + ((v0 >>> (v2 &&& 31)) &&& (1:Int32)))), some (.int (v2 + (1:Int32)))], [], M)) (by decide +kernel) rfl ?_
    obtain rfl := Option.some.inj h
    exact hK
theorem ee118 {xs : Nat → Int32} {L : Nat} (d : Nat) (x0 : Int32) {M : pv_M} {q : Int32}  (h : f118_sizeOf x0 = some q) : pv_Ev xs L (d + 0) 118 (0, 0, 0, [some (.int x0), none, none], [], M) (some (.int q), M) := by
  generalize hr : ((some (.int q), M) : Option Value × pv_M) = r
  unfold f118_sizeOf at h
  refine pv_e_bk (ps := [(0, .iconst 0, 1), (1, .istore_n 1, 1), (2, .iconst 0, 1), (3, .istore_n 2, 1)]) (t' := (0, 0, 4, [some (.int x0), some (.int (0:Int32)), some (.int (0:Int32))], [], M)) (by decide +kernel) rfl ?_
  obtain ⟨⟨w2, w3⟩, e5, h⟩ := Option.bind_eq_some_iff.mp h
  dsimp only at h
  have hx4 : f118_sizeOf_b1_X xs L d r M x0 (w2, w3) := by
    show ∀ z2 : Option Value, pv_Ev xs L (d + 0) 118 (0, 0, 24, [some (.int x0), some (.int w2), z2], [], M) r
    intro z2
    refine pv_e_bk (ps := [(24, .iload_n 1, 1)]) (t' := (0, 0, 25, [some (.int x0), some (.int w2), z2], [.int w2], M)) (by decide +kernel) rfl ?_
    obtain rfl := Option.some.inj h
    cases hr
    exact pv_e_ri (by decide +kernel)
  exact pv_lq_ok (H := f118_sizeOf_b1_H xs L d r M x0) (X := f118_sizeOf_b1_X xs L d r M x0) (f118_sizeOf_b1_ok (xs := xs) (L := L) (d := d) (r := r) (M := M) (v0 := x0)) 20000 _ _ e5 hx4
def f119_isRow (x0 : Int32) : Option (Int32) :=
  (f114_in x0 (0:Int32) (5:Int32)).bind fun q2 =>
  (pv_bl q2).bind fun q3 => some q3
theorem ee119 {xs : Nat → Int32} {L : Nat} (d : Nat) (x0 : Int32) {M : pv_M} {q : Int32}  (h : f119_isRow x0 = some q) : pv_Ev xs L (d + 1) 119 (0, 0, 0, [some (.int x0)], [], M) (some (.int q), M) := by
  generalize hr : ((some (.int q), M) : Option Value × pv_M) = r
  unfold f119_isRow at h
  refine pv_e_bk (ps := [(0, .iload_n 0, 1), (1, .iconst 0, 1), (2, .iconst 5, 1)]) (t' := (0, 0, 3, [some (.int x0)], [.int (5:Int32), .int (0:Int32), .int x0], M)) (by decide +kernel) rfl ?_
  obtain ⟨q2, e1, h⟩ := Option.bind_eq_some_iff.mp h
  refine pv_e_csi (d := d + 0) (i := 83) (z := 114) (np := 3) (ml := 3) (As := [.int x0, .int (0:Int32), .int (5:Int32)]) (rs := []) (pc' := 6) (by decide +kernel) rfl rfl rfl (Nat.le_of_ble_eq_true rfl) (Nat.le_of_ble_eq_true rfl) rfl (ee114 (d + 0) x0 (0:Int32) (5:Int32) e1) ?_
  obtain ⟨q3, e4, h⟩ := Option.bind_eq_some_iff.mp h
  obtain rfl := Option.some.inj h
  cases hr
  exact pv_e_rz (by decide +kernel) e4
def f120_isText (x0 : Int32) : Option (Int32) :=
  (f114_in x0 (0:Int32) (3:Int32)).bind fun q2 =>
  (pv_bl q2).bind fun q3 => some q3
theorem ee120 {xs : Nat → Int32} {L : Nat} (d : Nat) (x0 : Int32) {M : pv_M} {q : Int32}  (h : f120_isText x0 = some q) : pv_Ev xs L (d + 1) 120 (0, 0, 0, [some (.int x0)], [], M) (some (.int q), M) := by
  generalize hr : ((some (.int q), M) : Option Value × pv_M) = r
  unfold f120_isText at h
  refine pv_e_bk (ps := [(0, .iload_n 0, 1), (1, .iconst 0, 1), (2, .iconst 3, 1)]) (t' := (0, 0, 3, [some (.int x0)], [.int (3:Int32), .int (0:Int32), .int x0], M)) (by decide +kernel) rfl ?_
  obtain ⟨q2, e1, h⟩ := Option.bind_eq_some_iff.mp h
  refine pv_e_csi (d := d + 0) (i := 83) (z := 114) (np := 3) (ml := 3) (As := [.int x0, .int (0:Int32), .int (3:Int32)]) (rs := []) (pc' := 6) (by decide +kernel) rfl rfl rfl (Nat.le_of_ble_eq_true rfl) (Nat.le_of_ble_eq_true rfl) rfl (ee114 (d + 0) x0 (0:Int32) (3:Int32) e1) ?_
  obtain ⟨q3, e4, h⟩ := Option.bind_eq_some_iff.mp h
  obtain rfl := Option.some.inj h
  cases hr
  exact pv_e_rz (by decide +kernel) e4
def f121_askedRow (x1 : Int32) (T : pv_T) : Option (Int32 × pv_T) :=
  (f119_isRow x1).bind fun q2 =>
  ((
    if q2 = 0 then
      some ((-1:Int32), T)
    else
      (pv_rd T.1 96 6 x1).bind fun q8 =>
      if 0 ≤ q8 then
        some ((0:Int32), T)
      else
        (f115_meet (1:Int32) T).bind fun (q12, T13) =>
        some (q12, T13)) : Option (Int32 × pv_T)).bind fun (t3, T4) =>
  some (t3, T4)
theorem ee121 {xs : Nat → Int32} {L : Nat} (d : Nat) (x1 : Int32) {s : pv_F} {T : pv_T} {q : Int32 × pv_T}  (h : f121_askedRow x1 T = some q) : pv_Ev xs L (d + 2) 121 (0, 0, 0, [some (.ref 94), some (.int x1)], [], pv_mm s T) (some (.int q.1), pv_mm s q.2) := by
  generalize hr : ((some (.int q.1), pv_mm s q.2) : Option Value × pv_M) = r
  unfold f121_askedRow at h
  refine pv_e_bk (ps := [(0, .iload_n 1, 1)]) (t' := (0, 0, 1, [some (.ref 94), some (.int x1)], [.int x1], pv_mm s T)) (by decide +kernel) rfl ?_
  obtain ⟨q2, e1, h⟩ := Option.bind_eq_some_iff.mp h
  refine pv_e_csi (d := d + 1) (i := 87) (z := 119) (np := 1) (ml := 1) (As := [.int x1]) (rs := []) (pc' := 4) (by decide +kernel) rfl rfl rfl (Nat.le_of_ble_eq_true rfl) (Nat.le_of_ble_eq_true rfl) rfl (ee119 (d + 0) x1 e1) ?_
  obtain ⟨⟨t3, T4⟩, hv5, h⟩ := Option.bind_eq_some_iff.mp h
  dsimp only at h
  have hJ6 : pv_Ev xs L (d + 2) 121 (0, 0, 29, [some (.ref 94), some (.int x1)], [.int t3], pv_mm s T4) r := by
    obtain rfl := Option.some.inj h
    cases hr
    exact pv_e_ri (by decide +kernel)
  clear h
  have h := hv5
  clear hv5
  refine pv_e_ifne (off := 7) (b := 11) (pc' := 7) (by decide +kernel) (by decide +kernel) rfl (fun c7 => ?_) (fun c7 => ?_)
  · rw [if_pos c7] at h
    refine pv_e_bk (ps := [(7, .iconst (-1), 1), (8, .goto 21, 3)]) (t' := (0, 0, 29, [some (.ref 94), some (.int x1)], [.int (-1:Int32)], pv_mm s T)) (by decide +kernel) rfl ?_
    cases h
    exact hJ6
  · rw [if_neg c7] at h
    refine pv_e_bk (ps := [(11, .aload_n 0, 1)]) (t' := (0, 0, 12, [some (.ref 94), some (.int x1)], [.ref 94], pv_mm s T)) (by decide +kernel) rfl ?_
    refine pv_e_gr (i := 13) (ci := 6) (j := 3) (b := 96) (pc' := 15) (by decide +kernel) rfl rfl rfl ?_
    refine pv_e_bk (ps := [(15, .iload_n 1, 1)]) (t' := (0, 0, 16, [some (.ref 94), some (.int x1)], [.int x1, .ref 96], pv_mm s T)) (by decide +kernel) rfl ?_
    obtain ⟨q8, e9, h⟩ := Option.bind_eq_some_iff.mp h
    refine pv_e_rm (pc' := 17) (by decide +kernel) (by decide) rfl e9 rfl ?_
    refine pv_e_ifge (off := 11) (b := 28) (pc' := 20) (by decide +kernel) (by decide +kernel) rfl (fun c10 => ?_) (fun c10 => ?_)
    · rw [if_pos c10] at h
      refine pv_e_bk (ps := [(28, .iconst 0, 1)]) (t' := (0, 0, 29, [some (.ref 94), some (.int x1)], [.int (0:Int32)], pv_mm s T)) (by decide +kernel) rfl ?_
      cases h
      exact hJ6
    · rw [if_neg c10] at h
      refine pv_e_bk (ps := [(20, .aload_n 0, 1), (21, .iconst 1, 1)]) (t' := (0, 0, 22, [some (.ref 94), some (.int x1)], [.int (1:Int32), .ref 94], pv_mm s T)) (by decide +kernel) rfl ?_
      obtain ⟨⟨q12, T13⟩, e11, h⟩ := Option.bind_eq_some_iff.mp h
      dsimp only at h
      refine pv_e_cvi (d := d + 1) (i := 91) (z := 115) (np := 1) (ml := 2) (ci := 6) (As := [.int (1:Int32)]) (rs := []) (pc' := 25) (by decide +kernel) rfl rfl rfl rfl (Nat.le_of_ble_eq_true rfl) (Nat.le_of_ble_eq_true rfl) rfl (ee115 (d + 1) (1:Int32) e11) ?_
      refine pv_e_bk (ps := [(25, .goto 4, 3)]) (t' := (0, 0, 29, [some (.ref 94), some (.int x1)], [.int q12], pv_mm s T13)) (by decide +kernel) rfl ?_
      cases h
      exact hJ6
def f122_askedText (x1 : Int32) (T : pv_T) : Option (Int32 × pv_T) :=
  (f120_isText x1).bind fun q2 =>
  ((
    if q2 = 0 then
      some ((-1:Int32), T)
    else
      (pv_rd T.1 99 4 x1).bind fun q8 =>
      if 0 ≤ q8 then
        some ((0:Int32), T)
      else
        (f115_meet (1:Int32) T).bind fun (q12, T13) =>
        some (q12, T13)) : Option (Int32 × pv_T)).bind fun (t3, T4) =>
  some (t3, T4)
theorem ee122 {xs : Nat → Int32} {L : Nat} (d : Nat) (x1 : Int32) {s : pv_F} {T : pv_T} {q : Int32 × pv_T}  (h : f122_askedText x1 T = some q) : pv_Ev xs L (d + 2) 122 (0, 0, 0, [some (.ref 94), some (.int x1)], [], pv_mm s T) (some (.int q.1), pv_mm s q.2) := by
  generalize hr : ((some (.int q.1), pv_mm s q.2) : Option Value × pv_M) = r
  unfold f122_askedText at h
  refine pv_e_bk (ps := [(0, .iload_n 1, 1)]) (t' := (0, 0, 1, [some (.ref 94), some (.int x1)], [.int x1], pv_mm s T)) (by decide +kernel) rfl ?_
  obtain ⟨q2, e1, h⟩ := Option.bind_eq_some_iff.mp h
  refine pv_e_csi (d := d + 1) (i := 95) (z := 120) (np := 1) (ml := 1) (As := [.int x1]) (rs := []) (pc' := 4) (by decide +kernel) rfl rfl rfl (Nat.le_of_ble_eq_true rfl) (Nat.le_of_ble_eq_true rfl) rfl (ee120 (d + 0) x1 e1) ?_
  obtain ⟨⟨t3, T4⟩, hv5, h⟩ := Option.bind_eq_some_iff.mp h
  dsimp only at h
  have hJ6 : pv_Ev xs L (d + 2) 122 (0, 0, 29, [some (.ref 94), some (.int x1)], [.int t3], pv_mm s T4) r := by
    obtain rfl := Option.some.inj h
    cases hr
    exact pv_e_ri (by decide +kernel)
  clear h
  have h := hv5
  clear hv5
  refine pv_e_ifne (off := 7) (b := 11) (pc' := 7) (by decide +kernel) (by decide +kernel) rfl (fun c7 => ?_) (fun c7 => ?_)
  · rw [if_pos c7] at h
    refine pv_e_bk (ps := [(7, .iconst (-1), 1), (8, .goto 21, 3)]) (t' := (0, 0, 29, [some (.ref 94), some (.int x1)], [.int (-1:Int32)], pv_mm s T)) (by decide +kernel) rfl ?_
    cases h
    exact hJ6
  · rw [if_neg c7] at h
    refine pv_e_bk (ps := [(11, .aload_n 0, 1)]) (t' := (0, 0, 12, [some (.ref 94), some (.int x1)], [.ref 94], pv_mm s T)) (by decide +kernel) rfl ?_
    refine pv_e_gr (i := 22) (ci := 6) (j := 6) (b := 99) (pc' := 15) (by decide +kernel) rfl rfl rfl ?_
    refine pv_e_bk (ps := [(15, .iload_n 1, 1)]) (t' := (0, 0, 16, [some (.ref 94), some (.int x1)], [.int x1, .ref 99], pv_mm s T)) (by decide +kernel) rfl ?_
    obtain ⟨q8, e9, h⟩ := Option.bind_eq_some_iff.mp h
    refine pv_e_rm (pc' := 17) (by decide +kernel) (by decide) rfl e9 rfl ?_
    refine pv_e_ifge (off := 11) (b := 28) (pc' := 20) (by decide +kernel) (by decide +kernel) rfl (fun c10 => ?_) (fun c10 => ?_)
    · rw [if_pos c10] at h
      refine pv_e_bk (ps := [(28, .iconst 0, 1)]) (t' := (0, 0, 29, [some (.ref 94), some (.int x1)], [.int (0:Int32)], pv_mm s T)) (by decide +kernel) rfl ?_
      cases h
      exact hJ6
    · rw [if_neg c10] at h
      refine pv_e_bk (ps := [(20, .aload_n 0, 1), (21, .iconst 1, 1)]) (t' := (0, 0, 22, [some (.ref 94), some (.int x1)], [.int (1:Int32), .ref 94], pv_mm s T)) (by decide +kernel) rfl ?_
      obtain ⟨⟨q12, T13⟩, e11, h⟩ := Option.bind_eq_some_iff.mp h
      dsimp only at h
      refine pv_e_cvi (d := d + 1) (i := 91) (z := 115) (np := 1) (ml := 2) (ci := 6) (As := [.int (1:Int32)]) (rs := []) (pc' := 25) (by decide +kernel) rfl rfl rfl rfl (Nat.le_of_ble_eq_true rfl) (Nat.le_of_ble_eq_true rfl) rfl (ee115 (d + 1) (1:Int32) e11) ?_
      refine pv_e_bk (ps := [(25, .goto 4, 3)]) (t' := (0, 0, 29, [some (.ref 94), some (.int x1)], [.int q12], pv_mm s T13)) (by decide +kernel) rfl ?_
      cases h
      exact hJ6
def f123_rowAt (x1 : Int32) (x2 : Int32) (T : pv_T) : Option (Int32) :=
  (pv_rd T.1 97 240 (((40:Int32) * x1) + x2)).bind fun q1 =>
  some q1
theorem ee123 {xs : Nat → Int32} {L : Nat} (d : Nat) (x1 : Int32) (x2 : Int32) {s : pv_F} {T : pv_T} {q : Int32}  (h : f123_rowAt x1 x2 T = some q) : pv_Ev xs L (d + 0) 123 (0, 0, 0, [some (.ref 94), some (.int x1), some (.int x2)], [], pv_mm s T) (some (.int q), pv_mm s T) := by
  generalize hr : ((some (.int q), pv_mm s T) : Option Value × pv_M) = r
  unfold f123_rowAt at h
  refine pv_e_bk (ps := [(0, .aload_n 0, 1)]) (t' := (0, 0, 1, [some (.ref 94), some (.int x1), some (.int x2)], [.ref 94], pv_mm s T)) (by decide +kernel) rfl ?_
  refine pv_e_gr (i := 16) (ci := 6) (j := 4) (b := 97) (pc' := 4) (by decide +kernel) rfl rfl rfl ?_
  refine pv_e_bk (ps := [(4, .bipush 40, 2), (6, .iload_n 1, 1), (7, .imul, 1), (8, .iload_n 2, 1), (9, .iadd, 1)]) (t' := (0, 0, 10, [some (.ref 94), some (.int x1), some (.int x2)], [.int (((40:Int32) * x1) + x2), .ref 97], pv_mm s T)) (by decide +kernel) rfl ?_
  obtain ⟨q1, e2, h⟩ := Option.bind_eq_some_iff.mp h
  refine pv_e_rm (pc' := 11) (by decide +kernel) (by decide) rfl e2 rfl ?_
  obtain rfl := Option.some.inj h
  cases hr
  exact pv_e_ri (by decide +kernel)
def f124_setRow (x1 : Int32) (x2 : Int32) (x3 : Int32) (T : pv_T) : Option (pv_T) :=
  (pv_wm T 97 240 (((40:Int32) * x1) + x2) x3).bind fun T1 =>
  some T1
theorem ee124 {xs : Nat → Int32} {L : Nat} (d : Nat) (x1 : Int32) (x2 : Int32) (x3 : Int32) {s : pv_F} {T : pv_T} {q : pv_T}  (h : f124_setRow x1 x2 x3 T = some q) : pv_Ev xs L (d + 0) 124 (0, 0, 0, [some (.ref 94), some (.int x1), some (.int x2), some (.int x3)], [], pv_mm s T) (none, pv_mm s q) := by
  generalize hr : ((none, pv_mm s q) : Option Value × pv_M) = r
  unfold f124_setRow at h
  refine pv_e_bk (ps := [(0, .aload_n 0, 1)]) (t' := (0, 0, 1, [some (.ref 94), some (.int x1), some (.int x2), some (.int x3)], [.ref 94], pv_mm s T)) (by decide +kernel) rfl ?_
  refine pv_e_gr (i := 16) (ci := 6) (j := 4) (b := 97) (pc' := 4) (by decide +kernel) rfl rfl rfl ?_
  refine pv_e_bk (ps := [(4, .bipush 40, 2), (6, .iload_n 1, 1), (7, .imul, 1), (8, .iload_n 2, 1), (9, .iadd, 1), (10, .iload_n 3, 1)]) (t' := (0, 0, 11, [some (.ref 94), some (.int x1), some (.int x2), some (.int x3)], [.int x3, .int (((40:Int32) * x1) + x2), .ref 97], pv_mm s T)) (by decide +kernel) rfl ?_
  obtain ⟨T1, e2, h⟩ := Option.bind_eq_some_iff.mp h
  refine pv_e_wm (pc' := 12) (by decide +kernel) (by decide) rfl e2 rfl ?_
  obtain rfl := Option.some.inj h
  cases hr
  exact pv_e_rv (by decide +kernel)
def f125_row_b1 (v1 : Int32) (v2 : Int32) (st : Int32 × pv_T) : Option ((Int32 × pv_T) ⊕ (Int32 × pv_T)) := match st with
  | (v3, T) =>
    if (40:Int32) ≤ v3 then
      some (.inr (v3, T))
    else
      (f124_setRow v1 v3 (0:Int32) T).bind fun T10 =>
      some (.inl (v3 + (1:Int32), T10))
def f125_row_b1_H (xs : Nat → Int32) (L d : Nat) (r : Option Value × pv_M) (s : pv_F) (v1 : Int32) (v2 : Int32) (st : Int32 × pv_T) : Prop := match st with
  | (v3, T) => pv_Ev xs L (d + 2) 125 (0, 0, 34, [some (.ref 94), some (.int v1), some (.int v2), some (.int v3)], [], pv_mm s T) r
def f125_row_b1_X (xs : Nat → Int32) (L d : Nat) (r : Option Value × pv_M) (s : pv_F) (v1 : Int32) (v2 : Int32) (st : Int32 × pv_T) : Prop := match st with
  | (v3, T) => ∀ z3 : Option Value, pv_Ev xs L (d + 2) 125 (0, 0, 53, [some (.ref 94), some (.int v1), some (.int v2), z3], [], pv_mm s T) r
def f125_row (x1 : Int32) (x2 : Int32) (T : pv_T) : Option (Int32 × pv_T) :=
  (f119_isRow x1).bind fun q2 =>
  if q2 = 0 then
    some ((-1:Int32), T)
  else
    if x2 ≤ (40:Int32) then
      if 0 ≤ x2 then
        (pv_wm T 96 6 x1 x2).bind fun T6 =>
        (pv_lq (f125_row_b1 x1 x2) 20000 ((0:Int32), T6)).bind fun (w11, T12) =>
        some (x2, T12)
      else
        (f115_meet (5:Int32) T).bind fun (q16, T17) =>
        some (q16, T17)
    else
      some ((-1:Int32), T)
theorem f125_row_b1_ok {xs : Nat → Int32} {L d : Nat} {r : Option Value × pv_M} {s : pv_F} {v1 : Int32} {v2 : Int32} (st : Int32 × pv_T) (o : (Int32 × pv_T) ⊕ (Int32 × pv_T)) (h : f125_row_b1 v1 v2 st = some o) (hK : pv_Kq (f125_row_b1_H xs L d r s v1 v2) (f125_row_b1_X xs L d r s v1 v2) o) : f125_row_b1_H xs L d r s v1 v2 st := by
  obtain ⟨v3, T⟩ := st
  show pv_Ev xs L (d + 2) 125 (0, 0, 34, [some (.ref 94), some (.int v1), some (.int v2), some (.int v3)], [], pv_mm s T) r
  unfold f125_row_b1 at h
  dsimp only at h
  refine pv_e_bk (ps := [(34, .iload_n 3, 1), (35, .bipush 40, 2)]) (t' := (0, 0, 37, [some (.ref 94), some (.int v1), some (.int v2), some (.int v3)], [.int (40:Int32), .int v3], pv_mm s T)) (by decide +kernel) rfl ?_
  refine pv_e_icmpge (off := 16) (b := 53) (pc' := 40) (by decide +kernel) (by decide +kernel) rfl (fun c8 => ?_) (fun c8 => ?_)
  · rw [if_pos c8] at h
    obtain rfl := Option.some.inj h
    exact hK _
  · rw [if_neg c8] at h
    refine pv_e_bk (ps := [(40, .aload_n 0, 1), (41, .iload_n 1, 1), (42, .iload_n 3, 1), (43, .iconst 0, 1)]) (t' := (0, 0, 44, [some (.ref 94), some (.int v1), some (.int v2), some (.int v3)], [.int (0:Int32), .int v3, .int v1, .ref 94], pv_mm s T)) (by decide +kernel) rfl ?_
    obtain ⟨T10, e9, h⟩ := Option.bind_eq_some_iff.mp h
    refine pv_e_cvv (d := d + 1) (i := 98) (z := 124) (np := 3) (ml := 4) (ci := 6) (As := [.int v1, .int v3, .int (0:Int32)]) (rs := []) (pc' := 47) (by decide +kernel) rfl rfl rfl rfl (Nat.le_of_ble_eq_true rfl) (Nat.le_of_ble_eq_true rfl) rfl (ee124 (d + 1) v1 v3 (0:Int32) e9) ?_
    refine pv_e_bk (ps := [(47, .iinc 3 1, 3), (50, .goto (-16), 3)]) (t' := (0, 0, 34, [some (.ref 94), some (.int v1), some (.int v2), some (.int (v3 + (1:Int32)))], [], pv_mm s T10)) (by decide +kernel) rfl ?_
    obtain rfl := Option.some.inj h
    exact hK
theorem ee125 {xs : Nat → Int32} {L : Nat} (d : Nat) (x1 : Int32) (x2 : Int32) {s : pv_F} {T : pv_T} {q : Int32 × pv_T}  (h : f125_row x1 x2 T = some q) : pv_Ev xs L (d + 2) 125 (0, 0, 0, [some (.ref 94), some (.int x1), some (.int x2), none], [], pv_mm s T) (some (.int q.1), pv_mm s q.2) := by
  generalize hr : ((some (.int q.1), pv_mm s q.2) : Option Value × pv_M) = r
  unfold f125_row at h
  refine pv_e_bk (ps := [(0, .iload_n 1, 1)]) (t' := (0, 0, 1, [some (.ref 94), some (.int x1), some (.int x2), none], [.int x1], pv_mm s T)) (by decide +kernel) rfl ?_
  obtain ⟨q2, e1, h⟩ := Option.bind_eq_some_iff.mp h
  refine pv_e_csi (d := d + 1) (i := 87) (z := 119) (np := 1) (ml := 1) (As := [.int x1]) (rs := []) (pc' := 4) (by decide +kernel) rfl rfl rfl (Nat.le_of_ble_eq_true rfl) (Nat.le_of_ble_eq_true rfl) rfl (ee119 (d + 0) x1 e1) ?_
  refine pv_e_ifeq (off := 9) (b := 13) (pc' := 7) (by decide +kernel) (by decide +kernel) rfl (fun c3 => ?_) (fun c3 => ?_)
  · rw [if_pos c3] at h
    refine pv_e_bk (ps := [(13, .iconst (-1), 1)]) (t' := (0, 0, 14, [some (.ref 94), some (.int x1), some (.int x2), none], [.int (-1:Int32)], pv_mm s T)) (by decide +kernel) rfl ?_
    obtain rfl := Option.some.inj h
    cases hr
    exact pv_e_ri (by decide +kernel)
  · rw [if_neg c3] at h
    refine pv_e_bk (ps := [(7, .iload_n 2, 1), (8, .bipush 40, 2)]) (t' := (0, 0, 10, [some (.ref 94), some (.int x1), some (.int x2), none], [.int (40:Int32), .int x2], pv_mm s T)) (by decide +kernel) rfl ?_
    refine pv_e_icmple (off := 5) (b := 15) (pc' := 13) (by decide +kernel) (by decide +kernel) rfl (fun c4 => ?_) (fun c4 => ?_)
    · rw [if_pos c4] at h
      refine pv_e_bk (ps := [(15, .iload_n 2, 1)]) (t' := (0, 0, 16, [some (.ref 94), some (.int x1), some (.int x2), none], [.int x2], pv_mm s T)) (by decide +kernel) rfl ?_
      refine pv_e_ifge (off := 9) (b := 25) (pc' := 19) (by decide +kernel) (by decide +kernel) rfl (fun c5 => ?_) (fun c5 => ?_)
      · rw [if_pos c5] at h
        refine pv_e_bk (ps := [(25, .aload_n 0, 1)]) (t' := (0, 0, 26, [some (.ref 94), some (.int x1), some (.int x2), none], [.ref 94], pv_mm s T)) (by decide +kernel) rfl ?_
        refine pv_e_gr (i := 13) (ci := 6) (j := 3) (b := 96) (pc' := 29) (by decide +kernel) rfl rfl rfl ?_
        refine pv_e_bk (ps := [(29, .iload_n 1, 1), (30, .iload_n 2, 1)]) (t' := (0, 0, 31, [some (.ref 94), some (.int x1), some (.int x2), none], [.int x2, .int x1, .ref 96], pv_mm s T)) (by decide +kernel) rfl ?_
        obtain ⟨T6, e7, h⟩ := Option.bind_eq_some_iff.mp h
        refine pv_e_wm (pc' := 32) (by decide +kernel) (by decide) rfl e7 rfl ?_
        refine pv_e_bk (ps := [(32, .iconst 0, 1), (33, .istore_n 3, 1)]) (t' := (0, 0, 34, [some (.ref 94), some (.int x1), some (.int x2), some (.int (0:Int32))], [], pv_mm s T6)) (by decide +kernel) rfl ?_
        obtain ⟨⟨w11, T12⟩, e14, h⟩ := Option.bind_eq_some_iff.mp h
        dsimp only at h
        have hx13 : f125_row_b1_X xs L d r s x1 x2 (w11, T12) := by
          show ∀ z3 : Option Value, pv_Ev xs L (d + 2) 125 (0, 0, 53, [some (.ref 94), some (.int x1), some (.int x2), z3], [], pv_mm s T12) r
          intro z3
          refine pv_e_bk (ps := [(53, .iload_n 2, 1)]) (t' := (0, 0, 54, [some (.ref 94), some (.int x1), some (.int x2), z3], [.int x2], pv_mm s T12)) (by decide +kernel) rfl ?_
          obtain rfl := Option.some.inj h
          cases hr
          exact pv_e_ri (by decide +kernel)
        exact pv_lq_ok (H := f125_row_b1_H xs L d r s x1 x2) (X := f125_row_b1_X xs L d r s x1 x2) (f125_row_b1_ok (xs := xs) (L := L) (d := d) (r := r) (s := s) (v1 := x1) (v2 := x2)) 20000 _ _ e14 hx13
      · rw [if_neg c5] at h
        refine pv_e_bk (ps := [(19, .aload_n 0, 1), (20, .iconst 5, 1)]) (t' := (0, 0, 21, [some (.ref 94), some (.int x1), some (.int x2), none], [.int (5:Int32), .ref 94], pv_mm s T)) (by decide +kernel) rfl ?_
        obtain ⟨⟨q16, T17⟩, e15, h⟩ := Option.bind_eq_some_iff.mp h
        dsimp only at h
        refine pv_e_cvi (d := d + 1) (i := 91) (z := 115) (np := 1) (ml := 2) (ci := 6) (As := [.int (5:Int32)]) (rs := []) (pc' := 24) (by decide +kernel) rfl rfl rfl rfl (Nat.le_of_ble_eq_true rfl) (Nat.le_of_ble_eq_true rfl) rfl (ee115 (d + 1) (5:Int32) e15) ?_
        obtain rfl := Option.some.inj h
        cases hr
        exact pv_e_ri (by decide +kernel)
    · rw [if_neg c4] at h
      refine pv_e_bk (ps := [(13, .iconst (-1), 1)]) (t' := (0, 0, 14, [some (.ref 94), some (.int x1), some (.int x2), none], [.int (-1:Int32)], pv_mm s T)) (by decide +kernel) rfl ?_
      obtain rfl := Option.some.inj h
      cases hr
      exact pv_e_ri (by decide +kernel)
def f126_at (x1 : Int32) (x2 : Int32) (T : pv_T) : Option (Int32 × pv_T) :=
  (f121_askedRow x1 T).bind fun (q2, T3) =>
  if 0 ≤ q2 then
    (pv_rd T3.1 96 6 x1).bind fun q5 =>
    (f114_in x2 (0:Int32) (q5 - (1:Int32))).bind fun q8 =>
    ((
      if q8 = 0 then
        (f115_meet (2:Int32) T3).bind fun (q15, T16) =>
        some (q15, T16)
      else
        (f123_rowAt x1 x2 T3).bind fun q18 =>
        (f116_ask q18 (1:Int32) T3).bind fun (q20, T21) =>
        some (q20, T21)) : Option (Int32 × pv_T)).bind fun (t9, T10) =>
    some (t9, T10)
  else
    some (q2, T3)
theorem ee126 {xs : Nat → Int32} {L : Nat} (d : Nat) (x1 : Int32) (x2 : Int32) {s : pv_F} {T : pv_T} {q : Int32 × pv_T}  (h : f126_at x1 x2 T = some q) : pv_Ev xs L (d + 3) 126 (0, 0, 0, [some (.ref 94), some (.int x1), some (.int x2), none], [], pv_mm s T) (some (.int q.1), pv_mm s q.2) := by
  generalize hr : ((some (.int q.1), pv_mm s q.2) : Option Value × pv_M) = r
  unfold f126_at at h
  refine pv_e_bk (ps := [(0, .aload_n 0, 1), (1, .iload_n 1, 1)]) (t' := (0, 0, 2, [some (.ref 94), some (.int x1), some (.int x2), none], [.int x1, .ref 94], pv_mm s T)) (by decide +kernel) rfl ?_
  obtain ⟨⟨q2, T3⟩, e1, h⟩ := Option.bind_eq_some_iff.mp h
  dsimp only at h
  refine pv_e_cvi (d := d + 2) (i := 102) (z := 121) (np := 1) (ml := 2) (ci := 6) (As := [.int x1]) (rs := []) (pc' := 5) (by decide +kernel) rfl rfl rfl rfl (Nat.le_of_ble_eq_true rfl) (Nat.le_of_ble_eq_true rfl) rfl (ee121 (d + 0) x1 e1) ?_
  refine pv_e_bk (ps := [(5, .istore_n 3, 1), (6, .iload_n 3, 1)]) (t' := (0, 0, 7, [some (.ref 94), some (.int x1), some (.int x2), some (.int q2)], [.int q2], pv_mm s T3)) (by decide +kernel) rfl ?_
  refine pv_e_ifge (off := 5) (b := 12) (pc' := 10) (by decide +kernel) (by decide +kernel) rfl (fun c4 => ?_) (fun c4 => ?_)
  · rw [if_pos c4] at h
    refine pv_e_bk (ps := [(12, .iload_n 2, 1), (13, .iconst 0, 1), (14, .aload_n 0, 1)]) (t' := (0, 0, 15, [some (.ref 94), some (.int x1), some (.int x2), some (.int q2)], [.ref 94, .int (0:Int32), .int x2], pv_mm s T3)) (by decide +kernel) rfl ?_
    refine pv_e_gr (i := 13) (ci := 6) (j := 3) (b := 96) (pc' := 18) (by decide +kernel) rfl rfl rfl ?_
    refine pv_e_bk (ps := [(18, .iload_n 1, 1)]) (t' := (0, 0, 19, [some (.ref 94), some (.int x1), some (.int x2), some (.int q2)], [.int x1, .ref 96, .int (0:Int32), .int x2], pv_mm s T3)) (by decide +kernel) rfl ?_
    obtain ⟨q5, e6, h⟩ := Option.bind_eq_some_iff.mp h
    refine pv_e_rm (pc' := 20) (by decide +kernel) (by decide) rfl e6 rfl ?_
    refine pv_e_bk (ps := [(20, .iconst 1, 1), (21, .isub, 1)]) (t' := (0, 0, 22, [some (.ref 94), some (.int x1), some (.int x2), some (.int q2)], [.int (q5 - (1:Int32)), .int (0:Int32), .int x2], pv_mm s T3)) (by decide +kernel) rfl ?_
    obtain ⟨q8, e7, h⟩ := Option.bind_eq_some_iff.mp h
    refine pv_e_csi (d := d + 2) (i := 83) (z := 114) (np := 3) (ml := 3) (As := [.int x2, .int (0:Int32), .int (q5 - (1:Int32))]) (rs := []) (pc' := 25) (by decide +kernel) rfl rfl rfl (Nat.le_of_ble_eq_true rfl) (Nat.le_of_ble_eq_true rfl) rfl (ee114 (d + 2) x2 (0:Int32) (q5 - (1:Int32)) e7) ?_
    obtain ⟨⟨t9, T10⟩, hv11, h⟩ := Option.bind_eq_some_iff.mp h
    dsimp only at h
    have hJ12 : pv_Ev xs L (d + 3) 126 (0, 0, 47, [some (.ref 94), some (.int x1), some (.int x2), some (.int q2)], [.int t9], pv_mm s T10) r := by
      obtain rfl := Option.some.inj h
      cases hr
      exact pv_e_ri (by decide +kernel)
    clear h
    have h := hv11
    clear hv11
    refine pv_e_ifeq (off := 17) (b := 42) (pc' := 28) (by decide +kernel) (by decide +kernel) rfl (fun c13 => ?_) (fun c13 => ?_)
    · rw [if_pos c13] at h
      refine pv_e_bk (ps := [(42, .aload_n 0, 1), (43, .iconst 2, 1)]) (t' := (0, 0, 44, [some (.ref 94), some (.int x1), some (.int x2), some (.int q2)], [.int (2:Int32), .ref 94], pv_mm s T3)) (by decide +kernel) rfl ?_
      obtain ⟨⟨q15, T16⟩, e14, h⟩ := Option.bind_eq_some_iff.mp h
      dsimp only at h
      refine pv_e_cvi (d := d + 2) (i := 91) (z := 115) (np := 1) (ml := 2) (ci := 6) (As := [.int (2:Int32)]) (rs := []) (pc' := 47) (by decide +kernel) rfl rfl rfl rfl (Nat.le_of_ble_eq_true rfl) (Nat.le_of_ble_eq_true rfl) rfl (ee115 (d + 2) (2:Int32) e14) ?_
      cases h
      exact hJ12
    · rw [if_neg c13] at h
      refine pv_e_bk (ps := [(28, .aload_n 0, 1), (29, .aload_n 0, 1), (30, .iload_n 1, 1), (31, .iload_n 2, 1)]) (t' := (0, 0, 32, [some (.ref 94), some (.int x1), some (.int x2), some (.int q2)], [.int x2, .int x1, .ref 94, .ref 94], pv_mm s T3)) (by decide +kernel) rfl ?_
      obtain ⟨q18, e17, h⟩ := Option.bind_eq_some_iff.mp h
      refine pv_e_cvi (d := d + 2) (i := 105) (z := 123) (np := 2) (ml := 3) (ci := 6) (As := [.int x1, .int x2]) (rs := [.ref 94]) (pc' := 35) (by decide +kernel) rfl rfl rfl rfl (Nat.le_of_ble_eq_true rfl) (Nat.le_of_ble_eq_true rfl) rfl (ee123 (d + 2) x1 x2 e17) ?_
      refine pv_e_bk (ps := [(35, .iconst 1, 1)]) (t' := (0, 0, 36, [some (.ref 94), some (.int x1), some (.int x2), some (.int q2)], [.int (1:Int32), .int q18, .ref 94], pv_mm s T3)) (by decide +kernel) rfl ?_
      obtain ⟨⟨q20, T21⟩, e19, h⟩ := Option.bind_eq_some_iff.mp h
      dsimp only at h
      refine pv_e_cvi (d := d + 2) (i := 109) (z := 116) (np := 2) (ml := 3) (ci := 6) (As := [.int q18, .int (1:Int32)]) (rs := []) (pc' := 39) (by decide +kernel) rfl rfl rfl rfl (Nat.le_of_ble_eq_true rfl) (Nat.le_of_ble_eq_true rfl) rfl (ee116 (d + 2) q18 (1:Int32) e19) ?_
      refine pv_e_bk (ps := [(39, .goto 8, 3)]) (t' := (0, 0, 47, [some (.ref 94), some (.int x1), some (.int x2), some (.int q2)], [.int q20], pv_mm s T21)) (by decide +kernel) rfl ?_
      cases h
      exact hJ12
  · rw [if_neg c4] at h
    refine pv_e_bk (ps := [(10, .iload_n 3, 1)]) (t' := (0, 0, 11, [some (.ref 94), some (.int x1), some (.int x2), some (.int q2)], [.int q2], pv_mm s T3)) (by decide +kernel) rfl ?_
    obtain rfl := Option.some.inj h
    cases hr
    exact pv_e_ri (by decide +kernel)
def f127_lay (x1 : Int32) (x2 : Int32) (x3 : Int32) (T : pv_T) : Option (Int32 × pv_T) :=
  (f126_at x1 x2 T).bind fun (q2, T3) =>
  if 0 ≤ q2 then
    (f124_setRow x1 x2 x3 T3).bind fun T6 =>
    some ((1:Int32), T6)
  else
    some (q2, T3)
theorem ee127 {xs : Nat → Int32} {L : Nat} (d : Nat) (x1 : Int32) (x2 : Int32) (x3 : Int32) {s : pv_F} {T : pv_T} {q : Int32 × pv_T}  (h : f127_lay x1 x2 x3 T = some q) : pv_Ev xs L (d + 4) 127 (0, 0, 0, [some (.ref 94), some (.int x1), some (.int x2), some (.int x3), none], [], pv_mm s T) (some (.int q.1), pv_mm s q.2) := by
  generalize hr : ((some (.int q.1), pv_mm s q.2) : Option Value × pv_M) = r
  unfold f127_lay at h
  refine pv_e_bk (ps := [(0, .aload_n 0, 1), (1, .iload_n 1, 1), (2, .iload_n 2, 1)]) (t' := (0, 0, 3, [some (.ref 94), some (.int x1), some (.int x2), some (.int x3), none], [.int x2, .int x1, .ref 94], pv_mm s T)) (by decide +kernel) rfl ?_
  obtain ⟨⟨q2, T3⟩, e1, h⟩ := Option.bind_eq_some_iff.mp h
  dsimp only at h
  refine pv_e_cvi (d := d + 3) (i := 112) (z := 126) (np := 2) (ml := 4) (ci := 6) (As := [.int x1, .int x2]) (rs := []) (pc' := 6) (by decide +kernel) rfl rfl rfl rfl (Nat.le_of_ble_eq_true rfl) (Nat.le_of_ble_eq_true rfl) rfl (ee126 (d + 0) x1 x2 e1) ?_
  refine pv_e_bk (ps := [(6, .istore 4, 2), (8, .iload 4, 2)]) (t' := (0, 0, 10, [some (.ref 94), some (.int x1), some (.int x2), some (.int x3), some (.int q2)], [.int q2], pv_mm s T3)) (by decide +kernel) rfl ?_
  refine pv_e_ifge (off := 6) (b := 16) (pc' := 13) (by decide +kernel) (by decide +kernel) rfl (fun c4 => ?_) (fun c4 => ?_)
  · rw [if_pos c4] at h
    refine pv_e_bk (ps := [(16, .aload_n 0, 1), (17, .iload_n 1, 1), (18, .iload_n 2, 1), (19, .iload_n 3, 1)]) (t' := (0, 0, 20, [some (.ref 94), some (.int x1), some (.int x2), some (.int x3), some (.int q2)], [.int x3, .int x2, .int x1, .ref 94], pv_mm s T3)) (by decide +kernel) rfl ?_
    obtain ⟨T6, e5, h⟩ := Option.bind_eq_some_iff.mp h
    refine pv_e_cvv (d := d + 3) (i := 98) (z := 124) (np := 3) (ml := 4) (ci := 6) (As := [.int x1, .int x2, .int x3]) (rs := []) (pc' := 23) (by decide +kernel) rfl rfl rfl rfl (Nat.le_of_ble_eq_true rfl) (Nat.le_of_ble_eq_true rfl) rfl (ee124 (d + 3) x1 x2 x3 e5) ?_
    refine pv_e_bk (ps := [(23, .iconst 1, 1)]) (t' := (0, 0, 24, [some (.ref 94), some (.int x1), some (.int x2), some (.int x3), some (.int q2)], [.int (1:Int32)], pv_mm s T6)) (by decide +kernel) rfl ?_
    obtain rfl := Option.some.inj h
    cases hr
    exact pv_e_ri (by decide +kernel)
  · rw [if_neg c4] at h
    refine pv_e_bk (ps := [(13, .iload 4, 2)]) (t' := (0, 0, 15, [some (.ref 94), some (.int x1), some (.int x2), some (.int x3), some (.int q2)], [.int q2], pv_mm s T3)) (by decide +kernel) rfl ?_
    obtain rfl := Option.some.inj h
    cases hr
    exact pv_e_ri (by decide +kernel)
def f128_tear (x1 : Int32) (T : pv_T) : Option (Int32 × pv_T) :=
  (f121_askedRow x1 T).bind fun (q2, T3) =>
  if 0 ≤ q2 then
    (pv_wm T3 96 6 x1 (-9:Int32)).bind fun T5 =>
    some ((1:Int32), T5)
  else
    some (q2, T3)
theorem ee128 {xs : Nat → Int32} {L : Nat} (d : Nat) (x1 : Int32) {s : pv_F} {T : pv_T} {q : Int32 × pv_T}  (h : f128_tear x1 T = some q) : pv_Ev xs L (d + 3) 128 (0, 0, 0, [some (.ref 94), some (.int x1), none], [], pv_mm s T) (some (.int q.1), pv_mm s q.2) := by
  generalize hr : ((some (.int q.1), pv_mm s q.2) : Option Value × pv_M) = r
  unfold f128_tear at h
  refine pv_e_bk (ps := [(0, .aload_n 0, 1), (1, .iload_n 1, 1)]) (t' := (0, 0, 2, [some (.ref 94), some (.int x1), none], [.int x1, .ref 94], pv_mm s T)) (by decide +kernel) rfl ?_
  obtain ⟨⟨q2, T3⟩, e1, h⟩ := Option.bind_eq_some_iff.mp h
  dsimp only at h
  refine pv_e_cvi (d := d + 2) (i := 102) (z := 121) (np := 1) (ml := 2) (ci := 6) (As := [.int x1]) (rs := []) (pc' := 5) (by decide +kernel) rfl rfl rfl rfl (Nat.le_of_ble_eq_true rfl) (Nat.le_of_ble_eq_true rfl) rfl (ee121 (d + 0) x1 e1) ?_
  refine pv_e_bk (ps := [(5, .istore_n 2, 1), (6, .iload_n 2, 1)]) (t' := (0, 0, 7, [some (.ref 94), some (.int x1), some (.int q2)], [.int q2], pv_mm s T3)) (by decide +kernel) rfl ?_
  refine pv_e_ifge (off := 5) (b := 12) (pc' := 10) (by decide +kernel) (by decide +kernel) rfl (fun c4 => ?_) (fun c4 => ?_)
  · rw [if_pos c4] at h
    refine pv_e_bk (ps := [(12, .aload_n 0, 1)]) (t' := (0, 0, 13, [some (.ref 94), some (.int x1), some (.int q2)], [.ref 94], pv_mm s T3)) (by decide +kernel) rfl ?_
    refine pv_e_gr (i := 13) (ci := 6) (j := 3) (b := 96) (pc' := 16) (by decide +kernel) rfl rfl rfl ?_
    refine pv_e_bk (ps := [(16, .iload_n 1, 1), (17, .bipush (-9), 2)]) (t' := (0, 0, 19, [some (.ref 94), some (.int x1), some (.int q2)], [.int (-9:Int32), .int x1, .ref 96], pv_mm s T3)) (by decide +kernel) rfl ?_
    obtain ⟨T5, e6, h⟩ := Option.bind_eq_some_iff.mp h
    refine pv_e_wm (pc' := 20) (by decide +kernel) (by decide) rfl e6 rfl ?_
    refine pv_e_bk (ps := [(20, .iconst 1, 1)]) (t' := (0, 0, 21, [some (.ref 94), some (.int x1), some (.int q2)], [.int (1:Int32)], pv_mm s T5)) (by decide +kernel) rfl ?_
    obtain rfl := Option.some.inj h
    cases hr
    exact pv_e_ri (by decide +kernel)
  · rw [if_neg c4] at h
    refine pv_e_bk (ps := [(10, .iload_n 2, 1)]) (t' := (0, 0, 11, [some (.ref 94), some (.int x1), some (.int q2)], [.int q2], pv_mm s T3)) (by decide +kernel) rfl ?_
    obtain rfl := Option.some.inj h
    cases hr
    exact pv_e_ri (by decide +kernel)
def f129_copy_b1 (v1 : Int32) (v2 : Int32) (v3 : Int32) (v4 : Int32) (v5 : Int32) (st : Int32 × pv_T) : Option ((Int32 × pv_T) ⊕ (Int32 × pv_T)) := match st with
  | (v6, T) =>
    if v5 ≤ v6 then
      some (.inr (v6, T))
    else
      (f123_rowAt v1 (v2 + v6) T).bind fun q36 =>
      (pv_wm T 98 40 v6 q36).bind fun T37 =>
      some (.inl (v6 + (1:Int32), T37))
def f129_copy_b1_H (xs : Nat → Int32) (L d : Nat) (r : Option Value × pv_M) (s : pv_F) (v1 : Int32) (v2 : Int32) (v3 : Int32) (v4 : Int32) (v5 : Int32) (st : Int32 × pv_T) : Prop := match st with
  | (v6, T) => pv_Ev xs L (d + 2) 129 (0, 0, 104, [some (.ref 94), some (.int v1), some (.int v2), some (.int v3), some (.int v4), some (.int v5), some (.int v6)], [], pv_mm s T) r
def f129_copy_b1_X (xs : Nat → Int32) (L d : Nat) (r : Option Value × pv_M) (s : pv_F) (v1 : Int32) (v2 : Int32) (v3 : Int32) (v4 : Int32) (v5 : Int32) (st : Int32 × pv_T) : Prop := match st with
  | (v6, T) => ∀ z6 : Option Value, pv_Ev xs L (d + 2) 129 (0, 0, 133, [some (.ref 94), some (.int v1), some (.int v2), some (.int v3), some (.int v4), some (.int v5), z6], [], pv_mm s T) r
def f129_copy_b2 (v3 : Int32) (v4 : Int32) (v5 : Int32) (st : Int32 × pv_T) : Option ((Int32 × pv_T) ⊕ (Int32 × pv_T)) := match st with
  | (v6, T) =>
    if v5 ≤ v6 then
      some (.inr (v6, T))
    else
      (pv_rd T.1 98 40 v6).bind fun q42 =>
      (f124_setRow v3 (v4 + v6) q42 T).bind fun T45 =>
      some (.inl (v6 + (1:Int32), T45))
def f129_copy_b2_H (xs : Nat → Int32) (L d : Nat) (r : Option Value × pv_M) (s : pv_F) (v3 : Int32) (v4 : Int32) (v5 : Int32) (v1 : Int32) (v2 : Int32) (st : Int32 × pv_T) : Prop := match st with
  | (v6, T) => pv_Ev xs L (d + 2) 129 (0, 0, 136, [some (.ref 94), some (.int v1), some (.int v2), some (.int v3), some (.int v4), some (.int v5), some (.int v6)], [], pv_mm s T) r
def f129_copy_b2_X (xs : Nat → Int32) (L d : Nat) (r : Option Value × pv_M) (s : pv_F) (v3 : Int32) (v4 : Int32) (v5 : Int32) (v1 : Int32) (v2 : Int32) (st : Int32 × pv_T) : Prop := match st with
  | (v6, T) => ∀ z6 : Option Value, pv_Ev xs L (d + 2) 129 (0, 0, 166, [some (.ref 94), some (.int v1), some (.int v2), some (.int v3), some (.int v4), some (.int v5), z6], [], pv_mm s T) r
def f129_copy (x1 : Int32) (x2 : Int32) (x3 : Int32) (x4 : Int32) (x5 : Int32) (T : pv_T) : Option (Int32 × pv_T) :=
  (f119_isRow x1).bind fun q2 =>
  if q2 = 0 then
    some ((-1:Int32), T)
  else
    (f119_isRow x3).bind fun q5 =>
    if q5 = 0 then
      some ((-1:Int32), T)
    else
      if 0 ≤ x5 then
        (pv_rd T.1 96 6 x1).bind fun q8 =>
        if q8 < 0 then
          (f115_meet (1:Int32) T).bind fun (q12, T13) =>
          some (q12, T13)
        else
          (pv_rd T.1 96 6 x3).bind fun q14 =>
          if 0 ≤ q14 then
            if x2 < 0 then
              (f115_meet (2:Int32) T).bind fun (q19, T20) =>
              some (q19, T20)
            else
              if x4 < 0 then
                (f115_meet (2:Int32) T).bind fun (q23, T24) =>
                some (q23, T24)
              else
                (pv_rd T.1 96 6 x1).bind fun q25 =>
                if 0 < (lg_cmp (x2.toInt64 + x5.toInt64) q25.toInt64) then
                  (f115_meet (2:Int32) T).bind fun (q29, T30) =>
                  some (q29, T30)
                else
                  (pv_rd T.1 96 6 x3).bind fun q31 =>
                  if (lg_cmp (x4.toInt64 + x5.toInt64) q31.toInt64) ≤ 0 then
                    (pv_lq (f129_copy_b1 x1 x2 x3 x4 x5) 20000 ((0:Int32), T)).bind fun (w39, T40) =>
                    (pv_lq (f129_copy_b2 x3 x4 x5) 20000 ((0:Int32), T40)).bind fun (w46, T47) =>
                    some ((1:Int32), T47)
                  else
                    (f115_meet (2:Int32) T).bind fun (q53, T54) =>
                    some (q53, T54)
          else
            (f115_meet (1:Int32) T).bind fun (q56, T57) =>
            some (q56, T57)
      else
        (f115_meet (5:Int32) T).bind fun (q59, T60) =>
        some (q59, T60)
theorem f129_copy_b1_ok {xs : Nat → Int32} {L d : Nat} {r : Option Value × pv_M} {s : pv_F} {v1 : Int32} {v2 : Int32} {v3 : Int32} {v4 : Int32} {v5 : Int32} (st : Int32 × pv_T) (o : (Int32 × pv_T) ⊕ (Int32 × pv_T)) (h : f129_copy_b1 v1 v2 v3 v4 v5 st = some o) (hK : pv_Kq (f129_copy_b1_H xs L d r s v1 v2 v3 v4 v5) (f129_copy_b1_X xs L d r s v1 v2 v3 v4 v5) o) : f129_copy_b1_H xs L d r s v1 v2 v3 v4 v5 st := by
  obtain ⟨v6, T⟩ := st
  show pv_Ev xs L (d + 2) 129 (0, 0, 104, [some (.ref 94), some (.int v1), some (.int v2), some (.int v3), some (.int v4), some (.int v5), some (.int v6)], [], pv_mm s T) r
  unfold f129_copy_b1 at h
  dsimp only at h
  refine pv_e_bk (ps := [(104, .iload 6, 2), (106, .iload 5, 2)]) (t' := (0, 0, 108, [some (.ref 94), some (.int v1), some (.int v2), some (.int v3), some (.int v4), some (.int v5), some (.int v6)], [.int v5, .int v6], pv_mm s T)) (by decide +kernel) rfl ?_
  refine pv_e_icmpge (off := 25) (b := 133) (pc' := 111) (by decide +kernel) (by decide +kernel) rfl (fun c34 => ?_) (fun c34 => ?_)
  · rw [if_pos c34] at h
    obtain rfl := Option.some.inj h
    exact hK _
  · rw [if_neg c34] at h
    refine pv_e_bk (ps := [(111, .aload_n 0, 1)]) (t' := (0, 0, 112, [some (.ref 94), some (.int v1), some (.int v2), some (.int v3), some (.int v4), some (.int v5), some (.int v6)], [.ref 94], pv_mm s T)) (by decide +kernel) rfl ?_
    refine pv_e_gr (i := 19) (ci := 6) (j := 5) (b := 98) (pc' := 115) (by decide +kernel) rfl rfl rfl ?_
    refine pv_e_bk (ps := [(115, .iload 6, 2), (117, .aload_n 0, 1), (118, .iload_n 1, 1), (119, .iload_n 2, 1), (120, .iload 6, 2), (122, .iadd, 1)]) (t' := (0, 0, 123, [some (.ref 94), some (.int v1), some (.int v2), some (.int v3), some (.int v4), some (.int v5), some (.int v6)], [.int (v2 + v6), .int v1, .ref 94, .int v6, .ref 98], pv_mm s T)) (by decide +kernel) rfl ?_
    obtain ⟨q36, e35, h⟩ := Option.bind_eq_some_iff.mp h
    refine pv_e_cvi (d := d + 1) (i := 105) (z := 123) (np := 2) (ml := 3) (ci := 6) (As := [.int v1, .int (v2 + v6)]) (rs := [.int v6, .ref 98]) (pc' := 126) (by decide +kernel) rfl rfl rfl rfl (Nat.le_of_ble_eq_true rfl) (Nat.le_of_ble_eq_true rfl) rfl (ee123 (d + 1) v1 (v2 + v6) e35) ?_
    obtain ⟨T37, e38, h⟩ := Option.bind_eq_some_iff.mp h
    refine pv_e_wm (pc' := 127) (by decide +kernel) (by decide) rfl e38 rfl ?_
    refine pv_e_bk (ps := [(127, .iinc 6 1, 3), (130, .goto (-26), 3)]) (t' := (0, 0, 104, [some (.ref 94), some (.int v1), some (.int v2), some (.int v3), some (.int v4), some (.int v5), some (.int (v6 + (1:Int32)))], [], pv_mm s T37)) (by decide +kernel) rfl ?_
    obtain rfl := Option.some.inj h
    exact hK
theorem f129_copy_b2_ok {xs : Nat → Int32} {L d : Nat} {r : Option Value × pv_M} {s : pv_F} {v3 : Int32} {v4 : Int32} {v5 : Int32} {v1 : Int32} {v2 : Int32} (st : Int32 × pv_T) (o : (Int32 × pv_T) ⊕ (Int32 × pv_T)) (h : f129_copy_b2 v3 v4 v5 st = some o) (hK : pv_Kq (f129_copy_b2_H xs L d r s v3 v4 v5 v1 v2) (f129_copy_b2_X xs L d r s v3 v4 v5 v1 v2) o) : f129_copy_b2_H xs L d r s v3 v4 v5 v1 v2 st := by
  obtain ⟨v6, T⟩ := st
  show pv_Ev xs L (d + 2) 129 (0, 0, 136, [some (.ref 94), some (.int v1), some (.int v2), some (.int v3), some (.int v4), some (.int v5), some (.int v6)], [], pv_mm s T) r
  unfold f129_copy_b2 at h
  dsimp only at h
  refine pv_e_bk (ps := [(136, .iload 6, 2), (138, .iload 5, 2)]) (t' := (0, 0, 140, [some (.ref 94), some (.int v1), some (.int v2), some (.int v3), some (.int v4), some (.int v5), some (.int v6)], [.int v5, .int v6], pv_mm s T)) (by decide +kernel) rfl ?_
  refine pv_e_icmpge (off := 26) (b := 166) (pc' := 143) (by decide +kernel) (by decide +kernel) rfl (fun c41 => ?_) (fun c41 => ?_)
  · rw [if_pos c41] at h
    obtain rfl := Option.some.inj h
    exact hK _
  · rw [if_neg c41] at h
    refine pv_e_bk (ps := [(143, .aload_n 0, 1), (144, .iload_n 3, 1), (145, .iload 4, 2), (147, .iload 6, 2), (149, .iadd, 1), (150, .aload_n 0, 1)]) (t' := (0, 0, 151, [some (.ref 94), some (.int v1), some (.int v2), some (.int v3), some (.int v4), some (.int v5), some (.int v6)], [.ref 94, .int (v4 + v6), .int v3, .ref 94], pv_mm s T)) (by decide +kernel) rfl ?_
    refine pv_e_gr (i := 19) (ci := 6) (j := 5) (b := 98) (pc' := 154) (by decide +kernel) rfl rfl rfl ?_
    refine pv_e_bk (ps := [(154, .iload 6, 2)]) (t' := (0, 0, 156, [some (.ref 94), some (.int v1), some (.int v2), some (.int v3), some (.int v4), some (.int v5), some (.int v6)], [.int v6, .ref 98, .int (v4 + v6), .int v3, .ref 94], pv_mm s T)) (by decide +kernel) rfl ?_
    obtain ⟨q42, e43, h⟩ := Option.bind_eq_some_iff.mp h
    refine pv_e_rm (pc' := 157) (by decide +kernel) (by decide) rfl e43 rfl ?_
    obtain ⟨T45, e44, h⟩ := Option.bind_eq_some_iff.mp h
    refine pv_e_cvv (d := d + 1) (i := 98) (z := 124) (np := 3) (ml := 4) (ci := 6) (As := [.int v3, .int (v4 + v6), .int q42]) (rs := []) (pc' := 160) (by decide +kernel) rfl rfl rfl rfl (Nat.le_of_ble_eq_true rfl) (Nat.le_of_ble_eq_true rfl) rfl (ee124 (d + 1) v3 (v4 + v6) q42 e44) ?_
    refine pv_e_bk (ps := [(160, .iinc 6 1, 3), (163, .goto (-27), 3)]) (t' := (0, 0, 136, [some (.ref 94), some (.int v1), some (.int v2), some (.int v3), some (.int v4), some (.int v5), some (.int (v6 + (1:Int32)))], [], pv_mm s T45)) (by decide +kernel) rfl ?_
    obtain rfl := Option.some.inj h
    exact hK
theorem ee129 {xs : Nat → Int32} {L : Nat} (d : Nat) (x1 : Int32) (x2 : Int32) (x3 : Int32) (x4 : Int32) (x5 : Int32) {s : pv_F} {T : pv_T} {q : Int32 × pv_T}  (h : f129_copy x1 x2 x3 x4 x5 T = some q) : pv_Ev xs L (d + 2) 129 (0, 0, 0, [some (.ref 94), some (.int x1), some (.int x2), some (.int x3), some (.int x4), some (.int x5), none], [], pv_mm s T) (some (.int q.1), pv_mm s q.2) := by
  generalize hr : ((some (.int q.1), pv_mm s q.2) : Option Value × pv_M) = r
  unfold f129_copy at h
  refine pv_e_bk (ps := [(0, .iload_n 1, 1)]) (t' := (0, 0, 1, [some (.ref 94), some (.int x1), some (.int x2), some (.int x3), some (.int x4), some (.int x5), none], [.int x1], pv_mm s T)) (by decide +kernel) rfl ?_
  obtain ⟨q2, e1, h⟩ := Option.bind_eq_some_iff.mp h
  refine pv_e_csi (d := d + 1) (i := 87) (z := 119) (np := 1) (ml := 1) (As := [.int x1]) (rs := []) (pc' := 4) (by decide +kernel) rfl rfl rfl (Nat.le_of_ble_eq_true rfl) (Nat.le_of_ble_eq_true rfl) rfl (ee119 (d + 0) x1 e1) ?_
  refine pv_e_ifeq (off := 10) (b := 14) (pc' := 7) (by decide +kernel) (by decide +kernel) rfl (fun c3 => ?_) (fun c3 => ?_)
  · rw [if_pos c3] at h
    refine pv_e_bk (ps := [(14, .iconst (-1), 1)]) (t' := (0, 0, 15, [some (.ref 94), some (.int x1), some (.int x2), some (.int x3), some (.int x4), some (.int x5), none], [.int (-1:Int32)], pv_mm s T)) (by decide +kernel) rfl ?_
    obtain rfl := Option.some.inj h
    cases hr
    exact pv_e_ri (by decide +kernel)
  · rw [if_neg c3] at h
    refine pv_e_bk (ps := [(7, .iload_n 3, 1)]) (t' := (0, 0, 8, [some (.ref 94), some (.int x1), some (.int x2), some (.int x3), some (.int x4), some (.int x5), none], [.int x3], pv_mm s T)) (by decide +kernel) rfl ?_
    obtain ⟨q5, e4, h⟩ := Option.bind_eq_some_iff.mp h
    refine pv_e_csi (d := d + 1) (i := 87) (z := 119) (np := 1) (ml := 1) (As := [.int x3]) (rs := []) (pc' := 11) (by decide +kernel) rfl rfl rfl (Nat.le_of_ble_eq_true rfl) (Nat.le_of_ble_eq_true rfl) rfl (ee119 (d + 0) x3 e4) ?_
    refine pv_e_ifne (off := 5) (b := 16) (pc' := 14) (by decide +kernel) (by decide +kernel) rfl (fun c6 => ?_) (fun c6 => ?_)
    · rw [if_pos c6] at h
      refine pv_e_bk (ps := [(14, .iconst (-1), 1)]) (t' := (0, 0, 15, [some (.ref 94), some (.int x1), some (.int x2), some (.int x3), some (.int x4), some (.int x5), none], [.int (-1:Int32)], pv_mm s T)) (by decide +kernel) rfl ?_
      obtain rfl := Option.some.inj h
      cases hr
      exact pv_e_ri (by decide +kernel)
    · rw [if_neg c6] at h
      refine pv_e_bk (ps := [(16, .iload 5, 2)]) (t' := (0, 0, 18, [some (.ref 94), some (.int x1), some (.int x2), some (.int x3), some (.int x4), some (.int x5), none], [.int x5], pv_mm s T)) (by decide +kernel) rfl ?_
      refine pv_e_ifge (off := 9) (b := 27) (pc' := 21) (by decide +kernel) (by decide +kernel) rfl (fun c7 => ?_) (fun c7 => ?_)
      · rw [if_pos c7] at h
        refine pv_e_bk (ps := [(27, .aload_n 0, 1)]) (t' := (0, 0, 28, [some (.ref 94), some (.int x1), some (.int x2), some (.int x3), some (.int x4), some (.int x5), none], [.ref 94], pv_mm s T)) (by decide +kernel) rfl ?_
        refine pv_e_gr (i := 13) (ci := 6) (j := 3) (b := 96) (pc' := 31) (by decide +kernel) rfl rfl rfl ?_
        refine pv_e_bk (ps := [(31, .iload_n 1, 1)]) (t' := (0, 0, 32, [some (.ref 94), some (.int x1), some (.int x2), some (.int x3), some (.int x4), some (.int x5), none], [.int x1, .ref 96], pv_mm s T)) (by decide +kernel) rfl ?_
        obtain ⟨q8, e9, h⟩ := Option.bind_eq_some_iff.mp h
        refine pv_e_rm (pc' := 33) (by decide +kernel) (by decide) rfl e9 rfl ?_
        refine pv_e_iflt (off := 12) (b := 45) (pc' := 36) (by decide +kernel) (by decide +kernel) rfl (fun c10 => ?_) (fun c10 => ?_)
        · rw [if_pos c10] at h
          refine pv_e_bk (ps := [(45, .aload_n 0, 1), (46, .iconst 1, 1)]) (t' := (0, 0, 47, [some (.ref 94), some (.int x1), some (.int x2), some (.int x3), some (.int x4), some (.int x5), none], [.int (1:Int32), .ref 94], pv_mm s T)) (by decide +kernel) rfl ?_
          obtain ⟨⟨q12, T13⟩, e11, h⟩ := Option.bind_eq_some_iff.mp h
          dsimp only at h
          refine pv_e_cvi (d := d + 1) (i := 91) (z := 115) (np := 1) (ml := 2) (ci := 6) (As := [.int (1:Int32)]) (rs := []) (pc' := 50) (by decide +kernel) rfl rfl rfl rfl (Nat.le_of_ble_eq_true rfl) (Nat.le_of_ble_eq_true rfl) rfl (ee115 (d + 1) (1:Int32) e11) ?_
          obtain rfl := Option.some.inj h
          cases hr
          exact pv_e_ri (by decide +kernel)
        · rw [if_neg c10] at h
          refine pv_e_bk (ps := [(36, .aload_n 0, 1)]) (t' := (0, 0, 37, [some (.ref 94), some (.int x1), some (.int x2), some (.int x3), some (.int x4), some (.int x5), none], [.ref 94], pv_mm s T)) (by decide +kernel) rfl ?_
          refine pv_e_gr (i := 13) (ci := 6) (j := 3) (b := 96) (pc' := 40) (by decide +kernel) rfl rfl rfl ?_
          refine pv_e_bk (ps := [(40, .iload_n 3, 1)]) (t' := (0, 0, 41, [some (.ref 94), some (.int x1), some (.int x2), some (.int x3), some (.int x4), some (.int x5), none], [.int x3, .ref 96], pv_mm s T)) (by decide +kernel) rfl ?_
          obtain ⟨q14, e15, h⟩ := Option.bind_eq_some_iff.mp h
          refine pv_e_rm (pc' := 42) (by decide +kernel) (by decide) rfl e15 rfl ?_
          refine pv_e_ifge (off := 9) (b := 51) (pc' := 45) (by decide +kernel) (by decide +kernel) rfl (fun c16 => ?_) (fun c16 => ?_)
          · rw [if_pos c16] at h
            refine pv_e_bk (ps := [(51, .iload_n 2, 1)]) (t' := (0, 0, 52, [some (.ref 94), some (.int x1), some (.int x2), some (.int x3), some (.int x4), some (.int x5), none], [.int x2], pv_mm s T)) (by decide +kernel) rfl ?_
            refine pv_e_iflt (off := 43) (b := 95) (pc' := 55) (by decide +kernel) (by decide +kernel) rfl (fun c17 => ?_) (fun c17 => ?_)
            · rw [if_pos c17] at h
              refine pv_e_bk (ps := [(95, .aload_n 0, 1), (96, .iconst 2, 1)]) (t' := (0, 0, 97, [some (.ref 94), some (.int x1), some (.int x2), some (.int x3), some (.int x4), some (.int x5), none], [.int (2:Int32), .ref 94], pv_mm s T)) (by decide +kernel) rfl ?_
              obtain ⟨⟨q19, T20⟩, e18, h⟩ := Option.bind_eq_some_iff.mp h
              dsimp only at h
              refine pv_e_cvi (d := d + 1) (i := 91) (z := 115) (np := 1) (ml := 2) (ci := 6) (As := [.int (2:Int32)]) (rs := []) (pc' := 100) (by decide +kernel) rfl rfl rfl rfl (Nat.le_of_ble_eq_true rfl) (Nat.le_of_ble_eq_true rfl) rfl (ee115 (d + 1) (2:Int32) e18) ?_
              obtain rfl := Option.some.inj h
              cases hr
              exact pv_e_ri (by decide +kernel)
            · rw [if_neg c17] at h
              refine pv_e_bk (ps := [(55, .iload 4, 2)]) (t' := (0, 0, 57, [some (.ref 94), some (.int x1), some (.int x2), some (.int x3), some (.int x4), some (.int x5), none], [.int x4], pv_mm s T)) (by decide +kernel) rfl ?_
              refine pv_e_iflt (off := 38) (b := 95) (pc' := 60) (by decide +kernel) (by decide +kernel) rfl (fun c21 => ?_) (fun c21 => ?_)
              · rw [if_pos c21] at h
                refine pv_e_bk (ps := [(95, .aload_n 0, 1), (96, .iconst 2, 1)]) (t' := (0, 0, 97, [some (.ref 94), some (.int x1), some (.int x2), some (.int x3), some (.int x4), some (.int x5), none], [.int (2:Int32), .ref 94], pv_mm s T)) (by decide +kernel) rfl ?_
                obtain ⟨⟨q23, T24⟩, e22, h⟩ := Option.bind_eq_some_iff.mp h
                dsimp only at h
                refine pv_e_cvi (d := d + 1) (i := 91) (z := 115) (np := 1) (ml := 2) (ci := 6) (As := [.int (2:Int32)]) (rs := []) (pc' := 100) (by decide +kernel) rfl rfl rfl rfl (Nat.le_of_ble_eq_true rfl) (Nat.le_of_ble_eq_true rfl) rfl (ee115 (d + 1) (2:Int32) e22) ?_
                obtain rfl := Option.some.inj h
                cases hr
                exact pv_e_ri (by decide +kernel)
              · rw [if_neg c21] at h
                refine pv_e_bk (ps := [(60, .iload_n 2, 1), (61, .i2l, 1), (62, .iload 5, 2), (64, .i2l, 1), (65, .ladd, 1), (66, .aload_n 0, 1)]) (t' := (0, 0, 67, [some (.ref 94), some (.int x1), some (.int x2), some (.int x3), some (.int x4), some (.int x5), none], [.ref 94, .long (x2.toInt64 + x5.toInt64)], pv_mm s T)) (by decide +kernel) rfl ?_
                refine pv_e_gr (i := 13) (ci := 6) (j := 3) (b := 96) (pc' := 70) (by decide +kernel) rfl rfl rfl ?_
                refine pv_e_bk (ps := [(70, .iload_n 1, 1)]) (t' := (0, 0, 71, [some (.ref 94), some (.int x1), some (.int x2), some (.int x3), some (.int x4), some (.int x5), none], [.int x1, .ref 96, .long (x2.toInt64 + x5.toInt64)], pv_mm s T)) (by decide +kernel) rfl ?_
                obtain ⟨q25, e26, h⟩ := Option.bind_eq_some_iff.mp h
                refine pv_e_rm (pc' := 72) (by decide +kernel) (by decide) rfl e26 rfl ?_
                refine pv_e_bk (ps := [(72, .i2l, 1), (73, .lcmp, 1)]) (t' := (0, 0, 74, [some (.ref 94), some (.int x1), some (.int x2), some (.int x3), some (.int x4), some (.int x5), none], [.int (lg_cmp (x2.toInt64 + x5.toInt64) q25.toInt64)], pv_mm s T)) (by decide +kernel) rfl ?_
                refine pv_e_ifgt (off := 21) (b := 95) (pc' := 77) (by decide +kernel) (by decide +kernel) rfl (fun c27 => ?_) (fun c27 => ?_)
                · rw [if_pos c27] at h
                  refine pv_e_bk (ps := [(95, .aload_n 0, 1), (96, .iconst 2, 1)]) (t' := (0, 0, 97, [some (.ref 94), some (.int x1), some (.int x2), some (.int x3), some (.int x4), some (.int x5), none], [.int (2:Int32), .ref 94], pv_mm s T)) (by decide +kernel) rfl ?_
                  obtain ⟨⟨q29, T30⟩, e28, h⟩ := Option.bind_eq_some_iff.mp h
                  dsimp only at h
                  refine pv_e_cvi (d := d + 1) (i := 91) (z := 115) (np := 1) (ml := 2) (ci := 6) (As := [.int (2:Int32)]) (rs := []) (pc' := 100) (by decide +kernel) rfl rfl rfl rfl (Nat.le_of_ble_eq_true rfl) (Nat.le_of_ble_eq_true rfl) rfl (ee115 (d + 1) (2:Int32) e28) ?_
                  obtain rfl := Option.some.inj h
                  cases hr
                  exact pv_e_ri (by decide +kernel)
                · rw [if_neg c27] at h
                  refine pv_e_bk (ps := [(77, .iload 4, 2), (79, .i2l, 1), (80, .iload 5, 2), (82, .i2l, 1), (83, .ladd, 1), (84, .aload_n 0, 1)]) (t' := (0, 0, 85, [some (.ref 94), some (.int x1), some (.int x2), some (.int x3), some (.int x4), some (.int x5), none], [.ref 94, .long (x4.toInt64 + x5.toInt64)], pv_mm s T)) (by decide +kernel) rfl ?_
                  refine pv_e_gr (i := 13) (ci := 6) (j := 3) (b := 96) (pc' := 88) (by decide +kernel) rfl rfl rfl ?_
                  refine pv_e_bk (ps := [(88, .iload_n 3, 1)]) (t' := (0, 0, 89, [some (.ref 94), some (.int x1), some (.int x2), some (.int x3), some (.int x4), some (.int x5), none], [.int x3, .ref 96, .long (x4.toInt64 + x5.toInt64)], pv_mm s T)) (by decide +kernel) rfl ?_
                  obtain ⟨q31, e32, h⟩ := Option.bind_eq_some_iff.mp h
                  refine pv_e_rm (pc' := 90) (by decide +kernel) (by decide) rfl e32 rfl ?_
                  refine pv_e_bk (ps := [(90, .i2l, 1), (91, .lcmp, 1)]) (t' := (0, 0, 92, [some (.ref 94), some (.int x1), some (.int x2), some (.int x3), some (.int x4), some (.int x5), none], [.int (lg_cmp (x4.toInt64 + x5.toInt64) q31.toInt64)], pv_mm s T)) (by decide +kernel) rfl ?_
                  refine pv_e_ifle (off := 9) (b := 101) (pc' := 95) (by decide +kernel) (by decide +kernel) rfl (fun c33 => ?_) (fun c33 => ?_)
                  · rw [if_pos c33] at h
                    refine pv_e_bk (ps := [(101, .iconst 0, 1), (102, .istore 6, 2)]) (t' := (0, 0, 104, [some (.ref 94), some (.int x1), some (.int x2), some (.int x3), some (.int x4), some (.int x5), some (.int (0:Int32))], [], pv_mm s T)) (by decide +kernel) rfl ?_
                    obtain ⟨⟨w39, T40⟩, e51, h⟩ := Option.bind_eq_some_iff.mp h
                    dsimp only at h
                    have hx50 : f129_copy_b1_X xs L d r s x1 x2 x3 x4 x5 (w39, T40) := by
                      show ∀ z6 : Option Value, pv_Ev xs L (d + 2) 129 (0, 0, 133, [some (.ref 94), some (.int x1), some (.int x2), some (.int x3), some (.int x4), some (.int x5), z6], [], pv_mm s T40) r
                      intro z6
                      refine pv_e_bk (ps := [(133, .iconst 0, 1), (134, .istore 6, 2)]) (t' := (0, 0, 136, [some (.ref 94), some (.int x1), some (.int x2), some (.int x3), some (.int x4), some (.int x5), some (.int (0:Int32))], [], pv_mm s T40)) (by decide +kernel) rfl ?_
                      obtain ⟨⟨w46, T47⟩, e49, h⟩ := Option.bind_eq_some_iff.mp h
                      dsimp only at h
                      have hx48 : f129_copy_b2_X xs L d r s x3 x4 x5 x1 x2 (w46, T47) := by
                        show ∀ z6 : Option Value, pv_Ev xs L (d + 2) 129 (0, 0, 166, [some (.ref 94), some (.int x1), some (.int x2), some (.int x3), some (.int x4), some (.int x5), z6], [], pv_mm s T47) r
                        intro z6
                        refine pv_e_bk (ps := [(166, .iconst 1, 1)]) (t' := (0, 0, 167, [some (.ref 94), some (.int x1), some (.int x2), some (.int x3), some (.int x4), some (.int x5), z6], [.int (1:Int32)], pv_mm s T47)) (by decide +kernel) rfl ?_
                        obtain rfl := Option.some.inj h
                        cases hr
                        exact pv_e_ri (by decide +kernel)
                      exact pv_lq_ok (H := f129_copy_b2_H xs L d r s x3 x4 x5 x1 x2) (X := f129_copy_b2_X xs L d r s x3 x4 x5 x1 x2) (f129_copy_b2_ok (xs := xs) (L := L) (d := d) (r := r) (s := s) (v3 := x3) (v4 := x4) (v5 := x5) (v1 := x1) (v2 := x2)) 20000 _ _ e49 hx48
                    exact pv_lq_ok (H := f129_copy_b1_H xs L d r s x1 x2 x3 x4 x5) (X := f129_copy_b1_X xs L d r s x1 x2 x3 x4 x5) (f129_copy_b1_ok (xs := xs) (L := L) (d := d) (r := r) (s := s) (v1 := x1) (v2 := x2) (v3 := x3) (v4 := x4) (v5 := x5)) 20000 _ _ e51 hx50
                  · rw [if_neg c33] at h
                    refine pv_e_bk (ps := [(95, .aload_n 0, 1), (96, .iconst 2, 1)]) (t' := (0, 0, 97, [some (.ref 94), some (.int x1), some (.int x2), some (.int x3), some (.int x4), some (.int x5), none], [.int (2:Int32), .ref 94], pv_mm s T)) (by decide +kernel) rfl ?_
                    obtain ⟨⟨q53, T54⟩, e52, h⟩ := Option.bind_eq_some_iff.mp h
                    dsimp only at h
                    refine pv_e_cvi (d := d + 1) (i := 91) (z := 115) (np := 1) (ml := 2) (ci := 6) (As := [.int (2:Int32)]) (rs := []) (pc' := 100) (by decide +kernel) rfl rfl rfl rfl (Nat.le_of_ble_eq_true rfl) (Nat.le_of_ble_eq_true rfl) rfl (ee115 (d + 1) (2:Int32) e52) ?_
                    obtain rfl := Option.some.inj h
                    cases hr
                    exact pv_e_ri (by decide +kernel)
          · rw [if_neg c16] at h
            refine pv_e_bk (ps := [(45, .aload_n 0, 1), (46, .iconst 1, 1)]) (t' := (0, 0, 47, [some (.ref 94), some (.int x1), some (.int x2), some (.int x3), some (.int x4), some (.int x5), none], [.int (1:Int32), .ref 94], pv_mm s T)) (by decide +kernel) rfl ?_
            obtain ⟨⟨q56, T57⟩, e55, h⟩ := Option.bind_eq_some_iff.mp h
            dsimp only at h
            refine pv_e_cvi (d := d + 1) (i := 91) (z := 115) (np := 1) (ml := 2) (ci := 6) (As := [.int (1:Int32)]) (rs := []) (pc' := 50) (by decide +kernel) rfl rfl rfl rfl (Nat.le_of_ble_eq_true rfl) (Nat.le_of_ble_eq_true rfl) rfl (ee115 (d + 1) (1:Int32) e55) ?_
            obtain rfl := Option.some.inj h
            cases hr
            exact pv_e_ri (by decide +kernel)
      · rw [if_neg c7] at h
        refine pv_e_bk (ps := [(21, .aload_n 0, 1), (22, .iconst 5, 1)]) (t' := (0, 0, 23, [some (.ref 94), some (.int x1), some (.int x2), some (.int x3), some (.int x4), some (.int x5), none], [.int (5:Int32), .ref 94], pv_mm s T)) (by decide +kernel) rfl ?_
        obtain ⟨⟨q59, T60⟩, e58, h⟩ := Option.bind_eq_some_iff.mp h
        dsimp only at h
        refine pv_e_cvi (d := d + 1) (i := 91) (z := 115) (np := 1) (ml := 2) (ci := 6) (As := [.int (5:Int32)]) (rs := []) (pc' := 26) (by decide +kernel) rfl rfl rfl rfl (Nat.le_of_ble_eq_true rfl) (Nat.le_of_ble_eq_true rfl) rfl (ee115 (d + 1) (5:Int32) e58) ?_
        obtain rfl := Option.some.inj h
        cases hr
        exact pv_e_ri (by decide +kernel)
