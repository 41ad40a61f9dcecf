-- printed by wip/whole/gen/parts.py: methods as functions over the ints of the memory, and that the pure machine runs so
def f86_whose_b1 (v1 : Int32) (s : pv_F) (st : Int32 × Int32 × Int32) : Option ((Int32 × Int32 × Int32) ⊕ (Int32 × Int32 × Int32)) := match st with
  | (v3, v4, v5) =>
    if (s 8 3) ≤ v5 then
      some (.inr (v3, v4, v5))
    else
      (f9_lives 8 v5 s).bind fun q12 =>
      ((
        if q12 = 0 then
          some (-9:Int32)
        else
          (pv_ra 2 4 v1).bind fun o26 =>
          (f30_spelling o26 s).bind fun q30 =>
          (f18_timesTill 8 v5 q30 (s 0 6) s).bind fun q32 =>
          some q32) : Option (Int32)).bind fun t13 =>
      ((
        if t13 = (-9:Int32) then
          some (v3, v4)
        else
          ((
            if v4 = (-9:Int32) then
              some t13
            else
              some (if t13 < v4 then t13 else v4)) : Option (Int32)).bind fun t19 =>
          some (v3 ||| ((1:Int32) <<< (v5 &&& 31)), t19)) : Option (Int32 × Int32)).bind fun (v14, v15) =>
      some (.inl (v14, v15, v5 + (1:Int32)))
def f86_whose_b1_H (xs : Nat → Int32) (L d : Nat) (r : Option Value × pv_M) (T : pv_T) (v1 : Int32) (s : pv_F) (v2 : Int32) (st : Int32 × Int32 × Int32) : Prop := match st with
  | (v3, v4, v5) => ∀ z6 : Option Value, pv_Ev xs L (d + 3) 86 (0, 0, 38, [some (.ref 0), some (.int v1), some (.int v2), some (.int v3), some (.int v4), some (.int v5), z6], [], pv_mm s T) r
def f86_whose_b1_X (xs : Nat → Int32) (L d : Nat) (r : Option Value × pv_M) (T : pv_T) (v1 : Int32) (s : pv_F) (v2 : Int32) (st : Int32 × Int32 × Int32) : Prop := match st with
  | (v3, v4, v5) => ∀ z5 : Option Value, ∀ z6 : Option Value, pv_Ev xs L (d + 3) 86 (0, 0, 141, [some (.ref 0), some (.int v1), some (.int v2), some (.int v3), some (.int v4), z5, z6], [], pv_mm s T) r
def f86_whose (x1 : Int32) (s : pv_F) : Option (Int32 × pv_F) :=
  (f100_isText x1).bind fun q2 =>
  if q2 = 0 then
    some ((-1:Int32), s)
  else
    (pv_ra 2 4 x1).bind fun o4 =>
    (f106_nameFinding o4 s).bind fun q8 =>
    if q8 = 0 then
      (pv_lq (f86_whose_b1 x1 s) 20000 ((0:Int32), (-9:Int32), (0:Int32))).bind fun (w33, w34, w35) =>
      (pv_pf s 0 8 w34).bind fun s36 =>
      some (w33, s36)
    else
      (f104_find q8 s).bind fun (q41, s42) =>
      some (q41, s42)
theorem f86_whose_b1_ok {xs : Nat → Int32} {L d : Nat} {r : Option Value × pv_M} {T : pv_T} {v1 : Int32} {s : pv_F} {v2 : Int32} (st : Int32 × Int32 × Int32) (o : (Int32 × Int32 × Int32) ⊕ (Int32 × Int32 × Int32)) (h : f86_whose_b1 v1 s st = some o) (hK : pv_Kq (f86_whose_b1_H xs L d r T v1 s v2) (f86_whose_b1_X xs L d r T v1 s v2) o) : f86_whose_b1_H xs L d r T v1 s v2 st := by
  obtain ⟨v3, v4, v5⟩ := st
  show ∀ z6 : Option Value, pv_Ev xs L (d + 3) 86 (0, 0, 38, [some (.ref 0), some (.int v1), some (.int v2), some (.int v3), some (.int v4), some (.int v5), z6], [], pv_mm s T) r
  intro z6
  unfold f86_whose_b1 at h
  dsimp only at h
  refine pv_e_bk (ps := [(38, .iload 5, 2), (40, .aload_n 0, 1)]) (t' := (0, 0, 41, [some (.ref 0), some (.int v1), some (.int v2), some (.int v3), some (.int v4), some (.int v5), z6], [.ref 0, .int v5], pv_mm s T)) (by decide +kernel) rfl ?_
  refine pv_e_gr (i := 21) (ci := 5) (j := 2) (b := 3) (pc' := 44) (by decide +kernel) rfl rfl rfl ?_
  refine pv_e_gr (i := 109) (ci := 4) (j := 1) (b := 8) (pc' := 47) (by decide +kernel) rfl rfl rfl ?_
  refine pv_e_gc (i := 112) (ci := 1) (j := 3) (pc' := 50) (by decide +kernel) (by decide) rfl rfl rfl ?_
  refine pv_e_icmpge (off := 91) (b := 141) (pc' := 53) (by decide +kernel) (by decide +kernel) rfl (fun c10 => ?_) (fun c10 => ?_)
  · rw [if_pos c10] at h
    obtain rfl := Option.some.inj h
    exact hK _ _
  · rw [if_neg c10] at h
    refine pv_e_bk (ps := [(53, .aload_n 0, 1)]) (t' := (0, 0, 54, [some (.ref 0), some (.int v1), some (.int v2), some (.int v3), some (.int v4), some (.int v5), z6], [.ref 0], pv_mm s T)) (by decide +kernel) rfl ?_
    refine pv_e_gr (i := 21) (ci := 5) (j := 2) (b := 3) (pc' := 57) (by decide +kernel) rfl rfl rfl ?_
    refine pv_e_gr (i := 109) (ci := 4) (j := 1) (b := 8) (pc' := 60) (by decide +kernel) rfl rfl rfl ?_
    refine pv_e_bk (ps := [(60, .iload 5, 2)]) (t' := (0, 0, 62, [some (.ref 0), some (.int v1), some (.int v2), some (.int v3), some (.int v4), some (.int v5), z6], [.int v5, .ref 8], pv_mm s T)) (by decide +kernel) rfl ?_
    obtain ⟨q12, e11, h⟩ := Option.bind_eq_some_iff.mp h
    refine pv_e_cvi (d := d + 2) (i := 198) (z := 9) (np := 1) (ml := 2) (ci := 1) (As := [.int v5]) (rs := []) (pc' := 65) (by decide +kernel) rfl rfl rfl rfl (Nat.le_of_ble_eq_true rfl) (Nat.le_of_ble_eq_true rfl) rfl (ee9 (d + 2) 8 v5 (by decide) e11) ?_
    obtain ⟨t13, hv23, h⟩ := Option.bind_eq_some_iff.mp h
    have hJ24 : pv_Ev xs L (d + 3) 86 (0, 0, 98, [some (.ref 0), some (.int v1), some (.int v2), some (.int v3), some (.int v4), some (.int v5), z6], [.int t13], pv_mm s T) r := by
      refine pv_e_bk (ps := [(98, .istore 6, 2), (100, .iload 6, 2), (102, .bipush (-9), 2)]) (t' := (0, 0, 104, [some (.ref 0), some (.int v1), some (.int v2), some (.int v3), some (.int v4), some (.int v5), some (.int t13)], [.int (-9:Int32), .int t13], pv_mm s T)) (by decide +kernel) rfl ?_
      obtain ⟨⟨v14, v15⟩, hv16, h⟩ := Option.bind_eq_some_iff.mp h
      dsimp only at h
      have hJ17 : pv_Ev xs L (d + 3) 86 (0, 0, 135, [some (.ref 0), some (.int v1), some (.int v2), some (.int v14), some (.int v15), some (.int v5), some (.int t13)], [], pv_mm s T) r := by
        refine pv_e_bk (ps := [(135, .iinc 5 1, 3), (138, .goto (-100), 3)]) (t' := (0, 0, 38, [some (.ref 0), some (.int v1), some (.int v2), some (.int v14), some (.int v15), some (.int (v5 + (1:Int32))), some (.int t13)], [], pv_mm s T)) (by decide +kernel) rfl ?_
        obtain rfl := Option.some.inj h
        exact hK _
      clear h
      have h := hv16
      clear hv16
      refine pv_e_icmpeq (off := 31) (b := 135) (pc' := 107) (by decide +kernel) (by decide +kernel) rfl (fun c18 => ?_) (fun c18 => ?_)
      · rw [if_pos c18] at h
        cases h
        exact hJ17
      · rw [if_neg c18] at h
        refine pv_e_bk (ps := [(107, .iload_n 3, 1), (108, .iconst 1, 1), (109, .iload 5, 2), (111, .ishl, 1), (112, .ior, 1), (113, .istore_n 3, 1), (114, .iload 4, 2), (116, .bipush (-9), 2)]) (t' := (0, 0, 118, [some (.ref 0), some (.int v1), some (.int v2), some (.int (v3 ||| ((1:Int32) <<< (v5 &&& 31)))), some (.int v4), some (.int v5), some (.int t13)], [.int (-9:Int32), .int v4], pv_mm s T)) (by decide +kernel) rfl ?_
        obtain ⟨t19, hv20, h⟩ := Option.bind_eq_some_iff.mp h
        have hJ21 : pv_Ev xs L (d + 3) 86 (0, 0, 133, [some (.ref 0), some (.int v1), some (.int v2), some (.int (v3 ||| ((1:Int32) <<< (v5 &&& 31)))), some (.int v4), some (.int v5), some (.int t13)], [.int t19], pv_mm s T) r := by
          refine pv_e_bk (ps := [(133, .istore 4, 2)]) (t' := (0, 0, 135, [some (.ref 0), some (.int v1), some (.int v2), some (.int (v3 ||| ((1:Int32) <<< (v5 &&& 31)))), some (.int t19), some (.int v5), some (.int t13)], [], pv_mm s T)) (by decide +kernel) rfl ?_
          cases h
          exact hJ17
        clear h
        have h := hv20
        clear hv20
        refine pv_e_icmpne (off := 8) (b := 126) (pc' := 121) (by decide +kernel) (by decide +kernel) rfl (fun c22 => ?_) (fun c22 => ?_)
        · rw [if_pos c22] at h
          refine pv_e_bk (ps := [(121, .iload 6, 2), (123, .goto 10, 3)]) (t' := (0, 0, 133, [some (.ref 0), some (.int v1), some (.int v2), some (.int (v3 ||| ((1:Int32) <<< (v5 &&& 31)))), some (.int v4), some (.int v5), some (.int t13)], [.int t13], pv_mm s T)) (by decide +kernel) rfl ?_
          obtain rfl := Option.some.inj h
          exact hJ21
        · rw [if_neg c22] at h
          refine pv_e_bk (ps := [(126, .iload 4, 2), (128, .iload 6, 2)]) (t' := (0, 0, 130, [some (.ref 0), some (.int v1), some (.int v2), some (.int (v3 ||| ((1:Int32) <<< (v5 &&& 31)))), some (.int v4), some (.int v5), some (.int t13)], [.int t13, .int v4], pv_mm s T)) (by decide +kernel) rfl ?_
          refine pv_e_mi (i := 261) (pc' := 133) (by decide +kernel) (Nat.le_add_left 1 _) (Nat.le_of_ble_eq_true rfl) rfl ?_ (fun _ _ h9 => by cases h9)
          obtain rfl := Option.some.inj h
          exact hJ21
    clear h
    have h := hv23
    clear hv23
    refine pv_e_ifeq (off := 31) (b := 96) (pc' := 68) (by decide +kernel) (by decide +kernel) rfl (fun c25 => ?_) (fun c25 => ?_)
    · rw [if_pos c25] at h
      refine pv_e_bk (ps := [(96, .bipush (-9), 2)]) (t' := (0, 0, 98, [some (.ref 0), some (.int v1), some (.int v2), some (.int v3), some (.int v4), some (.int v5), z6], [.int (-9:Int32)], pv_mm s T)) (by decide +kernel) rfl ?_
      obtain rfl := Option.some.inj h
      exact hJ24
    · rw [if_neg c25] at h
      refine pv_e_bk (ps := [(68, .aload_n 0, 1)]) (t' := (0, 0, 69, [some (.ref 0), some (.int v1), some (.int v2), some (.int v3), some (.int v4), some (.int v5), z6], [.ref 0], pv_mm s T)) (by decide +kernel) rfl ?_
      refine pv_e_gr (i := 21) (ci := 5) (j := 2) (b := 3) (pc' := 72) (by decide +kernel) rfl rfl rfl ?_
      refine pv_e_gr (i := 109) (ci := 4) (j := 1) (b := 8) (pc' := 75) (by decide +kernel) rfl rfl rfl ?_
      refine pv_e_bk (ps := [(75, .iload 5, 2), (77, .aload_n 0, 1)]) (t' := (0, 0, 78, [some (.ref 0), some (.int v1), some (.int v2), some (.int v3), some (.int v4), some (.int v5), z6], [.ref 0, .int v5, .ref 8], pv_mm s T)) (by decide +kernel) rfl ?_
      refine pv_e_gr (i := 15) (ci := 5) (j := 1) (b := 2) (pc' := 81) (by decide +kernel) rfl rfl rfl ?_
      refine pv_e_bk (ps := [(81, .iload_n 1, 1)]) (t' := (0, 0, 82, [some (.ref 0), some (.int v1), some (.int v2), some (.int v3), some (.int v4), some (.int v5), z6], [.int v1, .ref 2, .int v5, .ref 8], pv_mm s T)) (by decide +kernel) rfl ?_
      obtain ⟨o26, e27, h⟩ := Option.bind_eq_some_iff.mp h
      have g28 := ra_texts e27
      refine pv_e_ra (zz := 4) (pc' := 83) (by decide +kernel) rfl (by decide) e27 rfl ?_
      obtain ⟨q30, e29, h⟩ := Option.bind_eq_some_iff.mp h
      refine pv_e_cvi (d := d + 2) (i := 224) (z := 30) (np := 0) (ml := 3) (ci := 2) (As := []) (rs := [.int v5, .ref 8]) (pc' := 86) (by decide +kernel) (rw_ g28).1 rfl rfl rfl (Nat.le_of_ble_eq_true rfl) (Nat.le_of_ble_eq_true rfl) rfl (ee30 (d + 0) o26 g28 e29) ?_
      refine pv_e_bk (ps := [(86, .aload_n 0, 1)]) (t' := (0, 0, 87, [some (.ref 0), some (.int v1), some (.int v2), some (.int v3), some (.int v4), some (.int v5), z6], [.ref 0, .int q30, .int v5, .ref 8], pv_mm s T)) (by decide +kernel) rfl ?_
      refine pv_e_gc (i := 43) (ci := 5) (j := 6) (pc' := 90) (by decide +kernel) (by decide) rfl rfl rfl ?_
      obtain ⟨q32, e31, h⟩ := Option.bind_eq_some_iff.mp h
      refine pv_e_cvi (d := d + 2) (i := 201) (z := 18) (np := 3) (ml := 7) (ci := 1) (As := [.int v5, .int q30, .int (s 0 6)]) (rs := []) (pc' := 93) (by decide +kernel) rfl rfl rfl rfl (Nat.le_of_ble_eq_true rfl) (Nat.le_of_ble_eq_true rfl) rfl (ee18 (d + 0) 8 v5 q30 (s 0 6) (by decide) e31) ?_
      refine pv_e_bk (ps := [(93, .goto 5, 3)]) (t' := (0, 0, 98, [some (.ref 0), some (.int v1), some (.int v2), some (.int v3), some (.int v4), some (.int v5), z6], [.int q32], pv_mm s T)) (by decide +kernel) rfl ?_
      obtain rfl := Option.some.inj h
      exact hJ24
theorem ee86 {xs : Nat → Int32} {L : Nat} (d : Nat) (x1 : Int32) {s : pv_F} {T : pv_T} {q : Int32 × pv_F}  (h : f86_whose x1 s = some q) : pv_Ev xs L (d + 3) 86 (0, 0, 0, [some (.ref 0), some (.int x1), none, none, none, none, none], [], pv_mm s T) (some (.int q.1), pv_mm q.2 T) := by
  generalize hr : ((some (.int q.1), pv_mm q.2 T) : Option Value × pv_M) = r
  unfold f86_whose at h
  refine pv_e_bk (ps := [(0, .iload_n 1, 1)]) (t' := (0, 0, 1, [some (.ref 0), some (.int x1), none, none, none, none, none], [.int x1], pv_mm s T)) (by decide +kernel) rfl ?_
  obtain ⟨q2, e1, h⟩ := Option.bind_eq_some_iff.mp h
  refine pv_e_csi (d := d + 2) (i := 99) (z := 100) (np := 1) (ml := 1) (As := [.int x1]) (rs := []) (pc' := 4) (by decide +kernel) rfl rfl rfl (Nat.le_of_ble_eq_true rfl) (Nat.le_of_ble_eq_true rfl) rfl (ee100 (d + 2) x1 e1) ?_
  refine pv_e_ifne (off := 5) (b := 9) (pc' := 7) (by decide +kernel) (by decide +kernel) rfl (fun c3 => ?_) (fun c3 => ?_)
  · rw [if_pos c3] at h
    refine pv_e_bk (ps := [(7, .iconst (-1), 1)]) (t' := (0, 0, 8, [some (.ref 0), some (.int x1), none, none, none, none, none], [.int (-1:Int32)], pv_mm s T)) (by decide +kernel) rfl ?_
    obtain rfl := Option.some.inj h
    cases hr
    exact pv_e_ri (by decide +kernel)
  · rw [if_neg c3] at h
    refine pv_e_bk (ps := [(9, .aload_n 0, 1)]) (t' := (0, 0, 10, [some (.ref 0), some (.int x1), none, none, none, none, none], [.ref 0], pv_mm s T)) (by decide +kernel) rfl ?_
    refine pv_e_gr (i := 15) (ci := 5) (j := 1) (b := 2) (pc' := 13) (by decide +kernel) rfl rfl rfl ?_
    refine pv_e_bk (ps := [(13, .iload_n 1, 1)]) (t' := (0, 0, 14, [some (.ref 0), some (.int x1), none, none, none, none, none], [.int x1, .ref 2], pv_mm s T)) (by decide +kernel) rfl ?_
    obtain ⟨o4, e5, h⟩ := Option.bind_eq_some_iff.mp h
    have g6 := ra_texts e5
    refine pv_e_ra (zz := 4) (pc' := 15) (by decide +kernel) rfl (by decide) e5 rfl ?_
    obtain ⟨q8, e7, h⟩ := Option.bind_eq_some_iff.mp h
    refine pv_e_csi (d := d + 2) (i := 221) (z := 106) (np := 1) (ml := 2) (As := [.ref o4]) (rs := []) (pc' := 18) (by decide +kernel) rfl rfl rfl (Nat.le_of_ble_eq_true rfl) (Nat.le_of_ble_eq_true rfl) rfl (ee106 (d + 1) o4 g6 e7) ?_
    refine pv_e_bk (ps := [(18, .istore_n 2, 1), (19, .iload_n 2, 1)]) (t' := (0, 0, 20, [some (.ref 0), some (.int x1), some (.int q8), none, none, none, none], [.int q8], pv_mm s T)) (by decide +kernel) rfl ?_
    refine pv_e_ifeq (off := 9) (b := 29) (pc' := 23) (by decide +kernel) (by decide +kernel) rfl (fun c9 => ?_) (fun c9 => ?_)
    · rw [if_pos c9] at h
      refine pv_e_bk (ps := [(29, .iconst 0, 1), (30, .istore_n 3, 1), (31, .bipush (-9), 2), (33, .istore 4, 2), (35, .iconst 0, 1), (36, .istore 5, 2)]) (t' := (0, 0, 38, [some (.ref 0), some (.int x1), some (.int q8), some (.int (0:Int32)), some (.int (-9:Int32)), some (.int (0:Int32)), none], [], pv_mm s T)) (by decide +kernel) rfl ?_
      obtain ⟨⟨w33, w34, w35⟩, e39, h⟩ := Option.bind_eq_some_iff.mp h
      dsimp only at h
      have hx38 : f86_whose_b1_X xs L d r T x1 s q8 (w33, w34, w35) := by
        show ∀ z5 : Option Value, ∀ z6 : Option Value, pv_Ev xs L (d + 3) 86 (0, 0, 141, [some (.ref 0), some (.int x1), some (.int q8), some (.int w33), some (.int w34), z5, z6], [], pv_mm s T) r
        intro z5 z6
        refine pv_e_bk (ps := [(141, .aload_n 0, 1), (142, .iload 4, 2)]) (t' := (0, 0, 144, [some (.ref 0), some (.int x1), some (.int q8), some (.int w33), some (.int w34), z5, z6], [.int w34, .ref 0], pv_mm s T)) (by decide +kernel) rfl ?_
        obtain ⟨s36, e37, h⟩ := Option.bind_eq_some_iff.mp h
        refine pv_e_pcs (i := 50) (ci := 5) (j := 8) (pc' := 147) (by decide +kernel) rfl rfl (by decide) rfl rfl e37 rfl ?_
        refine pv_e_bk (ps := [(147, .iload_n 3, 1)]) (t' := (0, 0, 148, [some (.ref 0), some (.int x1), some (.int q8), some (.int w33), some (.int w34), z5, z6], [.int w33], pv_mm s36 T)) (by decide +kernel) rfl ?_
        obtain rfl := Option.some.inj h
        cases hr
        exact pv_e_ri (by decide +kernel)
      exact pv_lq_ok (H := f86_whose_b1_H xs L d r T x1 s q8) (X := f86_whose_b1_X xs L d r T x1 s q8) (f86_whose_b1_ok (xs := xs) (L := L) (d := d) (r := r) (T := T) (v1 := x1) (s := s) (v2 := q8)) 20000 _ _ e39 hx38 _
    · rw [if_neg c9] at h
      refine pv_e_bk (ps := [(23, .aload_n 0, 1), (24, .iload_n 2, 1)]) (t' := (0, 0, 25, [some (.ref 0), some (.int x1), some (.int q8), none, none, none, none], [.int q8, .ref 0], pv_mm s T)) (by decide +kernel) rfl ?_
      obtain ⟨⟨q41, s42⟩, e40, h⟩ := Option.bind_eq_some_iff.mp h
      dsimp only at h
      refine pv_e_cvi (d := d + 2) (i := 63) (z := 104) (np := 1) (ml := 2) (ci := 5) (As := [.int q8]) (rs := []) (pc' := 28) (by decide +kernel) rfl rfl rfl rfl (Nat.le_of_ble_eq_true rfl) (Nat.le_of_ble_eq_true rfl) rfl (ee104 (d + 2) q8 e40) ?_
      obtain rfl := Option.some.inj h
      cases hr
      exact pv_e_ri (by decide +kernel)
def f87_held (x1 : Int32) (x2 : Int32) (s : pv_F) : Option (Int32 × pv_F) :=
  (f102_isPerson x1 s).bind fun q2 =>
  if q2 = 0 then
    some ((-1:Int32), s)
  else
    (f99_isRow x2).bind fun q5 =>
    if q5 = 0 then
      some ((-1:Int32), s)
    else
      (f9_lives 8 x1 s).bind fun q8 =>
      if q8 = 0 then
        some ((-4:Int32), s)
      else
        (pv_ra 1 6 x2).bind fun o10 =>
        (f107_numbersFinding o10 (4:Int32) ((1:Int32) <<< ((s 8 3) &&& 31)) s).bind fun q14 =>
        if q14 = 0 then
          (f33_from 8 (s 0 6) s).bind fun s18 =>
          (pv_ra 1 6 x2).bind fun o19 =>
          (f39_seekCalled 8 x1 o19 (0:Int32) s18).bind fun s23 =>
          (pv_pf s23 0 8 (s23 40 8)).bind fun s24 =>
          some (s24 40 7, s24)
        else
          (f104_find q14 s).bind fun (q27, s28) =>
          some (q27, s28)
theorem ee87 {xs : Nat → Int32} {L : Nat} (d : Nat) (x1 : Int32) (x2 : Int32) {s : pv_F} {T : pv_T} {q : Int32 × pv_F}  (h : f87_held x1 x2 s = some q) : pv_Ev xs L (d + 14) 87 (0, 0, 0, [some (.ref 0), some (.int x1), some (.int x2), none], [], pv_mm s T) (some (.int q.1), pv_mm q.2 T) := by
  generalize hr : ((some (.int q.1), pv_mm q.2 T) : Option Value × pv_M) = r
  unfold f87_held at h
  refine pv_e_bk (ps := [(0, .aload_n 0, 1), (1, .iload_n 1, 1)]) (t' := (0, 0, 2, [some (.ref 0), some (.int x1), some (.int x2), none], [.int x1, .ref 0], pv_mm s T)) (by decide +kernel) rfl ?_
  obtain ⟨q2, e1, h⟩ := Option.bind_eq_some_iff.mp h
  refine pv_e_cvi (d := d + 13) (i := 113) (z := 102) (np := 1) (ml := 2) (ci := 5) (As := [.int x1]) (rs := []) (pc' := 5) (by decide +kernel) rfl rfl rfl rfl (Nat.le_of_ble_eq_true rfl) (Nat.le_of_ble_eq_true rfl) rfl (ee102 (d + 13) x1 e1) ?_
  refine pv_e_ifeq (off := 10) (b := 15) (pc' := 8) (by decide +kernel) (by decide +kernel) rfl (fun c3 => ?_) (fun c3 => ?_)
  · rw [if_pos c3] at h
    refine pv_e_bk (ps := [(15, .iconst (-1), 1)]) (t' := (0, 0, 16, [some (.ref 0), some (.int x1), some (.int x2), none], [.int (-1:Int32)], pv_mm s T)) (by decide +kernel) rfl ?_
    obtain rfl := Option.some.inj h
    cases hr
    exact pv_e_ri (by decide +kernel)
  · rw [if_neg c3] at h
    refine pv_e_bk (ps := [(8, .iload_n 2, 1)]) (t' := (0, 0, 9, [some (.ref 0), some (.int x1), some (.int x2), none], [.int x2], pv_mm s T)) (by decide +kernel) rfl ?_
    obtain ⟨q5, e4, h⟩ := Option.bind_eq_some_iff.mp h
    refine pv_e_csi (d := d + 13) (i := 59) (z := 99) (np := 1) (ml := 1) (As := [.int x2]) (rs := []) (pc' := 12) (by decide +kernel) rfl rfl rfl (Nat.le_of_ble_eq_true rfl) (Nat.le_of_ble_eq_true rfl) rfl (ee99 (d + 13) x2 e4) ?_
    refine pv_e_ifne (off := 5) (b := 17) (pc' := 15) (by decide +kernel) (by decide +kernel) rfl (fun c6 => ?_) (fun c6 => ?_)
    · rw [if_pos c6] at h
      refine pv_e_bk (ps := [(15, .iconst (-1), 1)]) (t' := (0, 0, 16, [some (.ref 0), some (.int x1), some (.int x2), none], [.int (-1:Int32)], pv_mm s T)) (by decide +kernel) rfl ?_
      obtain rfl := Option.some.inj h
      cases hr
      exact pv_e_ri (by decide +kernel)
    · rw [if_neg c6] at h
      refine pv_e_bk (ps := [(17, .aload_n 0, 1)]) (t' := (0, 0, 18, [some (.ref 0), some (.int x1), some (.int x2), none], [.ref 0], pv_mm s T)) (by decide +kernel) rfl ?_
      refine pv_e_gr (i := 21) (ci := 5) (j := 2) (b := 3) (pc' := 21) (by decide +kernel) rfl rfl rfl ?_
      refine pv_e_gr (i := 109) (ci := 4) (j := 1) (b := 8) (pc' := 24) (by decide +kernel) rfl rfl rfl ?_
      refine pv_e_bk (ps := [(24, .iload_n 1, 1)]) (t' := (0, 0, 25, [some (.ref 0), some (.int x1), some (.int x2), none], [.int x1, .ref 8], pv_mm s T)) (by decide +kernel) rfl ?_
      obtain ⟨q8, e7, h⟩ := Option.bind_eq_some_iff.mp h
      refine pv_e_cvi (d := d + 13) (i := 198) (z := 9) (np := 1) (ml := 2) (ci := 1) (As := [.int x1]) (rs := []) (pc' := 28) (by decide +kernel) rfl rfl rfl rfl (Nat.le_of_ble_eq_true rfl) (Nat.le_of_ble_eq_true rfl) rfl (ee9 (d + 13) 8 x1 (by decide) e7) ?_
      refine pv_e_ifne (off := 6) (b := 34) (pc' := 31) (by decide +kernel) (by decide +kernel) rfl (fun c9 => ?_) (fun c9 => ?_)
      · rw [if_pos c9] at h
        refine pv_e_bk (ps := [(31, .bipush (-4), 2)]) (t' := (0, 0, 33, [some (.ref 0), some (.int x1), some (.int x2), none], [.int (-4:Int32)], pv_mm s T)) (by decide +kernel) rfl ?_
        obtain rfl := Option.some.inj h
        cases hr
        exact pv_e_ri (by decide +kernel)
      · rw [if_neg c9] at h
        refine pv_e_bk (ps := [(34, .aload_n 0, 1)]) (t' := (0, 0, 35, [some (.ref 0), some (.int x1), some (.int x2), none], [.ref 0], pv_mm s T)) (by decide +kernel) rfl ?_
        refine pv_e_gr (i := 11) (ci := 5) (j := 0) (b := 1) (pc' := 38) (by decide +kernel) rfl rfl rfl ?_
        refine pv_e_bk (ps := [(38, .iload_n 2, 1)]) (t' := (0, 0, 39, [some (.ref 0), some (.int x1), some (.int x2), none], [.int x2, .ref 1], pv_mm s T)) (by decide +kernel) rfl ?_
        obtain ⟨o10, e11, h⟩ := Option.bind_eq_some_iff.mp h
        have g12 := ra_rows e11
        refine pv_e_ra (zz := 6) (pc' := 40) (by decide +kernel) rfl (by decide) e11 rfl ?_
        refine pv_e_bk (ps := [(40, .iconst 4, 1), (41, .iconst 1, 1), (42, .aload_n 0, 1)]) (t' := (0, 0, 43, [some (.ref 0), some (.int x1), some (.int x2), none], [.ref 0, .int (1:Int32), .int (4:Int32), .ref o10], pv_mm s T)) (by decide +kernel) rfl ?_
        refine pv_e_gr (i := 21) (ci := 5) (j := 2) (b := 3) (pc' := 46) (by decide +kernel) rfl rfl rfl ?_
        refine pv_e_gr (i := 109) (ci := 4) (j := 1) (b := 8) (pc' := 49) (by decide +kernel) rfl rfl rfl ?_
        refine pv_e_gc (i := 112) (ci := 1) (j := 3) (pc' := 52) (by decide +kernel) (by decide) rfl rfl rfl ?_
        refine pv_e_bk (ps := [(52, .ishl, 1)]) (t' := (0, 0, 53, [some (.ref 0), some (.int x1), some (.int x2), none], [.int ((1:Int32) <<< ((s 8 3) &&& 31)), .int (4:Int32), .ref o10], pv_mm s T)) (by decide +kernel) rfl ?_
        obtain ⟨q14, e13, h⟩ := Option.bind_eq_some_iff.mp h
        refine pv_e_csi (d := d + 13) (i := 249) (z := 107) (np := 3) (ml := 4) (As := [.ref o10, .int (4:Int32), .int ((1:Int32) <<< ((s 8 3) &&& 31))]) (rs := []) (pc' := 56) (by decide +kernel) rfl rfl rfl (Nat.le_of_ble_eq_true rfl) (Nat.le_of_ble_eq_true rfl) rfl (ee107 (d + 13) o10 (4:Int32) ((1:Int32) <<< ((s 8 3) &&& 31)) g12 e13) ?_
        refine pv_e_bk (ps := [(56, .istore_n 3, 1), (57, .iload_n 3, 1)]) (t' := (0, 0, 58, [some (.ref 0), some (.int x1), some (.int x2), some (.int q14)], [.int q14], pv_mm s T)) (by decide +kernel) rfl ?_
        refine pv_e_ifeq (off := 9) (b := 67) (pc' := 61) (by decide +kernel) (by decide +kernel) rfl (fun c15 => ?_) (fun c15 => ?_)
        · rw [if_pos c15] at h
          refine pv_e_bk (ps := [(67, .aload_n 0, 1)]) (t' := (0, 0, 68, [some (.ref 0), some (.int x1), some (.int x2), some (.int q14)], [.ref 0], pv_mm s T)) (by decide +kernel) rfl ?_
          refine pv_e_gr (i := 35) (ci := 5) (j := 4) (b := 40) (pc' := 71) (by decide +kernel) rfl rfl rfl ?_
          refine pv_e_bk (ps := [(71, .aload_n 0, 1)]) (t' := (0, 0, 72, [some (.ref 0), some (.int x1), some (.int x2), some (.int q14)], [.ref 0, .ref 40], pv_mm s T)) (by decide +kernel) rfl ?_
          refine pv_e_gr (i := 21) (ci := 5) (j := 2) (b := 3) (pc' := 75) (by decide +kernel) rfl rfl rfl ?_
          refine pv_e_gr (i := 109) (ci := 4) (j := 1) (b := 8) (pc' := 78) (by decide +kernel) rfl rfl rfl ?_
          refine pv_e_bk (ps := [(78, .aload_n 0, 1)]) (t' := (0, 0, 79, [some (.ref 0), some (.int x1), some (.int x2), some (.int q14)], [.ref 0, .ref 8, .ref 40], pv_mm s T)) (by decide +kernel) rfl ?_
          refine pv_e_gc (i := 43) (ci := 5) (j := 6) (pc' := 82) (by decide +kernel) (by decide) rfl rfl rfl ?_
          obtain ⟨s18, e16, h⟩ := Option.bind_eq_some_iff.mp h
          refine pv_e_cvf (d := d + 13) (i := 204) (z := 33) (np := 2) (ml := 4) (ci := 3) (As := [.ref 8, .int (s 0 6)]) (rs := []) (pc' := 85) (by decide +kernel) rfl rfl rfl rfl (Nat.le_of_ble_eq_true rfl) (Nat.le_of_ble_eq_true rfl) rfl (ee33 (d + 11) 8 (s 0 6) (by decide) e16) ?_
          refine pv_e_bk (ps := [(85, .pop, 1), (86, .aload_n 0, 1)]) (t' := (0, 0, 87, [some (.ref 0), some (.int x1), some (.int x2), some (.int q14)], [.ref 0], pv_mm s18 T)) (by decide +kernel) rfl ?_
          refine pv_e_gr (i := 35) (ci := 5) (j := 4) (b := 40) (pc' := 90) (by decide +kernel) rfl rfl rfl ?_
          refine pv_e_bk (ps := [(90, .iload_n 1, 1), (91, .aload_n 0, 1)]) (t' := (0, 0, 92, [some (.ref 0), some (.int x1), some (.int x2), some (.int q14)], [.ref 0, .int x1, .ref 40], pv_mm s18 T)) (by decide +kernel) rfl ?_
          refine pv_e_gr (i := 11) (ci := 5) (j := 0) (b := 1) (pc' := 95) (by decide +kernel) rfl rfl rfl ?_
          refine pv_e_bk (ps := [(95, .iload_n 2, 1)]) (t' := (0, 0, 96, [some (.ref 0), some (.int x1), some (.int x2), some (.int q14)], [.int x2, .ref 1, .int x1, .ref 40], pv_mm s18 T)) (by decide +kernel) rfl ?_
          obtain ⟨o19, e20, h⟩ := Option.bind_eq_some_iff.mp h
          have g21 := ra_rows e20
          refine pv_e_ra (zz := 6) (pc' := 97) (by decide +kernel) rfl (by decide) e20 rfl ?_
          refine pv_e_bk (ps := [(97, .iconst 0, 1)]) (t' := (0, 0, 98, [some (.ref 0), some (.int x1), some (.int x2), some (.int q14)], [.int (0:Int32), .ref o19, .int x1, .ref 40], pv_mm s18 T)) (by decide +kernel) rfl ?_
          obtain ⟨s23, e22, h⟩ := Option.bind_eq_some_iff.mp h
          refine pv_e_cvv (d := d + 13) (i := 266) (z := 39) (np := 3) (ml := 6) (ci := 3) (As := [.int x1, .ref o19, .int (0:Int32)]) (rs := []) (pc' := 101) (by decide +kernel) rfl rfl rfl rfl (Nat.le_of_ble_eq_true rfl) (Nat.le_of_ble_eq_true rfl) rfl (ee39 (d + 0) 8 x1 o19 (0:Int32) g21 e22) ?_
          refine pv_e_bk (ps := [(101, .aload_n 0, 1), (102, .aload_n 0, 1)]) (t' := (0, 0, 103, [some (.ref 0), some (.int x1), some (.int x2), some (.int q14)], [.ref 0, .ref 0], pv_mm s23 T)) (by decide +kernel) rfl ?_
          refine pv_e_gr (i := 35) (ci := 5) (j := 4) (b := 40) (pc' := 106) (by decide +kernel) rfl rfl rfl ?_
          refine pv_e_gc (i := 270) (ci := 3) (j := 8) (pc' := 109) (by decide +kernel) (by decide) rfl rfl rfl ?_
          obtain ⟨s24, e25, h⟩ := Option.bind_eq_some_iff.mp h
          refine pv_e_pcs (i := 50) (ci := 5) (j := 8) (pc' := 112) (by decide +kernel) rfl rfl (by decide) rfl rfl e25 rfl ?_
          refine pv_e_bk (ps := [(112, .aload_n 0, 1)]) (t' := (0, 0, 113, [some (.ref 0), some (.int x1), some (.int x2), some (.int q14)], [.ref 0], pv_mm s24 T)) (by decide +kernel) rfl ?_
          refine pv_e_gr (i := 35) (ci := 5) (j := 4) (b := 40) (pc' := 116) (by decide +kernel) rfl rfl rfl ?_
          refine pv_e_gc (i := 273) (ci := 3) (j := 7) (pc' := 119) (by decide +kernel) (by decide) rfl rfl rfl ?_
          obtain rfl := Option.some.inj h
          cases hr
          exact pv_e_ri (by decide +kernel)
        · rw [if_neg c15] at h
          refine pv_e_bk (ps := [(61, .aload_n 0, 1), (62, .iload_n 3, 1)]) (t' := (0, 0, 63, [some (.ref 0), some (.int x1), some (.int x2), some (.int q14)], [.int q14, .ref 0], pv_mm s T)) (by decide +kernel) rfl ?_
          obtain ⟨⟨q27, s28⟩, e26, h⟩ := Option.bind_eq_some_iff.mp h
          dsimp only at h
          refine pv_e_cvi (d := d + 13) (i := 63) (z := 104) (np := 1) (ml := 2) (ci := 5) (As := [.int q14]) (rs := []) (pc' := 66) (by decide +kernel) rfl rfl rfl rfl (Nat.le_of_ble_eq_true rfl) (Nat.le_of_ble_eq_true rfl) rfl (ee104 (d + 13) q14 e26) ?_
          obtain rfl := Option.some.inj h
          cases hr
          exact pv_e_ri (by decide +kernel)
def f88_could (x1 : Int32) (x2 : Int32) (x3 : Int32) (s : pv_F) : Option (Int32 × pv_F) :=
  (f102_isPerson x1 s).bind fun q2 =>
  if q2 = 0 then
    some ((-1:Int32), s)
  else
    (f99_isRow x2).bind fun q5 =>
    if q5 = 0 then
      some ((-1:Int32), s)
    else
      if x3 < 0 then
        some ((-1:Int32), s)
      else
        if x3 < (4:Int32) then
          (f9_lives 8 x1 s).bind fun q10 =>
          if q10 = 0 then
            some ((-4:Int32), s)
          else
            (pv_ra 1 6 x2).bind fun o12 =>
            (f107_numbersFinding o12 (4:Int32) ((1:Int32) <<< ((s 8 3) &&& 31)) s).bind fun q16 =>
            if q16 = 0 then
              (pv_ra 1 6 x2).bind fun o18 =>
              (f27_has o18 x3 s).bind fun q22 =>
              if q22 = 0 then
                some ((-1:Int32), s)
              else
                (f33_from 8 (s 0 6) s).bind fun s26 =>
                (pv_ra 1 6 x2).bind fun o27 =>
                (f39_seekCalled 8 x1 o27 (0:Int32) s26).bind fun s31 =>
                (pv_rd s31 44 4 x3).bind fun q32 =>
                some (q32, s31)
            else
              (f104_find q16 s).bind fun (q35, s36) =>
              some (q35, s36)
        else
          some ((-1:Int32), s)
theorem ee88 {xs : Nat → Int32} {L : Nat} (d : Nat) (x1 : Int32) (x2 : Int32) (x3 : Int32) {s : pv_F} {T : pv_T} {q : Int32 × pv_F}  (h : f88_could x1 x2 x3 s = some q) : pv_Ev xs L (d + 14) 88 (0, 0, 0, [some (.ref 0), some (.int x1), some (.int x2), some (.int x3), none], [], pv_mm s T) (some (.int q.1), pv_mm q.2 T) := by
  generalize hr : ((some (.int q.1), pv_mm q.2 T) : Option Value × pv_M) = r
  unfold f88_could at h
  refine pv_e_bk (ps := [(0, .aload_n 0, 1), (1, .iload_n 1, 1)]) (t' := (0, 0, 2, [some (.ref 0), some (.int x1), some (.int x2), some (.int x3), none], [.int x1, .ref 0], pv_mm s T)) (by decide +kernel) rfl ?_
  obtain ⟨q2, e1, h⟩ := Option.bind_eq_some_iff.mp h
  refine pv_e_cvi (d := d + 13) (i := 113) (z := 102) (np := 1) (ml := 2) (ci := 5) (As := [.int x1]) (rs := []) (pc' := 5) (by decide +kernel) rfl rfl rfl rfl (Nat.le_of_ble_eq_true rfl) (Nat.le_of_ble_eq_true rfl) rfl (ee102 (d + 13) x1 e1) ?_
  refine pv_e_ifeq (off := 19) (b := 24) (pc' := 8) (by decide +kernel) (by decide +kernel) rfl (fun c3 => ?_) (fun c3 => ?_)
  · rw [if_pos c3] at h
    refine pv_e_bk (ps := [(24, .iconst (-1), 1)]) (t' := (0, 0, 25, [some (.ref 0), some (.int x1), some (.int x2), some (.int x3), none], [.int (-1:Int32)], pv_mm s T)) (by decide +kernel) rfl ?_
    obtain rfl := Option.some.inj h
    cases hr
    exact pv_e_ri (by decide +kernel)
  · rw [if_neg c3] at h
    refine pv_e_bk (ps := [(8, .iload_n 2, 1)]) (t' := (0, 0, 9, [some (.ref 0), some (.int x1), some (.int x2), some (.int x3), none], [.int x2], pv_mm s T)) (by decide +kernel) rfl ?_
    obtain ⟨q5, e4, h⟩ := Option.bind_eq_some_iff.mp h
    refine pv_e_csi (d := d + 13) (i := 59) (z := 99) (np := 1) (ml := 1) (As := [.int x2]) (rs := []) (pc' := 12) (by decide +kernel) rfl rfl rfl (Nat.le_of_ble_eq_true rfl) (Nat.le_of_ble_eq_true rfl) rfl (ee99 (d + 13) x2 e4) ?_
    refine pv_e_ifeq (off := 12) (b := 24) (pc' := 15) (by decide +kernel) (by decide +kernel) rfl (fun c6 => ?_) (fun c6 => ?_)
    · rw [if_pos c6] at h
      refine pv_e_bk (ps := [(24, .iconst (-1), 1)]) (t' := (0, 0, 25, [some (.ref 0), some (.int x1), some (.int x2), some (.int x3), none], [.int (-1:Int32)], pv_mm s T)) (by decide +kernel) rfl ?_
      obtain rfl := Option.some.inj h
      cases hr
      exact pv_e_ri (by decide +kernel)
    · rw [if_neg c6] at h
      refine pv_e_bk (ps := [(15, .iload_n 3, 1)]) (t' := (0, 0, 16, [some (.ref 0), some (.int x1), some (.int x2), some (.int x3), none], [.int x3], pv_mm s T)) (by decide +kernel) rfl ?_
      refine pv_e_iflt (off := 8) (b := 24) (pc' := 19) (by decide +kernel) (by decide +kernel) rfl (fun c7 => ?_) (fun c7 => ?_)
      · rw [if_pos c7] at h
        refine pv_e_bk (ps := [(24, .iconst (-1), 1)]) (t' := (0, 0, 25, [some (.ref 0), some (.int x1), some (.int x2), some (.int x3), none], [.int (-1:Int32)], pv_mm s T)) (by decide +kernel) rfl ?_
        obtain rfl := Option.some.inj h
        cases hr
        exact pv_e_ri (by decide +kernel)
      · rw [if_neg c7] at h
        refine pv_e_bk (ps := [(19, .iload_n 3, 1), (20, .iconst 4, 1)]) (t' := (0, 0, 21, [some (.ref 0), some (.int x1), some (.int x2), some (.int x3), none], [.int (4:Int32), .int x3], pv_mm s T)) (by decide +kernel) rfl ?_
        refine pv_e_icmplt (off := 5) (b := 26) (pc' := 24) (by decide +kernel) (by decide +kernel) rfl (fun c8 => ?_) (fun c8 => ?_)
        · rw [if_pos c8] at h
          refine pv_e_bk (ps := [(26, .aload_n 0, 1)]) (t' := (0, 0, 27, [some (.ref 0), some (.int x1), some (.int x2), some (.int x3), none], [.ref 0], pv_mm s T)) (by decide +kernel) rfl ?_
          refine pv_e_gr (i := 21) (ci := 5) (j := 2) (b := 3) (pc' := 30) (by decide +kernel) rfl rfl rfl ?_
          refine pv_e_gr (i := 109) (ci := 4) (j := 1) (b := 8) (pc' := 33) (by decide +kernel) rfl rfl rfl ?_
          refine pv_e_bk (ps := [(33, .iload_n 1, 1)]) (t' := (0, 0, 34, [some (.ref 0), some (.int x1), some (.int x2), some (.int x3), none], [.int x1, .ref 8], pv_mm s T)) (by decide +kernel) rfl ?_
          obtain ⟨q10, e9, h⟩ := Option.bind_eq_some_iff.mp h
          refine pv_e_cvi (d := d + 13) (i := 198) (z := 9) (np := 1) (ml := 2) (ci := 1) (As := [.int x1]) (rs := []) (pc' := 37) (by decide +kernel) rfl rfl rfl rfl (Nat.le_of_ble_eq_true rfl) (Nat.le_of_ble_eq_true rfl) rfl (ee9 (d + 13) 8 x1 (by decide) e9) ?_
          refine pv_e_ifne (off := 6) (b := 43) (pc' := 40) (by decide +kernel) (by decide +kernel) rfl (fun c11 => ?_) (fun c11 => ?_)
          · rw [if_pos c11] at h
            refine pv_e_bk (ps := [(40, .bipush (-4), 2)]) (t' := (0, 0, 42, [some (.ref 0), some (.int x1), some (.int x2), some (.int x3), none], [.int (-4:Int32)], pv_mm s T)) (by decide +kernel) rfl ?_
            obtain rfl := Option.some.inj h
            cases hr
            exact pv_e_ri (by decide +kernel)
          · rw [if_neg c11] at h
            refine pv_e_bk (ps := [(43, .aload_n 0, 1)]) (t' := (0, 0, 44, [some (.ref 0), some (.int x1), some (.int x2), some (.int x3), none], [.ref 0], pv_mm s T)) (by decide +kernel) rfl ?_
            refine pv_e_gr (i := 11) (ci := 5) (j := 0) (b := 1) (pc' := 47) (by decide +kernel) rfl rfl rfl ?_
            refine pv_e_bk (ps := [(47, .iload_n 2, 1)]) (t' := (0, 0, 48, [some (.ref 0), some (.int x1), some (.int x2), some (.int x3), none], [.int x2, .ref 1], pv_mm s T)) (by decide +kernel) rfl ?_
            obtain ⟨o12, e13, h⟩ := Option.bind_eq_some_iff.mp h
            have g14 := ra_rows e13
            refine pv_e_ra (zz := 6) (pc' := 49) (by decide +kernel) rfl (by decide) e13 rfl ?_
            refine pv_e_bk (ps := [(49, .iconst 4, 1), (50, .iconst 1, 1), (51, .aload_n 0, 1)]) (t' := (0, 0, 52, [some (.ref 0), some (.int x1), some (.int x2), some (.int x3), none], [.ref 0, .int (1:Int32), .int (4:Int32), .ref o12], pv_mm s T)) (by decide +kernel) rfl ?_
            refine pv_e_gr (i := 21) (ci := 5) (j := 2) (b := 3) (pc' := 55) (by decide +kernel) rfl rfl rfl ?_
            refine pv_e_gr (i := 109) (ci := 4) (j := 1) (b := 8) (pc' := 58) (by decide +kernel) rfl rfl rfl ?_
            refine pv_e_gc (i := 112) (ci := 1) (j := 3) (pc' := 61) (by decide +kernel) (by decide) rfl rfl rfl ?_
            refine pv_e_bk (ps := [(61, .ishl, 1)]) (t' := (0, 0, 62, [some (.ref 0), some (.int x1), some (.int x2), some (.int x3), none], [.int ((1:Int32) <<< ((s 8 3) &&& 31)), .int (4:Int32), .ref o12], pv_mm s T)) (by decide +kernel) rfl ?_
            obtain ⟨q16, e15, h⟩ := Option.bind_eq_some_iff.mp h
            refine pv_e_csi (d := d + 13) (i := 249) (z := 107) (np := 3) (ml := 4) (As := [.ref o12, .int (4:Int32), .int ((1:Int32) <<< ((s 8 3) &&& 31))]) (rs := []) (pc' := 65) (by decide +kernel) rfl rfl rfl (Nat.le_of_ble_eq_true rfl) (Nat.le_of_ble_eq_true rfl) rfl (ee107 (d + 13) o12 (4:Int32) ((1:Int32) <<< ((s 8 3) &&& 31)) g14 e15) ?_
            refine pv_e_bk (ps := [(65, .istore 4, 2), (67, .iload 4, 2)]) (t' := (0, 0, 69, [some (.ref 0), some (.int x1), some (.int x2), some (.int x3), some (.int q16)], [.int q16], pv_mm s T)) (by decide +kernel) rfl ?_
            refine pv_e_ifeq (off := 10) (b := 79) (pc' := 72) (by decide +kernel) (by decide +kernel) rfl (fun c17 => ?_) (fun c17 => ?_)
            · rw [if_pos c17] at h
              refine pv_e_bk (ps := [(79, .aload_n 0, 1)]) (t' := (0, 0, 80, [some (.ref 0), some (.int x1), some (.int x2), some (.int x3), some (.int q16)], [.ref 0], pv_mm s T)) (by decide +kernel) rfl ?_
              refine pv_e_gr (i := 11) (ci := 5) (j := 0) (b := 1) (pc' := 83) (by decide +kernel) rfl rfl rfl ?_
              refine pv_e_bk (ps := [(83, .iload_n 2, 1)]) (t' := (0, 0, 84, [some (.ref 0), some (.int x1), some (.int x2), some (.int x3), some (.int q16)], [.int x2, .ref 1], pv_mm s T)) (by decide +kernel) rfl ?_
              obtain ⟨o18, e19, h⟩ := Option.bind_eq_some_iff.mp h
              have g20 := ra_rows e19
              refine pv_e_ra (zz := 6) (pc' := 85) (by decide +kernel) rfl (by decide) e19 rfl ?_
              refine pv_e_bk (ps := [(85, .iload_n 3, 1)]) (t' := (0, 0, 86, [some (.ref 0), some (.int x1), some (.int x2), some (.int x3), some (.int q16)], [.int x3, .ref o18], pv_mm s T)) (by decide +kernel) rfl ?_
              obtain ⟨q22, e21, h⟩ := Option.bind_eq_some_iff.mp h
              refine pv_e_cvi (d := d + 13) (i := 276) (z := 27) (np := 1) (ml := 2) (ci := 2) (As := [.int x3]) (rs := []) (pc' := 89) (by decide +kernel) (rw_ g20).1 rfl rfl rfl (Nat.le_of_ble_eq_true rfl) (Nat.le_of_ble_eq_true rfl) rfl (ee27 (d + 13) o18 x3 g20 e21) ?_
              refine pv_e_ifne (off := 5) (b := 94) (pc' := 92) (by decide +kernel) (by decide +kernel) rfl (fun c23 => ?_) (fun c23 => ?_)
              · rw [if_pos c23] at h
                refine pv_e_bk (ps := [(92, .iconst (-1), 1)]) (t' := (0, 0, 93, [some (.ref 0), some (.int x1), some (.int x2), some (.int x3), some (.int q16)], [.int (-1:Int32)], pv_mm s T)) (by decide +kernel) rfl ?_
                obtain rfl := Option.some.inj h
                cases hr
                exact pv_e_ri (by decide +kernel)
              · rw [if_neg c23] at h
                refine pv_e_bk (ps := [(94, .aload_n 0, 1)]) (t' := (0, 0, 95, [some (.ref 0), some (.int x1), some (.int x2), some (.int x3), some (.int q16)], [.ref 0], pv_mm s T)) (by decide +kernel) rfl ?_
                refine pv_e_gr (i := 35) (ci := 5) (j := 4) (b := 40) (pc' := 98) (by decide +kernel) rfl rfl rfl ?_
                refine pv_e_bk (ps := [(98, .aload_n 0, 1)]) (t' := (0, 0, 99, [some (.ref 0), some (.int x1), some (.int x2), some (.int x3), some (.int q16)], [.ref 0, .ref 40], pv_mm s T)) (by decide +kernel) rfl ?_
                refine pv_e_gr (i := 21) (ci := 5) (j := 2) (b := 3) (pc' := 102) (by decide +kernel) rfl rfl rfl ?_
                refine pv_e_gr (i := 109) (ci := 4) (j := 1) (b := 8) (pc' := 105) (by decide +kernel) rfl rfl rfl ?_
                refine pv_e_bk (ps := [(105, .aload_n 0, 1)]) (t' := (0, 0, 106, [some (.ref 0), some (.int x1), some (.int x2), some (.int x3), some (.int q16)], [.ref 0, .ref 8, .ref 40], pv_mm s T)) (by decide +kernel) rfl ?_
                refine pv_e_gc (i := 43) (ci := 5) (j := 6) (pc' := 109) (by decide +kernel) (by decide) rfl rfl rfl ?_
                obtain ⟨s26, e24, h⟩ := Option.bind_eq_some_iff.mp h
                refine pv_e_cvf (d := d + 13) (i := 204) (z := 33) (np := 2) (ml := 4) (ci := 3) (As := [.ref 8, .int (s 0 6)]) (rs := []) (pc' := 112) (by decide +kernel) rfl rfl rfl rfl (Nat.le_of_ble_eq_true rfl) (Nat.le_of_ble_eq_true rfl) rfl (ee33 (d + 11) 8 (s 0 6) (by decide) e24) ?_
                refine pv_e_bk (ps := [(112, .pop, 1), (113, .aload_n 0, 1)]) (t' := (0, 0, 114, [some (.ref 0), some (.int x1), some (.int x2), some (.int x3), some (.int q16)], [.ref 0], pv_mm s26 T)) (by decide +kernel) rfl ?_
                refine pv_e_gr (i := 35) (ci := 5) (j := 4) (b := 40) (pc' := 117) (by decide +kernel) rfl rfl rfl ?_
                refine pv_e_bk (ps := [(117, .iload_n 1, 1), (118, .aload_n 0, 1)]) (t' := (0, 0, 119, [some (.ref 0), some (.int x1), some (.int x2), some (.int x3), some (.int q16)], [.ref 0, .int x1, .ref 40], pv_mm s26 T)) (by decide +kernel) rfl ?_
                refine pv_e_gr (i := 11) (ci := 5) (j := 0) (b := 1) (pc' := 122) (by decide +kernel) rfl rfl rfl ?_
                refine pv_e_bk (ps := [(122, .iload_n 2, 1)]) (t' := (0, 0, 123, [some (.ref 0), some (.int x1), some (.int x2), some (.int x3), some (.int q16)], [.int x2, .ref 1, .int x1, .ref 40], pv_mm s26 T)) (by decide +kernel) rfl ?_
                obtain ⟨o27, e28, h⟩ := Option.bind_eq_some_iff.mp h
                have g29 := ra_rows e28
                refine pv_e_ra (zz := 6) (pc' := 124) (by decide +kernel) rfl (by decide) e28 rfl ?_
                refine pv_e_bk (ps := [(124, .iconst 0, 1)]) (t' := (0, 0, 125, [some (.ref 0), some (.int x1), some (.int x2), some (.int x3), some (.int q16)], [.int (0:Int32), .ref o27, .int x1, .ref 40], pv_mm s26 T)) (by decide +kernel) rfl ?_
                obtain ⟨s31, e30, h⟩ := Option.bind_eq_some_iff.mp h
                refine pv_e_cvv (d := d + 13) (i := 266) (z := 39) (np := 3) (ml := 6) (ci := 3) (As := [.int x1, .ref o27, .int (0:Int32)]) (rs := []) (pc' := 128) (by decide +kernel) rfl rfl rfl rfl (Nat.le_of_ble_eq_true rfl) (Nat.le_of_ble_eq_true rfl) rfl (ee39 (d + 0) 8 x1 o27 (0:Int32) g29 e30) ?_
                refine pv_e_bk (ps := [(128, .aload_n 0, 1)]) (t' := (0, 0, 129, [some (.ref 0), some (.int x1), some (.int x2), some (.int x3), some (.int q16)], [.ref 0], pv_mm s31 T)) (by decide +kernel) rfl ?_
                refine pv_e_gr (i := 35) (ci := 5) (j := 4) (b := 40) (pc' := 132) (by decide +kernel) rfl rfl rfl ?_
                refine pv_e_gr (i := 279) (ci := 3) (j := 3) (b := 44) (pc' := 135) (by decide +kernel) rfl rfl rfl ?_
                refine pv_e_bk (ps := [(135, .iload_n 3, 1)]) (t' := (0, 0, 136, [some (.ref 0), some (.int x1), some (.int x2), some (.int x3), some (.int q16)], [.int x3, .ref 44], pv_mm s31 T)) (by decide +kernel) rfl ?_
                obtain ⟨q32, e33, h⟩ := Option.bind_eq_some_iff.mp h
                refine pv_e_rc (pc' := 137) (by decide +kernel) (by decide) rfl e33 rfl ?_
                obtain rfl := Option.some.inj h
                cases hr
                exact pv_e_ri (by decide +kernel)
            · rw [if_neg c17] at h
              refine pv_e_bk (ps := [(72, .aload_n 0, 1), (73, .iload 4, 2)]) (t' := (0, 0, 75, [some (.ref 0), some (.int x1), some (.int x2), some (.int x3), some (.int q16)], [.int q16, .ref 0], pv_mm s T)) (by decide +kernel) rfl ?_
              obtain ⟨⟨q35, s36⟩, e34, h⟩ := Option.bind_eq_some_iff.mp h
              dsimp only at h
              refine pv_e_cvi (d := d + 13) (i := 63) (z := 104) (np := 1) (ml := 2) (ci := 5) (As := [.int q16]) (rs := []) (pc' := 78) (by decide +kernel) rfl rfl rfl rfl (Nat.le_of_ble_eq_true rfl) (Nat.le_of_ble_eq_true rfl) rfl (ee104 (d + 13) q16 e34) ?_
              obtain rfl := Option.some.inj h
              cases hr
              exact pv_e_ri (by decide +kernel)
        · rw [if_neg c8] at h
          refine pv_e_bk (ps := [(24, .iconst (-1), 1)]) (t' := (0, 0, 25, [some (.ref 0), some (.int x1), some (.int x2), some (.int x3), none], [.int (-1:Int32)], pv_mm s T)) (by decide +kernel) rfl ?_
          obtain rfl := Option.some.inj h
          cases hr
          exact pv_e_ri (by decide +kernel)
def f89_crowd (x1 : Int32) (s : pv_F) : Option (Int32 × pv_F) :=
  (f100_isText x1).bind fun q2 =>
  if q2 = 0 then
    some ((-1:Int32), s)
  else
    (pv_ra 2 4 x1).bind fun o4 =>
    (f106_nameFinding o4 s).bind fun q8 =>
    if q8 = 0 then
      (pv_ra 2 4 x1).bind fun o10 =>
      (f30_spelling o10 s).bind fun q14 =>
      (f13_named 8 q14 s).bind fun q16 =>
      (pv_pf s 0 8 q16).bind fun s17 =>
      (f14_beginning 8 q14 s17).bind fun q20 =>
      some (q20, s17)
    else
      (f104_find q8 s).bind fun (q22, s23) =>
      some (q22, s23)
theorem ee89 {xs : Nat → Int32} {L : Nat} (d : Nat) (x1 : Int32) {s : pv_F} {T : pv_T} {q : Int32 × pv_F}  (h : f89_crowd x1 s = some q) : pv_Ev xs L (d + 3) 89 (0, 0, 0, [some (.ref 0), some (.int x1), none, none], [], pv_mm s T) (some (.int q.1), pv_mm q.2 T) := by
  generalize hr : ((some (.int q.1), pv_mm q.2 T) : Option Value × pv_M) = r
  unfold f89_crowd at h
  refine pv_e_bk (ps := [(0, .iload_n 1, 1)]) (t' := (0, 0, 1, [some (.ref 0), some (.int x1), none, none], [.int x1], pv_mm s T)) (by decide +kernel) rfl ?_
  obtain ⟨q2, e1, h⟩ := Option.bind_eq_some_iff.mp h
  refine pv_e_csi (d := d + 2) (i := 99) (z := 100) (np := 1) (ml := 1) (As := [.int x1]) (rs := []) (pc' := 4) (by decide +kernel) rfl rfl rfl (Nat.le_of_ble_eq_true rfl) (Nat.le_of_ble_eq_true rfl) rfl (ee100 (d + 2) x1 e1) ?_
  refine pv_e_ifne (off := 5) (b := 9) (pc' := 7) (by decide +kernel) (by decide +kernel) rfl (fun c3 => ?_) (fun c3 => ?_)
  · rw [if_pos c3] at h
    refine pv_e_bk (ps := [(7, .iconst (-1), 1)]) (t' := (0, 0, 8, [some (.ref 0), some (.int x1), none, none], [.int (-1:Int32)], pv_mm s T)) (by decide +kernel) rfl ?_
    obtain rfl := Option.some.inj h
    cases hr
    exact pv_e_ri (by decide +kernel)
  · rw [if_neg c3] at h
    refine pv_e_bk (ps := [(9, .aload_n 0, 1)]) (t' := (0, 0, 10, [some (.ref 0), some (.int x1), none, none], [.ref 0], pv_mm s T)) (by decide +kernel) rfl ?_
    refine pv_e_gr (i := 15) (ci := 5) (j := 1) (b := 2) (pc' := 13) (by decide +kernel) rfl rfl rfl ?_
    refine pv_e_bk (ps := [(13, .iload_n 1, 1)]) (t' := (0, 0, 14, [some (.ref 0), some (.int x1), none, none], [.int x1, .ref 2], pv_mm s T)) (by decide +kernel) rfl ?_
    obtain ⟨o4, e5, h⟩ := Option.bind_eq_some_iff.mp h
    have g6 := ra_texts e5
    refine pv_e_ra (zz := 4) (pc' := 15) (by decide +kernel) rfl (by decide) e5 rfl ?_
    obtain ⟨q8, e7, h⟩ := Option.bind_eq_some_iff.mp h
    refine pv_e_csi (d := d + 2) (i := 221) (z := 106) (np := 1) (ml := 2) (As := [.ref o4]) (rs := []) (pc' := 18) (by decide +kernel) rfl rfl rfl (Nat.le_of_ble_eq_true rfl) (Nat.le_of_ble_eq_true rfl) rfl (ee106 (d + 1) o4 g6 e7) ?_
    refine pv_e_bk (ps := [(18, .istore_n 2, 1), (19, .iload_n 2, 1)]) (t' := (0, 0, 20, [some (.ref 0), some (.int x1), some (.int q8), none], [.int q8], pv_mm s T)) (by decide +kernel) rfl ?_
    refine pv_e_ifeq (off := 9) (b := 29) (pc' := 23) (by decide +kernel) (by decide +kernel) rfl (fun c9 => ?_) (fun c9 => ?_)
    · rw [if_pos c9] at h
      refine pv_e_bk (ps := [(29, .aload_n 0, 1)]) (t' := (0, 0, 30, [some (.ref 0), some (.int x1), some (.int q8), none], [.ref 0], pv_mm s T)) (by decide +kernel) rfl ?_
      refine pv_e_gr (i := 15) (ci := 5) (j := 1) (b := 2) (pc' := 33) (by decide +kernel) rfl rfl rfl ?_
      refine pv_e_bk (ps := [(33, .iload_n 1, 1)]) (t' := (0, 0, 34, [some (.ref 0), some (.int x1), some (.int q8), none], [.int x1, .ref 2], pv_mm s T)) (by decide +kernel) rfl ?_
      obtain ⟨o10, e11, h⟩ := Option.bind_eq_some_iff.mp h
      have g12 := ra_texts e11
      refine pv_e_ra (zz := 4) (pc' := 35) (by decide +kernel) rfl (by decide) e11 rfl ?_
      obtain ⟨q14, e13, h⟩ := Option.bind_eq_some_iff.mp h
      refine pv_e_cvi (d := d + 2) (i := 224) (z := 30) (np := 0) (ml := 3) (ci := 2) (As := []) (rs := []) (pc' := 38) (by decide +kernel) (rw_ g12).1 rfl rfl rfl (Nat.le_of_ble_eq_true rfl) (Nat.le_of_ble_eq_true rfl) rfl (ee30 (d + 0) o10 g12 e13) ?_
      refine pv_e_bk (ps := [(38, .istore_n 3, 1), (39, .aload_n 0, 1), (40, .aload_n 0, 1)]) (t' := (0, 0, 41, [some (.ref 0), some (.int x1), some (.int q8), some (.int q14)], [.ref 0, .ref 0], pv_mm s T)) (by decide +kernel) rfl ?_
      refine pv_e_gr (i := 21) (ci := 5) (j := 2) (b := 3) (pc' := 44) (by decide +kernel) rfl rfl rfl ?_
      refine pv_e_gr (i := 109) (ci := 4) (j := 1) (b := 8) (pc' := 47) (by decide +kernel) rfl rfl rfl ?_
      refine pv_e_bk (ps := [(47, .iload_n 3, 1)]) (t' := (0, 0, 48, [some (.ref 0), some (.int x1), some (.int q8), some (.int q14)], [.int q14, .ref 8, .ref 0], pv_mm s T)) (by decide +kernel) rfl ?_
      obtain ⟨q16, e15, h⟩ := Option.bind_eq_some_iff.mp h
      refine pv_e_cvi (d := d + 2) (i := 147) (z := 13) (np := 1) (ml := 4) (ci := 1) (As := [.int q14]) (rs := [.ref 0]) (pc' := 51) (by decide +kernel) rfl rfl rfl rfl (Nat.le_of_ble_eq_true rfl) (Nat.le_of_ble_eq_true rfl) rfl (ee13 (d + 1) 8 q14 (by decide) e15) ?_
      obtain ⟨s17, e18, h⟩ := Option.bind_eq_some_iff.mp h
      refine pv_e_pcs (i := 50) (ci := 5) (j := 8) (pc' := 54) (by decide +kernel) rfl rfl (by decide) rfl rfl e18 rfl ?_
      refine pv_e_bk (ps := [(54, .aload_n 0, 1)]) (t' := (0, 0, 55, [some (.ref 0), some (.int x1), some (.int q8), some (.int q14)], [.ref 0], pv_mm s17 T)) (by decide +kernel) rfl ?_
      refine pv_e_gr (i := 21) (ci := 5) (j := 2) (b := 3) (pc' := 58) (by decide +kernel) rfl rfl rfl ?_
      refine pv_e_gr (i := 109) (ci := 4) (j := 1) (b := 8) (pc' := 61) (by decide +kernel) rfl rfl rfl ?_
      refine pv_e_bk (ps := [(61, .iload_n 3, 1)]) (t' := (0, 0, 62, [some (.ref 0), some (.int x1), some (.int q8), some (.int q14)], [.int q14, .ref 8], pv_mm s17 T)) (by decide +kernel) rfl ?_
      obtain ⟨q20, e19, h⟩ := Option.bind_eq_some_iff.mp h
      refine pv_e_cvi (d := d + 2) (i := 282) (z := 14) (np := 1) (ml := 5) (ci := 1) (As := [.int q14]) (rs := []) (pc' := 65) (by decide +kernel) rfl rfl rfl rfl (Nat.le_of_ble_eq_true rfl) (Nat.le_of_ble_eq_true rfl) rfl (ee14 (d + 1) 8 q14 (by decide) e19) ?_
      obtain rfl := Option.some.inj h
      cases hr
      exact pv_e_ri (by decide +kernel)
    · rw [if_neg c9] at h
      refine pv_e_bk (ps := [(23, .aload_n 0, 1), (24, .iload_n 2, 1)]) (t' := (0, 0, 25, [some (.ref 0), some (.int x1), some (.int q8), none], [.int q8, .ref 0], pv_mm s T)) (by decide +kernel) rfl ?_
      obtain ⟨⟨q22, s23⟩, e21, h⟩ := Option.bind_eq_some_iff.mp h
      dsimp only at h
      refine pv_e_cvi (d := d + 2) (i := 63) (z := 104) (np := 1) (ml := 2) (ci := 5) (As := [.int q8]) (rs := []) (pc' := 28) (by decide +kernel) rfl rfl rfl rfl (Nat.le_of_ble_eq_true rfl) (Nat.le_of_ble_eq_true rfl) rfl (ee104 (d + 2) q8 e21) ?_
      obtain rfl := Option.some.inj h
      cases hr
      exact pv_e_ri (by decide +kernel)
def f90_shortest_b1 (v1 : Int32) (v2 : Int32) (s : pv_F) (st : Int32) : Option (Int32 ⊕ (Int32 ⊕ Int32)) := match st with
  | v3 =>
    (f218_size v2).bind fun q10 =>
    if q10 < v3 then
      some (.inr (.inl v3))
    else
      (f220_start v2 v3).bind fun q13 =>
      (f14_beginning 8 q13 s).bind fun q15 =>
      if (q15 &&& (((1:Int32) <<< (v1 &&& 31)) ^^^ (-1:Int32))) = 0 then
        some (.inr (.inr v3))
      else
        some (.inl (v3 + (1:Int32)))
def f90_shortest_b1_H (xs : Nat → Int32) (L d : Nat) (r : Option Value × pv_M) (T : pv_T) (v1 : Int32) (v2 : Int32) (s : pv_F) (st : Int32) : Prop := match st with
  | v3 => pv_Ev xs L (d + 2) 90 (0, 0, 42, [some (.ref 0), some (.int v1), some (.int v2), some (.int v3)], [], pv_mm s T) r
def f90_shortest_b1_X (xs : Nat → Int32) (L d : Nat) (r : Option Value × pv_M) (T : pv_T) (v1 : Int32) (v2 : Int32) (s : pv_F) (st : Int32) : Prop := match st with
  | v3 => ∀ z3 : Option Value, pv_Ev xs L (d + 2) 90 (0, 0, 82, [some (.ref 0), some (.int v1), some (.int v2), z3], [], pv_mm s T) r
def f90_shortest (x1 : Int32) (s : pv_F) : Option (Int32) :=
  (f102_isPerson x1 s).bind fun q2 =>
  if q2 = 0 then
    some (-1:Int32)
  else
    (f9_lives 8 x1 s).bind fun q5 =>
    if q5 = 0 then
      some (-4:Int32)
    else
      (pv_rd s 10 7 x1).bind fun q7 =>
      (pv_lp (f90_shortest_b1 x1 q7 s) 20000 (1:Int32)).bind fun o20 => match o20 with
        | .inl w17 =>
          some (-9:Int32)
        | .inr q => some q
theorem f90_shortest_b1_ok {xs : Nat → Int32} {L d : Nat} {r : Option Value × pv_M} {T : pv_T} {v1 : Int32} {v2 : Int32} {s : pv_F} (st : Int32) (o : Int32 ⊕ (Int32 ⊕ Int32)) (h : f90_shortest_b1 v1 v2 s st = some o) (hK : pv_Kp (f90_shortest_b1_H xs L d r T v1 v2 s) (f90_shortest_b1_X xs L d r T v1 v2 s) (fun q => (some (.int q), pv_mm s T) = r) o) : f90_shortest_b1_H xs L d r T v1 v2 s st := by
  obtain ⟨v3, rfl⟩ : ∃ z, z = st := ⟨st, rfl⟩
  show pv_Ev xs L (d + 2) 90 (0, 0, 42, [some (.ref 0), some (.int v1), some (.int v2), some (.int v3)], [], pv_mm s T) r
  unfold f90_shortest_b1 at h
  dsimp only at h
  refine pv_e_bk (ps := [(42, .iload_n 3, 1), (43, .iload_n 2, 1)]) (t' := (0, 0, 44, [some (.ref 0), some (.int v1), some (.int v2), some (.int v3)], [.int v2, .int v3], pv_mm s T)) (by decide +kernel) rfl ?_
  obtain ⟨q10, e9, h⟩ := Option.bind_eq_some_iff.mp h
  refine pv_e_csi (d := d + 1) (i := 123) (z := 218) (np := 1) (ml := 2) (As := [.int v2]) (rs := [.int v3]) (pc' := 47) (by decide +kernel) rfl rfl rfl (Nat.le_of_ble_eq_true rfl) (Nat.le_of_ble_eq_true rfl) rfl (ee218 (d + 1) v2 e9) ?_
  refine pv_e_icmpgt (off := 35) (b := 82) (pc' := 50) (by decide +kernel) (by decide +kernel) rfl (fun c11 => ?_) (fun c11 => ?_)
  · rw [if_pos c11] at h
    obtain rfl := Option.some.inj h
    exact hK _
  · rw [if_neg c11] at h
    refine pv_e_bk (ps := [(50, .aload_n 0, 1)]) (t' := (0, 0, 51, [some (.ref 0), some (.int v1), some (.int v2), some (.int v3)], [.ref 0], pv_mm s T)) (by decide +kernel) rfl ?_
    refine pv_e_gr (i := 21) (ci := 5) (j := 2) (b := 3) (pc' := 54) (by decide +kernel) rfl rfl rfl ?_
    refine pv_e_gr (i := 109) (ci := 4) (j := 1) (b := 8) (pc' := 57) (by decide +kernel) rfl rfl rfl ?_
    refine pv_e_bk (ps := [(57, .iload_n 2, 1), (58, .iload_n 3, 1)]) (t' := (0, 0, 59, [some (.ref 0), some (.int v1), some (.int v2), some (.int v3)], [.int v3, .int v2, .ref 8], pv_mm s T)) (by decide +kernel) rfl ?_
    obtain ⟨q13, e12, h⟩ := Option.bind_eq_some_iff.mp h
    refine pv_e_csi (d := d + 1) (i := 285) (z := 220) (np := 2) (ml := 3) (As := [.int v2, .int v3]) (rs := [.ref 8]) (pc' := 62) (by decide +kernel) rfl rfl rfl (Nat.le_of_ble_eq_true rfl) (Nat.le_of_ble_eq_true rfl) rfl (ee220 (d + 1) v2 v3 e12) ?_
    obtain ⟨q15, e14, h⟩ := Option.bind_eq_some_iff.mp h
    refine pv_e_cvi (d := d + 1) (i := 282) (z := 14) (np := 1) (ml := 5) (ci := 1) (As := [.int q13]) (rs := []) (pc' := 65) (by decide +kernel) rfl rfl rfl rfl (Nat.le_of_ble_eq_true rfl) (Nat.le_of_ble_eq_true rfl) rfl (ee14 (d + 0) 8 q13 (by decide) e14) ?_
    refine pv_e_bk (ps := [(65, .iconst 1, 1), (66, .iload_n 1, 1), (67, .ishl, 1), (68, .iconst (-1), 1), (69, .ixor, 1), (70, .iand, 1)]) (t' := (0, 0, 71, [some (.ref 0), some (.int v1), some (.int v2), some (.int v3)], [.int (q15 &&& (((1:Int32) <<< (v1 &&& 31)) ^^^ (-1:Int32)))], pv_mm s T)) (by decide +kernel) rfl ?_
    refine pv_e_ifne (off := 5) (b := 76) (pc' := 74) (by decide +kernel) (by decide +kernel) rfl (fun c16 => ?_) (fun c16 => ?_)
    · rw [if_pos c16] at h
      refine pv_e_bk (ps := [(74, .iload_n 3, 1)]) (t' := (0, 0, 75, [some (.ref 0), some (.int v1), some (.int v2), some (.int v3)], [.int v3], pv_mm s T)) (by decide +kernel) rfl ?_
      obtain rfl := Option.some.inj h
      cases hK
      exact pv_e_ri (by decide +kernel)
    · rw [if_neg c16] at h
      refine pv_e_bk (ps := [(76, .iinc 3 1, 3), (79, .goto (-37), 3)]) (t' := (0, 0, 42, [some (.ref 0), some (.int v1), some (.int v2), some (.int (v3 + (1:Int32)))], [], pv_mm s T)) (by decide +kernel) rfl ?_
      obtain rfl := Option.some.inj h
      exact hK
theorem ee90 {xs : Nat → Int32} {L : Nat} (d : Nat) (x1 : Int32) {s : pv_F} {T : pv_T} {q : Int32}  (h : f90_shortest x1 s = some q) : pv_Ev xs L (d + 2) 90 (0, 0, 0, [some (.ref 0), some (.int x1), none, none], [], pv_mm s T) (some (.int q), pv_mm s T) := by
  generalize hr : ((some (.int q), pv_mm s T) : Option Value × pv_M) = r
  unfold f90_shortest at h
  refine pv_e_bk (ps := [(0, .aload_n 0, 1), (1, .iload_n 1, 1)]) (t' := (0, 0, 2, [some (.ref 0), some (.int x1), none, none], [.int x1, .ref 0], pv_mm s T)) (by decide +kernel) rfl ?_
  obtain ⟨q2, e1, h⟩ := Option.bind_eq_some_iff.mp h
  refine pv_e_cvi (d := d + 1) (i := 113) (z := 102) (np := 1) (ml := 2) (ci := 5) (As := [.int x1]) (rs := []) (pc' := 5) (by decide +kernel) rfl rfl rfl rfl (Nat.le_of_ble_eq_true rfl) (Nat.le_of_ble_eq_true rfl) rfl (ee102 (d + 1) x1 e1) ?_
  refine pv_e_ifne (off := 5) (b := 10) (pc' := 8) (by decide +kernel) (by decide +kernel) rfl (fun c3 => ?_) (fun c3 => ?_)
  · rw [if_pos c3] at h
    refine pv_e_bk (ps := [(8, .iconst (-1), 1)]) (t' := (0, 0, 9, [some (.ref 0), some (.int x1), none, none], [.int (-1:Int32)], pv_mm s T)) (by decide +kernel) rfl ?_
    obtain rfl := Option.some.inj h
    cases hr
    exact pv_e_ri (by decide +kernel)
  · rw [if_neg c3] at h
    refine pv_e_bk (ps := [(10, .aload_n 0, 1)]) (t' := (0, 0, 11, [some (.ref 0), some (.int x1), none, none], [.ref 0], pv_mm s T)) (by decide +kernel) rfl ?_
    refine pv_e_gr (i := 21) (ci := 5) (j := 2) (b := 3) (pc' := 14) (by decide +kernel) rfl rfl rfl ?_
    refine pv_e_gr (i := 109) (ci := 4) (j := 1) (b := 8) (pc' := 17) (by decide +kernel) rfl rfl rfl ?_
    refine pv_e_bk (ps := [(17, .iload_n 1, 1)]) (t' := (0, 0, 18, [some (.ref 0), some (.int x1), none, none], [.int x1, .ref 8], pv_mm s T)) (by decide +kernel) rfl ?_
    obtain ⟨q5, e4, h⟩ := Option.bind_eq_some_iff.mp h
    refine pv_e_cvi (d := d + 1) (i := 198) (z := 9) (np := 1) (ml := 2) (ci := 1) (As := [.int x1]) (rs := []) (pc' := 21) (by decide +kernel) rfl rfl rfl rfl (Nat.le_of_ble_eq_true rfl) (Nat.le_of_ble_eq_true rfl) rfl (ee9 (d + 1) 8 x1 (by decide) e4) ?_
    refine pv_e_ifne (off := 6) (b := 27) (pc' := 24) (by decide +kernel) (by decide +kernel) rfl (fun c6 => ?_) (fun c6 => ?_)
    · rw [if_pos c6] at h
      refine pv_e_bk (ps := [(24, .bipush (-4), 2)]) (t' := (0, 0, 26, [some (.ref 0), some (.int x1), none, none], [.int (-4:Int32)], pv_mm s T)) (by decide +kernel) rfl ?_
      obtain rfl := Option.some.inj h
      cases hr
      exact pv_e_ri (by decide +kernel)
    · rw [if_neg c6] at h
      refine pv_e_bk (ps := [(27, .aload_n 0, 1)]) (t' := (0, 0, 28, [some (.ref 0), some (.int x1), none, none], [.ref 0], pv_mm s T)) (by decide +kernel) rfl ?_
      refine pv_e_gr (i := 21) (ci := 5) (j := 2) (b := 3) (pc' := 31) (by decide +kernel) rfl rfl rfl ?_
      refine pv_e_gr (i := 109) (ci := 4) (j := 1) (b := 8) (pc' := 34) (by decide +kernel) rfl rfl rfl ?_
      refine pv_e_gr (i := 120) (ci := 1) (j := 1) (b := 10) (pc' := 37) (by decide +kernel) rfl rfl rfl ?_
      refine pv_e_bk (ps := [(37, .iload_n 1, 1)]) (t' := (0, 0, 38, [some (.ref 0), some (.int x1), none, none], [.int x1, .ref 10], pv_mm s T)) (by decide +kernel) rfl ?_
      obtain ⟨q7, e8, h⟩ := Option.bind_eq_some_iff.mp h
      refine pv_e_rc (pc' := 39) (by decide +kernel) (by decide) rfl e8 rfl ?_
      refine pv_e_bk (ps := [(39, .istore_n 2, 1), (40, .iconst 1, 1), (41, .istore_n 3, 1)]) (t' := (0, 0, 42, [some (.ref 0), some (.int x1), some (.int q7), some (.int (1:Int32))], [], pv_mm s T)) (by decide +kernel) rfl ?_
      obtain ⟨o20, e19, h⟩ := Option.bind_eq_some_iff.mp h
      refine pv_lp_ok (H := f90_shortest_b1_H xs L d r T x1 q7 s) (X := f90_shortest_b1_X xs L d r T x1 q7 s) (Z := (fun q => (some (.int q), pv_mm s T) = r)) (f90_shortest_b1_ok (xs := xs) (L := L) (d := d) (r := r) (T := T) (v1 := x1) (v2 := q7) (s := s)) 20000 _ _ e19 ?_
      rcases o20 with w17 | q
      · dsimp only at h ⊢
        show ∀ z3 : Option Value, pv_Ev xs L (d + 2) 90 (0, 0, 82, [some (.ref 0), some (.int x1), some (.int q7), z3], [], pv_mm s T) r
        intro z3
        refine pv_e_bk (ps := [(82, .bipush (-9), 2)]) (t' := (0, 0, 84, [some (.ref 0), some (.int x1), some (.int q7), z3], [.int (-9:Int32)], pv_mm s T)) (by decide +kernel) rfl ?_
        obtain rfl := Option.some.inj h
        cases hr
        exact pv_e_ri (by decide +kernel)
      · dsimp only at h ⊢
        obtain rfl := Option.some.inj h
        exact hr
