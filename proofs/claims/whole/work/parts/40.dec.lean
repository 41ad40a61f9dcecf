-- printed by wip/whole/gen/parts.py: methods as functions over the ints of the memory, and that the pure machine runs so
def f188_orderOn_b1 (rec : Int32 → Int32 → Int32 → pv_T → Option (pv_T)) (v1 : Int32) (v2 : Int32) (v3 : Int32) (st : Int32 × pv_T) : Option ((Int32 × pv_T) ⊕ (Int32 × pv_T)) := match st with
  | (v4, T) =>
    (pv_rd T.1 96 6 v1).bind fun q8 =>
    if q8 ≤ v4 then
      some (.inr (v4, T))
    else
      (f123_rowAt v1 v4 T).bind fun q12 =>
      (f117_has v3 v4).bind fun q14 =>
      ((
        if q14 = 0 then
          some T
        else
          (pv_dv q12 (100:Int32)).bind fun q19 =>
          (pv_rmd q12 (100:Int32)).bind fun q21 =>
          (f152_mayCall q19 q21 T).bind fun q24 =>
          if q24 = 0 then
            some T
          else
            (pv_wm T 113 6 v2 v4).bind fun T26 =>
            (pv_dv q12 (100:Int32)).bind fun q28 =>
            (pv_rmd q12 (100:Int32)).bind fun q30 =>
            (f157_doCall q28 q30 T26).bind fun (q33, T34) =>
            (rec v1 (v2 + (1:Int32)) (v3 &&& (((1:Int32) <<< (v4 &&& 31)) ^^^ (-1:Int32))) T34).bind fun T36 =>
            (f162_copies 112 ((78:Int32) * v2) 105 (0:Int32) T36).bind fun T38 =>
            some T38) : Option (pv_T)).bind fun T15 =>
      some (.inl (v4 + (1:Int32), T15))
def f188_orderOn_b1_H (xs : Nat → Int32) (L d : Nat) (r : Option Value × pv_M) (s : pv_F) (v1 : Int32) (v2 : Int32) (v3 : Int32) (st : Int32 × pv_T) : Prop := match st with
  | (v4, T) => ∀ z5 : Option Value, pv_Ev xs L (d + 6) 188 (0, 0, 35, [some (.ref 94), some (.int v1), some (.int v2), some (.int v3), some (.int v4), z5], [], pv_mm s T) r
def f188_orderOn_b1_X (xs : Nat → Int32) (L d : Nat) (r : Option Value × pv_M) (s : pv_F) (v1 : Int32) (v2 : Int32) (v3 : Int32) (st : Int32 × pv_T) : Prop := match st with
  | (v4, T) => ∀ z4 : Option Value, ∀ z5 : Option Value, pv_Ev xs L (d + 6) 188 (0, 0, 142, [some (.ref 94), some (.int v1), some (.int v2), some (.int v3), z4, z5], [], pv_mm s T) r
def f188_orderOn_s (rec : Int32 → Int32 → Int32 → pv_T → Option (pv_T)) (x1 : Int32) (x2 : Int32) (x3 : Int32) (T : pv_T) : Option (pv_T) :=
  (pv_rd T.1 96 6 x1).bind fun q1 =>
  if x2 = q1 then
    (f187_meetLaid x2 T).bind fun T5 =>
    some T5
  else
    (f162_copies 105 (0:Int32) 112 ((78:Int32) * x2) T).bind fun T7 =>
    (pv_lq (f188_orderOn_b1 rec x1 x2 x3) 20000 ((0:Int32), T7)).bind fun (w39, T40) =>
    some T40
def f188_orderOn : Nat → Int32 → Int32 → Int32 → pv_T → Option (pv_T)
  | 0 => fun _ _ _ _ => none
  | n + 1 => fun x1 x2 x3 T => f188_orderOn_s (f188_orderOn n) x1 x2 x3 T
theorem f188_orderOn_b1_ok {xs : Nat → Int32} {L d : Nat} {r : Option Value × pv_M} {rec : Int32 → Int32 → Int32 → pv_T → Option (pv_T)} {s : pv_F} {v1 : Int32} {v2 : Int32} {v3 : Int32} (hrec : ∀ (x1 : Int32) (x2 : Int32) (x3 : Int32) (T : pv_T) (q : pv_T), rec x1 x2 x3 T = some q → pv_Ev xs L (d + 5) 188 (0, 0, 0, [some (.ref 94), some (.int x1), some (.int x2), some (.int x3), none, none], [], pv_mm s T) (none, pv_mm s q)) (st : Int32 × pv_T) (o : (Int32 × pv_T) ⊕ (Int32 × pv_T)) (h : f188_orderOn_b1 rec v1 v2 v3 st = some o) (hK : pv_Kq (f188_orderOn_b1_H xs L d r s v1 v2 v3) (f188_orderOn_b1_X xs L d r s v1 v2 v3) o) : f188_orderOn_b1_H xs L d r s v1 v2 v3 st := by
  obtain ⟨v4, T⟩ := st
  show ∀ z5 : Option Value, pv_Ev xs L (d + 6) 188 (0, 0, 35, [some (.ref 94), some (.int v1), some (.int v2), some (.int v3), some (.int v4), z5], [], pv_mm s T) r
  intro z5
  unfold f188_orderOn_b1 at h
  dsimp only at h
  refine pv_e_bk (ps := [(35, .iload 4, 2), (37, .aload_n 0, 1)]) (t' := (0, 0, 38, [some (.ref 94), some (.int v1), some (.int v2), some (.int v3), some (.int v4), z5], [.ref 94, .int v4], pv_mm s T)) (by decide +kernel) rfl ?_
  refine pv_e_gr (i := 13) (ci := 6) (j := 3) (b := 96) (pc' := 41) (by decide +kernel) rfl rfl rfl ?_
  refine pv_e_bk (ps := [(41, .iload_n 1, 1)]) (t' := (0, 0, 42, [some (.ref 94), some (.int v1), some (.int v2), some (.int v3), some (.int v4), z5], [.int v1, .ref 96, .int v4], pv_mm s T)) (by decide +kernel) rfl ?_
  obtain ⟨q8, e9, h⟩ := Option.bind_eq_some_iff.mp h
  refine pv_e_rm (pc' := 43) (by decide +kernel) (by decide) rfl e9 rfl ?_
  refine pv_e_icmpge (off := 99) (b := 142) (pc' := 46) (by decide +kernel) (by decide +kernel) rfl (fun c10 => ?_) (fun c10 => ?_)
  · rw [if_pos c10] at h
    obtain rfl := Option.some.inj h
    exact hK _ _
  · rw [if_neg c10] at h
    refine pv_e_bk (ps := [(46, .aload_n 0, 1), (47, .iload_n 1, 1), (48, .iload 4, 2)]) (t' := (0, 0, 50, [some (.ref 94), some (.int v1), some (.int v2), some (.int v3), some (.int v4), z5], [.int v4, .int v1, .ref 94], pv_mm s T)) (by decide +kernel) rfl ?_
    obtain ⟨q12, e11, h⟩ := Option.bind_eq_some_iff.mp h
    refine pv_e_cvi (d := d + 5) (i := 105) (z := 123) (np := 2) (ml := 3) (ci := 6) (As := [.int v1, .int v4]) (rs := []) (pc' := 53) (by decide +kernel) rfl rfl rfl rfl (Nat.le_of_ble_eq_true rfl) (Nat.le_of_ble_eq_true rfl) rfl (ee123 (d + 5) v1 v4 e11) ?_
    refine pv_e_bk (ps := [(53, .istore 5, 2), (55, .iload_n 3, 1), (56, .iload 4, 2)]) (t' := (0, 0, 58, [some (.ref 94), some (.int v1), some (.int v2), some (.int v3), some (.int v4), some (.int q12)], [.int v4, .int v3], pv_mm s T)) (by decide +kernel) rfl ?_
    obtain ⟨q14, e13, h⟩ := Option.bind_eq_some_iff.mp h
    refine pv_e_csi (d := d + 5) (i := 186) (z := 117) (np := 2) (ml := 2) (As := [.int v3, .int v4]) (rs := []) (pc' := 61) (by decide +kernel) rfl rfl rfl (Nat.le_of_ble_eq_true rfl) (Nat.le_of_ble_eq_true rfl) rfl (ee117 (d + 5) v3 v4 e13) ?_
    obtain ⟨T15, hv16, h⟩ := Option.bind_eq_some_iff.mp h
    have hJ17 : pv_Ev xs L (d + 6) 188 (0, 0, 136, [some (.ref 94), some (.int v1), some (.int v2), some (.int v3), some (.int v4), some (.int q12)], [], pv_mm s T15) r := by
      refine pv_e_bk (ps := [(136, .iinc 4 1, 3), (139, .goto (-104), 3)]) (t' := (0, 0, 35, [some (.ref 94), some (.int v1), some (.int v2), some (.int v3), some (.int (v4 + (1:Int32))), some (.int q12)], [], pv_mm s T15)) (by decide +kernel) rfl ?_
      obtain rfl := Option.some.inj h
      exact hK _
    clear h
    have h := hv16
    clear hv16
    refine pv_e_ifeq (off := 75) (b := 136) (pc' := 64) (by decide +kernel) (by decide +kernel) rfl (fun c18 => ?_) (fun c18 => ?_)
    · rw [if_pos c18] at h
      obtain rfl := Option.some.inj h
      exact hJ17
    · rw [if_neg c18] at h
      refine pv_e_bk (ps := [(64, .aload_n 0, 1), (65, .iload 5, 2), (67, .bipush 100, 2)]) (t' := (0, 0, 69, [some (.ref 94), some (.int v1), some (.int v2), some (.int v3), some (.int v4), some (.int q12)], [.int (100:Int32), .int q12, .ref 94], pv_mm s T)) (by decide +kernel) rfl ?_
      obtain ⟨q19, e20, h⟩ := Option.bind_eq_some_iff.mp h
      refine pv_e_dv (pc' := 70) (by decide +kernel) e20 rfl ?_
      refine pv_e_bk (ps := [(70, .iload 5, 2), (72, .bipush 100, 2)]) (t' := (0, 0, 74, [some (.ref 94), some (.int v1), some (.int v2), some (.int v3), some (.int v4), some (.int q12)], [.int (100:Int32), .int q12, .int q19, .ref 94], pv_mm s T)) (by decide +kernel) rfl ?_
      obtain ⟨q21, e22, h⟩ := Option.bind_eq_some_iff.mp h
      refine pv_e_rm_ (pc' := 75) (by decide +kernel) e22 rfl ?_
      obtain ⟨q24, e23, h⟩ := Option.bind_eq_some_iff.mp h
      refine pv_e_cvi (d := d + 5) (i := 161) (z := 152) (np := 2) (ml := 3) (ci := 6) (As := [.int q19, .int q21]) (rs := []) (pc' := 78) (by decide +kernel) rfl rfl rfl rfl (Nat.le_of_ble_eq_true rfl) (Nat.le_of_ble_eq_true rfl) rfl (ee152 (d + 4) q19 q21 e23) ?_
      refine pv_e_ifeq (off := 58) (b := 136) (pc' := 81) (by decide +kernel) (by decide +kernel) rfl (fun c25 => ?_) (fun c25 => ?_)
      · rw [if_pos c25] at h
        obtain rfl := Option.some.inj h
        exact hJ17
      · rw [if_neg c25] at h
        refine pv_e_bk (ps := [(81, .aload_n 0, 1)]) (t' := (0, 0, 82, [some (.ref 94), some (.int v1), some (.int v2), some (.int v3), some (.int v4), some (.int q12)], [.ref 94], pv_mm s T)) (by decide +kernel) rfl ?_
        refine pv_e_gr (i := 68) (ci := 6) (j := 28) (b := 113) (pc' := 85) (by decide +kernel) rfl rfl rfl ?_
        refine pv_e_bk (ps := [(85, .iload_n 2, 1), (86, .iload 4, 2)]) (t' := (0, 0, 88, [some (.ref 94), some (.int v1), some (.int v2), some (.int v3), some (.int v4), some (.int q12)], [.int v4, .int v2, .ref 113], pv_mm s T)) (by decide +kernel) rfl ?_
        obtain ⟨T26, e27, h⟩ := Option.bind_eq_some_iff.mp h
        refine pv_e_wm (pc' := 89) (by decide +kernel) (by decide) rfl e27 rfl ?_
        refine pv_e_bk (ps := [(89, .aload_n 0, 1), (90, .iload 5, 2), (92, .bipush 100, 2)]) (t' := (0, 0, 94, [some (.ref 94), some (.int v1), some (.int v2), some (.int v3), some (.int v4), some (.int q12)], [.int (100:Int32), .int q12, .ref 94], pv_mm s T26)) (by decide +kernel) rfl ?_
        obtain ⟨q28, e29, h⟩ := Option.bind_eq_some_iff.mp h
        refine pv_e_dv (pc' := 95) (by decide +kernel) e29 rfl ?_
        refine pv_e_bk (ps := [(95, .iload 5, 2), (97, .bipush 100, 2)]) (t' := (0, 0, 99, [some (.ref 94), some (.int v1), some (.int v2), some (.int v3), some (.int v4), some (.int q12)], [.int (100:Int32), .int q12, .int q28, .ref 94], pv_mm s T26)) (by decide +kernel) rfl ?_
        obtain ⟨q30, e31, h⟩ := Option.bind_eq_some_iff.mp h
        refine pv_e_rm_ (pc' := 100) (by decide +kernel) e31 rfl ?_
        obtain ⟨⟨q33, T34⟩, e32, h⟩ := Option.bind_eq_some_iff.mp h
        dsimp only at h
        refine pv_e_cvi (d := d + 5) (i := 199) (z := 157) (np := 2) (ml := 5) (ci := 6) (As := [.int q28, .int q30]) (rs := []) (pc' := 103) (by decide +kernel) rfl rfl rfl rfl (Nat.le_of_ble_eq_true rfl) (Nat.le_of_ble_eq_true rfl) rfl (ee157 (d + 1) q28 q30 e32) ?_
        refine pv_e_bk (ps := [(103, .pop, 1), (104, .aload_n 0, 1), (105, .iload_n 1, 1), (106, .iload_n 2, 1), (107, .iconst 1, 1), (108, .iadd, 1), (109, .iload_n 3, 1), (110, .iconst 1, 1), (111, .iload 4, 2), (113, .ishl, 1), (114, .iconst (-1), 1), (115, .ixor, 1), (116, .iand, 1)]) (t' := (0, 0, 117, [some (.ref 94), some (.int v1), some (.int v2), some (.int v3), some (.int v4), some (.int q12)], [.int (v3 &&& (((1:Int32) <<< (v4 &&& 31)) ^^^ (-1:Int32))), .int (v2 + (1:Int32)), .int v1, .ref 94], pv_mm s T34)) (by decide +kernel) rfl ?_
        obtain ⟨T36, e35, h⟩ := Option.bind_eq_some_iff.mp h
        refine pv_e_cvv (d := d + 5) (i := 258) (z := 188) (np := 3) (ml := 6) (ci := 6) (As := [.int v1, .int (v2 + (1:Int32)), .int (v3 &&& (((1:Int32) <<< (v4 &&& 31)) ^^^ (-1:Int32)))]) (rs := []) (pc' := 120) (by decide +kernel) rfl rfl rfl rfl (Nat.le_of_ble_eq_true rfl) (Nat.le_of_ble_eq_true rfl) rfl (hrec v1 (v2 + (1:Int32)) (v3 &&& (((1:Int32) <<< (v4 &&& 31)) ^^^ (-1:Int32))) T34 _ e35) ?_
        refine pv_e_bk (ps := [(120, .aload_n 0, 1)]) (t' := (0, 0, 121, [some (.ref 94), some (.int v1), some (.int v2), some (.int v3), some (.int v4), some (.int q12)], [.ref 94], pv_mm s T36)) (by decide +kernel) rfl ?_
        refine pv_e_gr (i := 65) (ci := 6) (j := 27) (b := 112) (pc' := 124) (by decide +kernel) rfl rfl rfl ?_
        refine pv_e_bk (ps := [(124, .bipush 78, 2), (126, .iload_n 2, 1), (127, .imul, 1), (128, .aload_n 0, 1)]) (t' := (0, 0, 129, [some (.ref 94), some (.int v1), some (.int v2), some (.int v3), some (.int v4), some (.int q12)], [.ref 94, .int ((78:Int32) * v2), .ref 112], pv_mm s T36)) (by decide +kernel) rfl ?_
        refine pv_e_gr (i := 44) (ci := 6) (j := 17) (b := 105) (pc' := 132) (by decide +kernel) rfl rfl rfl ?_
        refine pv_e_bk (ps := [(132, .iconst 0, 1)]) (t' := (0, 0, 133, [some (.ref 94), some (.int v1), some (.int v2), some (.int v3), some (.int v4), some (.int q12)], [.int (0:Int32), .ref 105, .int ((78:Int32) * v2), .ref 112], pv_mm s T36)) (by decide +kernel) rfl ?_
        obtain ⟨T38, e37, h⟩ := Option.bind_eq_some_iff.mp h
        refine pv_e_csv (d := d + 5) (i := 202) (z := 162) (np := 4) (ml := 5) (As := [.ref 112, .int ((78:Int32) * v2), .ref 105, .int (0:Int32)]) (rs := []) (pc' := 136) (by decide +kernel) rfl rfl rfl (Nat.le_of_ble_eq_true rfl) (Nat.le_of_ble_eq_true rfl) rfl (ee162 (d + 5) 112 ((78:Int32) * v2) 105 (0:Int32) (by decide) (by decide) e37) ?_
        obtain rfl := Option.some.inj h
        exact hJ17
theorem ee188_s {xs : Nat → Int32} {L d : Nat} {rec : Int32 → Int32 → Int32 → pv_T → Option (pv_T)} {x1 : Int32} {x2 : Int32} {x3 : Int32} {s : pv_F} {T : pv_T} {q : pv_T} (hrec : ∀ (x1 : Int32) (x2 : Int32) (x3 : Int32) (T : pv_T) (q : pv_T), rec x1 x2 x3 T = some q → pv_Ev xs L (d + 5) 188 (0, 0, 0, [some (.ref 94), some (.int x1), some (.int x2), some (.int x3), none, none], [], pv_mm s T) (none, pv_mm s q))  (h : f188_orderOn_s rec x1 x2 x3 T = some q) : pv_Ev xs L (d + 6) 188 (0, 0, 0, [some (.ref 94), some (.int x1), some (.int x2), some (.int x3), none, none], [], pv_mm s T) (none, pv_mm s q) := by
  generalize hr : ((none, pv_mm s q) : Option Value × pv_M) = r
  unfold f188_orderOn_s at h
  refine pv_e_bk (ps := [(0, .iload_n 2, 1), (1, .aload_n 0, 1)]) (t' := (0, 0, 2, [some (.ref 94), some (.int x1), some (.int x2), some (.int x3), none, none], [.ref 94, .int x2], pv_mm s T)) (by decide +kernel) rfl ?_
  refine pv_e_gr (i := 13) (ci := 6) (j := 3) (b := 96) (pc' := 5) (by decide +kernel) rfl rfl rfl ?_
  refine pv_e_bk (ps := [(5, .iload_n 1, 1)]) (t' := (0, 0, 6, [some (.ref 94), some (.int x1), some (.int x2), some (.int x3), none, none], [.int x1, .ref 96, .int x2], pv_mm s T)) (by decide +kernel) rfl ?_
  obtain ⟨q1, e2, h⟩ := Option.bind_eq_some_iff.mp h
  refine pv_e_rm (pc' := 7) (by decide +kernel) (by decide) rfl e2 rfl ?_
  refine pv_e_icmpne (off := 9) (b := 16) (pc' := 10) (by decide +kernel) (by decide +kernel) rfl (fun c3 => ?_) (fun c3 => ?_)
  · rw [if_pos c3] at h
    refine pv_e_bk (ps := [(10, .aload_n 0, 1), (11, .iload_n 2, 1)]) (t' := (0, 0, 12, [some (.ref 94), some (.int x1), some (.int x2), some (.int x3), none, none], [.int x2, .ref 94], pv_mm s T)) (by decide +kernel) rfl ?_
    obtain ⟨T5, e4, h⟩ := Option.bind_eq_some_iff.mp h
    refine pv_e_cvv (d := d + 5) (i := 255) (z := 187) (np := 1) (ml := 4) (ci := 6) (As := [.int x2]) (rs := []) (pc' := 15) (by decide +kernel) rfl rfl rfl rfl (Nat.le_of_ble_eq_true rfl) (Nat.le_of_ble_eq_true rfl) rfl (ee187 (d + 4) x2 e4) ?_
    obtain rfl := Option.some.inj h
    cases hr
    exact pv_e_rv (by decide +kernel)
  · rw [if_neg c3] at h
    refine pv_e_bk (ps := [(16, .aload_n 0, 1)]) (t' := (0, 0, 17, [some (.ref 94), some (.int x1), some (.int x2), some (.int x3), none, none], [.ref 94], pv_mm s T)) (by decide +kernel) rfl ?_
    refine pv_e_gr (i := 44) (ci := 6) (j := 17) (b := 105) (pc' := 20) (by decide +kernel) rfl rfl rfl ?_
    refine pv_e_bk (ps := [(20, .iconst 0, 1), (21, .aload_n 0, 1)]) (t' := (0, 0, 22, [some (.ref 94), some (.int x1), some (.int x2), some (.int x3), none, none], [.ref 94, .int (0:Int32), .ref 105], pv_mm s T)) (by decide +kernel) rfl ?_
    refine pv_e_gr (i := 65) (ci := 6) (j := 27) (b := 112) (pc' := 25) (by decide +kernel) rfl rfl rfl ?_
    refine pv_e_bk (ps := [(25, .bipush 78, 2), (27, .iload_n 2, 1), (28, .imul, 1)]) (t' := (0, 0, 29, [some (.ref 94), some (.int x1), some (.int x2), some (.int x3), none, none], [.int ((78:Int32) * x2), .ref 112, .int (0:Int32), .ref 105], pv_mm s T)) (by decide +kernel) rfl ?_
    obtain ⟨T7, e6, h⟩ := Option.bind_eq_some_iff.mp h
    refine pv_e_csv (d := d + 5) (i := 202) (z := 162) (np := 4) (ml := 5) (As := [.ref 105, .int (0:Int32), .ref 112, .int ((78:Int32) * x2)]) (rs := []) (pc' := 32) (by decide +kernel) rfl rfl rfl (Nat.le_of_ble_eq_true rfl) (Nat.le_of_ble_eq_true rfl) rfl (ee162 (d + 5) 105 (0:Int32) 112 ((78:Int32) * x2) (by decide) (by decide) e6) ?_
    refine pv_e_bk (ps := [(32, .iconst 0, 1), (33, .istore 4, 2)]) (t' := (0, 0, 35, [some (.ref 94), some (.int x1), some (.int x2), some (.int x3), some (.int (0:Int32)), none], [], pv_mm s T7)) (by decide +kernel) rfl ?_
    obtain ⟨⟨w39, T40⟩, e42, h⟩ := Option.bind_eq_some_iff.mp h
    dsimp only at h
    have hx41 : f188_orderOn_b1_X xs L d r s x1 x2 x3 (w39, T40) := by
      show ∀ z4 : Option Value, ∀ z5 : Option Value, pv_Ev xs L (d + 6) 188 (0, 0, 142, [some (.ref 94), some (.int x1), some (.int x2), some (.int x3), z4, z5], [], pv_mm s T40) r
      intro z4 z5
      obtain rfl := Option.some.inj h
      cases hr
      exact pv_e_rv (by decide +kernel)
    exact pv_lq_ok (H := f188_orderOn_b1_H xs L d r s x1 x2 x3) (X := f188_orderOn_b1_X xs L d r s x1 x2 x3) (f188_orderOn_b1_ok (xs := xs) (L := L) (d := d) (r := r) (s := s) (v1 := x1) (v2 := x2) (v3 := x3) hrec) 20000 _ _ e42 hx41 _
theorem ee188 {xs : Nat → Int32} {L : Nat} (d : Nat) : ∀ (n : Nat) (x1 : Int32) (x2 : Int32) (x3 : Int32) {s : pv_F} {T : pv_T} {q : pv_T}  (h : f188_orderOn n x1 x2 x3 T = some q), pv_Ev xs L (d + n + 5) 188 (0, 0, 0, [some (.ref 94), some (.int x1), some (.int x2), some (.int x3), none, none], [], pv_mm s T) (none, pv_mm s q) := by
  intro n
  induction n with
  | zero => intros; next h => cases h
  | succ n ih =>
    intro x1 x2 x3 s T q h
    exact ee188_s (d := d + n) (fun x1 x2 x3 T q h => ih x1 x2 x3 h)  h
def f189_layBest_b1 (v1 : Int32) (v2 : Int32) (st : Int32 × pv_T) : Option ((Int32 × pv_T) ⊕ (Int32 × pv_T)) := match st with
  | (v3, T) =>
    if v2 ≤ v3 then
      some (.inr (v3, T))
    else
      (pv_rd T.1 114 6 v3).bind fun q6 =>
      (f124_setRow v1 v3 q6 T).bind fun T9 =>
      some (.inl (v3 + (1:Int32), T9))
def f189_layBest_b1_H (xs : Nat → Int32) (L d : Nat) (r : Option Value × pv_M) (s : pv_F) (v1 : Int32) (v2 : Int32) (st : Int32 × pv_T) : Prop := match st with
  | (v3, T) => pv_Ev xs L (d + 3) 189 (0, 0, 22, [some (.ref 94), some (.int v1), some (.int v2), some (.int v3)], [], pv_mm s T) r
def f189_layBest_b1_X (xs : Nat → Int32) (L d : Nat) (r : Option Value × pv_M) (s : pv_F) (v1 : Int32) (v2 : Int32) (st : Int32 × pv_T) : Prop := match st with
  | (v3, T) => ∀ z3 : Option Value, pv_Ev xs L (d + 3) 189 (0, 0, 45, [some (.ref 94), some (.int v1), some (.int v2), z3], [], pv_mm s T) r
def f189_layBest (x1 : Int32) (x2 : Int32) (T : pv_T) : Option (Int32 × pv_T) :=
  if (T.1 94 30) = (1048576:Int32) then
    some ((-9:Int32), T)
  else
    (f125_row x1 x2 T).bind fun (q3, T4) =>
    (pv_lq (f189_layBest_b1 x1 x2) 20000 ((0:Int32), T4)).bind fun (w10, T11) =>
    some (T11.1 94 30, T11)
theorem f189_layBest_b1_ok {xs : Nat → Int32} {L d : Nat} {r : Option Value × pv_M} {s : pv_F} {v1 : Int32} {v2 : Int32} (st : Int32 × pv_T) (o : (Int32 × pv_T) ⊕ (Int32 × pv_T)) (h : f189_layBest_b1 v1 v2 st = some o) (hK : pv_Kq (f189_layBest_b1_H xs L d r s v1 v2) (f189_layBest_b1_X xs L d r s v1 v2) o) : f189_layBest_b1_H xs L d r s v1 v2 st := by
  obtain ⟨v3, T⟩ := st
  show pv_Ev xs L (d + 3) 189 (0, 0, 22, [some (.ref 94), some (.int v1), some (.int v2), some (.int v3)], [], pv_mm s T) r
  unfold f189_layBest_b1 at h
  dsimp only at h
  refine pv_e_bk (ps := [(22, .iload_n 3, 1), (23, .iload_n 2, 1)]) (t' := (0, 0, 24, [some (.ref 94), some (.int v1), some (.int v2), some (.int v3)], [.int v2, .int v3], pv_mm s T)) (by decide +kernel) rfl ?_
  refine pv_e_icmpge (off := 21) (b := 45) (pc' := 27) (by decide +kernel) (by decide +kernel) rfl (fun c5 => ?_) (fun c5 => ?_)
  · rw [if_pos c5] at h
    obtain rfl := Option.some.inj h
    exact hK _
  · rw [if_neg c5] at h
    refine pv_e_bk (ps := [(27, .aload_n 0, 1), (28, .iload_n 1, 1), (29, .iload_n 3, 1), (30, .aload_n 0, 1)]) (t' := (0, 0, 31, [some (.ref 94), some (.int v1), some (.int v2), some (.int v3)], [.ref 94, .int v3, .int v1, .ref 94], pv_mm s T)) (by decide +kernel) rfl ?_
    refine pv_e_gr (i := 71) (ci := 6) (j := 29) (b := 114) (pc' := 34) (by decide +kernel) rfl rfl rfl ?_
    refine pv_e_bk (ps := [(34, .iload_n 3, 1)]) (t' := (0, 0, 35, [some (.ref 94), some (.int v1), some (.int v2), some (.int v3)], [.int v3, .ref 114, .int v3, .int v1, .ref 94], pv_mm s T)) (by decide +kernel) rfl ?_
    obtain ⟨q6, e7, h⟩ := Option.bind_eq_some_iff.mp h
    refine pv_e_rm (pc' := 36) (by decide +kernel) (by decide) rfl e7 rfl ?_
    obtain ⟨T9, e8, h⟩ := Option.bind_eq_some_iff.mp h
    refine pv_e_cvv (d := d + 2) (i := 98) (z := 124) (np := 3) (ml := 4) (ci := 6) (As := [.int v1, .int v3, .int q6]) (rs := []) (pc' := 39) (by decide +kernel) rfl rfl rfl rfl (Nat.le_of_ble_eq_true rfl) (Nat.le_of_ble_eq_true rfl) rfl (ee124 (d + 2) v1 v3 q6 e8) ?_
    refine pv_e_bk (ps := [(39, .iinc 3 1, 3), (42, .goto (-20), 3)]) (t' := (0, 0, 22, [some (.ref 94), some (.int v1), some (.int v2), some (.int (v3 + (1:Int32)))], [], pv_mm s T9)) (by decide +kernel) rfl ?_
    obtain rfl := Option.some.inj h
    exact hK
theorem ee189 {xs : Nat → Int32} {L : Nat} (d : Nat) (x1 : Int32) (x2 : Int32) {s : pv_F} {T : pv_T} {q : Int32 × pv_T}  (h : f189_layBest x1 x2 T = some q) : pv_Ev xs L (d + 3) 189 (0, 0, 0, [some (.ref 94), some (.int x1), some (.int x2), none], [], pv_mm s T) (some (.int q.1), pv_mm s q.2) := by
  generalize hr : ((some (.int q.1), pv_mm s q.2) : Option Value × pv_M) = r
  unfold f189_layBest at h
  refine pv_e_bk (ps := [(0, .aload_n 0, 1)]) (t' := (0, 0, 1, [some (.ref 94), some (.int x1), some (.int x2), none], [.ref 94], pv_mm s T)) (by decide +kernel) rfl ?_
  refine pv_e_gm (i := 252) (ci := 6) (j := 30) (pc' := 4) (by decide +kernel) (by decide) rfl rfl rfl ?_
  refine pv_e_bk (ps := [(4, .ldc_w 261, 3)]) (t' := (0, 0, 7, [some (.ref 94), some (.int x1), some (.int x2), none], [.int (1048576:Int32), .int (T.1 94 30)], pv_mm s T)) (by decide +kernel) rfl ?_
  refine pv_e_icmpne (off := 6) (b := 13) (pc' := 10) (by decide +kernel) (by decide +kernel) rfl (fun c1 => ?_) (fun c1 => ?_)
  · rw [if_pos c1] at h
    refine pv_e_bk (ps := [(10, .bipush (-9), 2)]) (t' := (0, 0, 12, [some (.ref 94), some (.int x1), some (.int x2), none], [.int (-9:Int32)], pv_mm s T)) (by decide +kernel) rfl ?_
    obtain rfl := Option.some.inj h
    cases hr
    exact pv_e_ri (by decide +kernel)
  · rw [if_neg c1] at h
    refine pv_e_bk (ps := [(13, .aload_n 0, 1), (14, .iload_n 1, 1), (15, .iload_n 2, 1)]) (t' := (0, 0, 16, [some (.ref 94), some (.int x1), some (.int x2), none], [.int x2, .int x1, .ref 94], pv_mm s T)) (by decide +kernel) rfl ?_
    obtain ⟨⟨q3, T4⟩, e2, h⟩ := Option.bind_eq_some_iff.mp h
    dsimp only at h
    refine pv_e_cvi (d := d + 2) (i := 262) (z := 125) (np := 2) (ml := 4) (ci := 6) (As := [.int x1, .int x2]) (rs := []) (pc' := 19) (by decide +kernel) rfl rfl rfl rfl (Nat.le_of_ble_eq_true rfl) (Nat.le_of_ble_eq_true rfl) rfl (ee125 (d + 0) x1 x2 e2) ?_
    refine pv_e_bk (ps := [(19, .pop, 1), (20, .iconst 0, 1), (21, .istore_n 3, 1)]) (t' := (0, 0, 22, [some (.ref 94), some (.int x1), some (.int x2), some (.int (0:Int32))], [], pv_mm s T4)) (by decide +kernel) rfl ?_
    obtain ⟨⟨w10, T11⟩, e13, h⟩ := Option.bind_eq_some_iff.mp h
    dsimp only at h
    have hx12 : f189_layBest_b1_X xs L d r s x1 x2 (w10, T11) := by
      show ∀ z3 : Option Value, pv_Ev xs L (d + 3) 189 (0, 0, 45, [some (.ref 94), some (.int x1), some (.int x2), z3], [], pv_mm s T11) r
      intro z3
      refine pv_e_bk (ps := [(45, .aload_n 0, 1)]) (t' := (0, 0, 46, [some (.ref 94), some (.int x1), some (.int x2), z3], [.ref 94], pv_mm s T11)) (by decide +kernel) rfl ?_
      refine pv_e_gm (i := 252) (ci := 6) (j := 30) (pc' := 49) (by decide +kernel) (by decide) rfl rfl rfl ?_
      obtain rfl := Option.some.inj h
      cases hr
      exact pv_e_ri (by decide +kernel)
    exact pv_lq_ok (H := f189_layBest_b1_H xs L d r s x1 x2) (X := f189_layBest_b1_X xs L d r s x1 x2) (f189_layBest_b1_ok (xs := xs) (L := L) (d := d) (r := r) (s := s) (v1 := x1) (v2 := x2)) 20000 _ _ e13 hx12
def f190_order (x1 : Int32) (x2 : Int32) (T : pv_T) : Option (Int32 × pv_T) :=
  (f119_isRow x2).bind fun q2 =>
  if q2 = 0 then
    some ((-1:Int32), T)
  else
    (f183_askedCalls x1 (6:Int32) T).bind fun (q5, T6) =>
    if 0 ≤ q5 then
      (pv_pm T6 94 30 (1048576:Int32)).bind fun T8 =>
      (f184_missed T8).bind fun q11 =>
      (pv_pm T8 94 31 q11).bind fun T12 =>
      (pv_rd T12.1 96 6 x1).bind fun q14 =>
      (f188_orderOn 8 x1 (0:Int32) (((1:Int32) <<< (q14 &&& 31)) - (1:Int32)) T12).bind fun T17 =>
      (pv_rd T17.1 96 6 x1).bind fun q18 =>
      (f189_layBest x2 q18 T17).bind fun (q21, T22) =>
      some (q21, T22)
    else
      some (q5, T6)
theorem ee190 {xs : Nat → Int32} {L : Nat} (d : Nat) (x1 : Int32) (x2 : Int32) {s : pv_F} {T : pv_T} {q : Int32 × pv_T}  (h : f190_order x1 x2 T = some q) : pv_Ev xs L (d + 14) 190 (0, 0, 0, [some (.ref 94), some (.int x1), some (.int x2), none], [], pv_mm s T) (some (.int q.1), pv_mm s q.2) := by
  generalize hr : ((some (.int q.1), pv_mm s q.2) : Option Value × pv_M) = r
  unfold f190_order at h
  refine pv_e_bk (ps := [(0, .iload_n 2, 1)]) (t' := (0, 0, 1, [some (.ref 94), some (.int x1), some (.int x2), none], [.int x2], pv_mm s T)) (by decide +kernel) rfl ?_
  obtain ⟨q2, e1, h⟩ := Option.bind_eq_some_iff.mp h
  refine pv_e_csi (d := d + 13) (i := 87) (z := 119) (np := 1) (ml := 1) (As := [.int x2]) (rs := []) (pc' := 4) (by decide +kernel) rfl rfl rfl (Nat.le_of_ble_eq_true rfl) (Nat.le_of_ble_eq_true rfl) rfl (ee119 (d + 12) x2 e1) ?_
  refine pv_e_ifne (off := 5) (b := 9) (pc' := 7) (by decide +kernel) (by decide +kernel) rfl (fun c3 => ?_) (fun c3 => ?_)
  · rw [if_pos c3] at h
    refine pv_e_bk (ps := [(7, .iconst (-1), 1)]) (t' := (0, 0, 8, [some (.ref 94), some (.int x1), some (.int x2), none], [.int (-1:Int32)], pv_mm s T)) (by decide +kernel) rfl ?_
    obtain rfl := Option.some.inj h
    cases hr
    exact pv_e_ri (by decide +kernel)
  · rw [if_neg c3] at h
    refine pv_e_bk (ps := [(9, .aload_n 0, 1), (10, .iload_n 1, 1), (11, .bipush 6, 2)]) (t' := (0, 0, 13, [some (.ref 94), some (.int x1), some (.int x2), none], [.int (6:Int32), .int x1, .ref 94], pv_mm s T)) (by decide +kernel) rfl ?_
    obtain ⟨⟨q5, T6⟩, e4, h⟩ := Option.bind_eq_some_iff.mp h
    dsimp only at h
    refine pv_e_cvi (d := d + 13) (i := 240) (z := 183) (np := 2) (ml := 5) (ci := 6) (As := [.int x1, .int (6:Int32)]) (rs := []) (pc' := 16) (by decide +kernel) rfl rfl rfl rfl (Nat.le_of_ble_eq_true rfl) (Nat.le_of_ble_eq_true rfl) rfl (ee183 (d + 10) x1 (6:Int32) e4) ?_
    refine pv_e_bk (ps := [(16, .istore_n 3, 1), (17, .iload_n 3, 1)]) (t' := (0, 0, 18, [some (.ref 94), some (.int x1), some (.int x2), some (.int q5)], [.int q5], pv_mm s T6)) (by decide +kernel) rfl ?_
    refine pv_e_ifge (off := 5) (b := 23) (pc' := 21) (by decide +kernel) (by decide +kernel) rfl (fun c7 => ?_) (fun c7 => ?_)
    · rw [if_pos c7] at h
      refine pv_e_bk (ps := [(23, .aload_n 0, 1), (24, .ldc_w 261, 3)]) (t' := (0, 0, 27, [some (.ref 94), some (.int x1), some (.int x2), some (.int q5)], [.int (1048576:Int32), .ref 94], pv_mm s T6)) (by decide +kernel) rfl ?_
      obtain ⟨T8, e9, h⟩ := Option.bind_eq_some_iff.mp h
      refine pv_e_pms (i := 252) (ci := 6) (j := 30) (pc' := 30) (by decide +kernel) rfl rfl (by decide) rfl rfl e9 rfl ?_
      refine pv_e_bk (ps := [(30, .aload_n 0, 1), (31, .aload_n 0, 1)]) (t' := (0, 0, 32, [some (.ref 94), some (.int x1), some (.int x2), some (.int q5)], [.ref 94, .ref 94], pv_mm s T8)) (by decide +kernel) rfl ?_
      obtain ⟨q11, e10, h⟩ := Option.bind_eq_some_iff.mp h
      refine pv_e_cvi (d := d + 13) (i := 243) (z := 184) (np := 0) (ml := 3) (ci := 6) (As := []) (rs := [.ref 94]) (pc' := 35) (by decide +kernel) rfl rfl rfl rfl (Nat.le_of_ble_eq_true rfl) (Nat.le_of_ble_eq_true rfl) rfl (ee184 (d + 13) e10) ?_
      obtain ⟨T12, e13, h⟩ := Option.bind_eq_some_iff.mp h
      refine pv_e_pms (i := 249) (ci := 6) (j := 31) (pc' := 38) (by decide +kernel) rfl rfl (by decide) rfl rfl e13 rfl ?_
      refine pv_e_bk (ps := [(38, .aload_n 0, 1), (39, .iload_n 1, 1), (40, .iconst 0, 1), (41, .iconst 1, 1), (42, .aload_n 0, 1)]) (t' := (0, 0, 43, [some (.ref 94), some (.int x1), some (.int x2), some (.int q5)], [.ref 94, .int (1:Int32), .int (0:Int32), .int x1, .ref 94], pv_mm s T12)) (by decide +kernel) rfl ?_
      refine pv_e_gr (i := 13) (ci := 6) (j := 3) (b := 96) (pc' := 46) (by decide +kernel) rfl rfl rfl ?_
      refine pv_e_bk (ps := [(46, .iload_n 1, 1)]) (t' := (0, 0, 47, [some (.ref 94), some (.int x1), some (.int x2), some (.int q5)], [.int x1, .ref 96, .int (1:Int32), .int (0:Int32), .int x1, .ref 94], pv_mm s T12)) (by decide +kernel) rfl ?_
      obtain ⟨q14, e15, h⟩ := Option.bind_eq_some_iff.mp h
      refine pv_e_rm (pc' := 48) (by decide +kernel) (by decide) rfl e15 rfl ?_
      refine pv_e_bk (ps := [(48, .ishl, 1), (49, .iconst 1, 1), (50, .isub, 1)]) (t' := (0, 0, 51, [some (.ref 94), some (.int x1), some (.int x2), some (.int q5)], [.int (((1:Int32) <<< (q14 &&& 31)) - (1:Int32)), .int (0:Int32), .int x1, .ref 94], pv_mm s T12)) (by decide +kernel) rfl ?_
      obtain ⟨T17, e16, h⟩ := Option.bind_eq_some_iff.mp h
      refine pv_e_cvv (d := d + 13) (i := 258) (z := 188) (np := 3) (ml := 6) (ci := 6) (As := [.int x1, .int (0:Int32), .int (((1:Int32) <<< (q14 &&& 31)) - (1:Int32))]) (rs := []) (pc' := 54) (by decide +kernel) rfl rfl rfl rfl (Nat.le_of_ble_eq_true rfl) (Nat.le_of_ble_eq_true rfl) rfl (ee188 (d + 0) 8 x1 (0:Int32) (((1:Int32) <<< (q14 &&& 31)) - (1:Int32)) e16) ?_
      refine pv_e_bk (ps := [(54, .aload_n 0, 1), (55, .iload_n 2, 1), (56, .aload_n 0, 1)]) (t' := (0, 0, 57, [some (.ref 94), some (.int x1), some (.int x2), some (.int q5)], [.ref 94, .int x2, .ref 94], pv_mm s T17)) (by decide +kernel) rfl ?_
      refine pv_e_gr (i := 13) (ci := 6) (j := 3) (b := 96) (pc' := 60) (by decide +kernel) rfl rfl rfl ?_
      refine pv_e_bk (ps := [(60, .iload_n 1, 1)]) (t' := (0, 0, 61, [some (.ref 94), some (.int x1), some (.int x2), some (.int q5)], [.int x1, .ref 96, .int x2, .ref 94], pv_mm s T17)) (by decide +kernel) rfl ?_
      obtain ⟨q18, e19, h⟩ := Option.bind_eq_some_iff.mp h
      refine pv_e_rm (pc' := 62) (by decide +kernel) (by decide) rfl e19 rfl ?_
      obtain ⟨⟨q21, T22⟩, e20, h⟩ := Option.bind_eq_some_iff.mp h
      dsimp only at h
      refine pv_e_cvi (d := d + 13) (i := 265) (z := 189) (np := 2) (ml := 4) (ci := 6) (As := [.int x2, .int q18]) (rs := []) (pc' := 65) (by decide +kernel) rfl rfl rfl rfl (Nat.le_of_ble_eq_true rfl) (Nat.le_of_ble_eq_true rfl) rfl (ee189 (d + 10) x2 q18 e20) ?_
      obtain rfl := Option.some.inj h
      cases hr
      exact pv_e_ri (by decide +kernel)
    · rw [if_neg c7] at h
      refine pv_e_bk (ps := [(21, .iload_n 3, 1)]) (t' := (0, 0, 22, [some (.ref 94), some (.int x1), some (.int x2), some (.int q5)], [.int q5], pv_mm s T6)) (by decide +kernel) rfl ?_
      obtain rfl := Option.some.inj h
      cases hr
      exact pv_e_ri (by decide +kernel)
def f191_callersOn_b1 (rec : Int32 → Int32 → pv_T → Option (pv_T)) (v1 : Int32) (v2 : Int32) (st : Int32 × pv_T) : Option ((Int32 × pv_T) ⊕ (Int32 × pv_T)) := match st with
  | (v3, T) =>
    if (T.1 94 8) ≤ v3 then
      some (.inr (v3, T))
    else
      (f123_rowAt v1 v2 T).bind fun q10 =>
      (f152_mayCall v3 q10 T).bind fun q12 =>
      ((
        if q12 = 0 then
          some T
        else
          (pv_wm T 113 6 v2 v3).bind fun T17 =>
          (f123_rowAt v1 v2 T17).bind fun q20 =>
          (f157_doCall v3 q20 T17).bind fun (q22, T23) =>
          (rec v1 (v2 + (1:Int32)) T23).bind fun T25 =>
          (f162_copies 112 ((78:Int32) * v2) 105 (0:Int32) T25).bind fun T27 =>
          some T27) : Option (pv_T)).bind fun T13 =>
      some (.inl (v3 + (1:Int32), T13))
def f191_callersOn_b1_H (xs : Nat → Int32) (L d : Nat) (r : Option Value × pv_M) (s : pv_F) (v1 : Int32) (v2 : Int32) (st : Int32 × pv_T) : Prop := match st with
  | (v3, T) => pv_Ev xs L (d + 6) 191 (0, 0, 34, [some (.ref 94), some (.int v1), some (.int v2), some (.int v3)], [], pv_mm s T) r
def f191_callersOn_b1_X (xs : Nat → Int32) (L d : Nat) (r : Option Value × pv_M) (s : pv_F) (v1 : Int32) (v2 : Int32) (st : Int32 × pv_T) : Prop := match st with
  | (v3, T) => ∀ z3 : Option Value, pv_Ev xs L (d + 6) 191 (0, 0, 105, [some (.ref 94), some (.int v1), some (.int v2), z3], [], pv_mm s T) r
def f191_callersOn_s (rec : Int32 → Int32 → pv_T → Option (pv_T)) (x1 : Int32) (x2 : Int32) (T : pv_T) : Option (pv_T) :=
  (pv_rd T.1 96 6 x1).bind fun q1 =>
  if x2 = q1 then
    (f187_meetLaid x2 T).bind fun T5 =>
    some T5
  else
    (f162_copies 105 (0:Int32) 112 ((78:Int32) * x2) T).bind fun T7 =>
    (pv_lq (f191_callersOn_b1 rec x1 x2) 20000 ((0:Int32), T7)).bind fun (w28, T29) =>
    some T29
def f191_callersOn : Nat → Int32 → Int32 → pv_T → Option (pv_T)
  | 0 => fun _ _ _ => none
  | n + 1 => fun x1 x2 T => f191_callersOn_s (f191_callersOn n) x1 x2 T
theorem f191_callersOn_b1_ok {xs : Nat → Int32} {L d : Nat} {r : Option Value × pv_M} {rec : Int32 → Int32 → pv_T → Option (pv_T)} {s : pv_F} {v1 : Int32} {v2 : Int32} (hrec : ∀ (x1 : Int32) (x2 : Int32) (T : pv_T) (q : pv_T), rec x1 x2 T = some q → pv_Ev xs L (d + 5) 191 (0, 0, 0, [some (.ref 94), some (.int x1), some (.int x2), none], [], pv_mm s T) (none, pv_mm s q)) (st : Int32 × pv_T) (o : (Int32 × pv_T) ⊕ (Int32 × pv_T)) (h : f191_callersOn_b1 rec v1 v2 st = some o) (hK : pv_Kq (f191_callersOn_b1_H xs L d r s v1 v2) (f191_callersOn_b1_X xs L d r s v1 v2) o) : f191_callersOn_b1_H xs L d r s v1 v2 st := by
  obtain ⟨v3, T⟩ := st
  show pv_Ev xs L (d + 6) 191 (0, 0, 34, [some (.ref 94), some (.int v1), some (.int v2), some (.int v3)], [], pv_mm s T) r
  unfold f191_callersOn_b1 at h
  dsimp only at h
  refine pv_e_bk (ps := [(34, .iload_n 3, 1), (35, .aload_n 0, 1)]) (t' := (0, 0, 36, [some (.ref 94), some (.int v1), some (.int v2), some (.int v3)], [.ref 94, .int v3], pv_mm s T)) (by decide +kernel) rfl ?_
  refine pv_e_gm (i := 136) (ci := 6) (j := 8) (pc' := 39) (by decide +kernel) (by decide) rfl rfl rfl ?_
  refine pv_e_icmpge (off := 66) (b := 105) (pc' := 42) (by decide +kernel) (by decide +kernel) rfl (fun c8 => ?_) (fun c8 => ?_)
  · rw [if_pos c8] at h
    obtain rfl := Option.some.inj h
    exact hK _
  · rw [if_neg c8] at h
    refine pv_e_bk (ps := [(42, .aload_n 0, 1), (43, .iload_n 3, 1), (44, .aload_n 0, 1), (45, .iload_n 1, 1), (46, .iload_n 2, 1)]) (t' := (0, 0, 47, [some (.ref 94), some (.int v1), some (.int v2), some (.int v3)], [.int v2, .int v1, .ref 94, .int v3, .ref 94], pv_mm s T)) (by decide +kernel) rfl ?_
    obtain ⟨q10, e9, h⟩ := Option.bind_eq_some_iff.mp h
    refine pv_e_cvi (d := d + 5) (i := 105) (z := 123) (np := 2) (ml := 3) (ci := 6) (As := [.int v1, .int v2]) (rs := [.int v3, .ref 94]) (pc' := 50) (by decide +kernel) rfl rfl rfl rfl (Nat.le_of_ble_eq_true rfl) (Nat.le_of_ble_eq_true rfl) rfl (ee123 (d + 5) v1 v2 e9) ?_
    obtain ⟨q12, e11, h⟩ := Option.bind_eq_some_iff.mp h
    refine pv_e_cvi (d := d + 5) (i := 161) (z := 152) (np := 2) (ml := 3) (ci := 6) (As := [.int v3, .int q10]) (rs := []) (pc' := 53) (by decide +kernel) rfl rfl rfl rfl (Nat.le_of_ble_eq_true rfl) (Nat.le_of_ble_eq_true rfl) rfl (ee152 (d + 4) v3 q10 e11) ?_
    obtain ⟨T13, hv14, h⟩ := Option.bind_eq_some_iff.mp h
    have hJ15 : pv_Ev xs L (d + 6) 191 (0, 0, 99, [some (.ref 94), some (.int v1), some (.int v2), some (.int v3)], [], pv_mm s T13) r := by
      refine pv_e_bk (ps := [(99, .iinc 3 1, 3), (102, .goto (-68), 3)]) (t' := (0, 0, 34, [some (.ref 94), some (.int v1), some (.int v2), some (.int (v3 + (1:Int32)))], [], pv_mm s T13)) (by decide +kernel) rfl ?_
      obtain rfl := Option.some.inj h
      exact hK
    clear h
    have h := hv14
    clear hv14
    refine pv_e_ifeq (off := 46) (b := 99) (pc' := 56) (by decide +kernel) (by decide +kernel) rfl (fun c16 => ?_) (fun c16 => ?_)
    · rw [if_pos c16] at h
      obtain rfl := Option.some.inj h
      exact hJ15
    · rw [if_neg c16] at h
      refine pv_e_bk (ps := [(56, .aload_n 0, 1)]) (t' := (0, 0, 57, [some (.ref 94), some (.int v1), some (.int v2), some (.int v3)], [.ref 94], pv_mm s T)) (by decide +kernel) rfl ?_
      refine pv_e_gr (i := 68) (ci := 6) (j := 28) (b := 113) (pc' := 60) (by decide +kernel) rfl rfl rfl ?_
      refine pv_e_bk (ps := [(60, .iload_n 2, 1), (61, .iload_n 3, 1)]) (t' := (0, 0, 62, [some (.ref 94), some (.int v1), some (.int v2), some (.int v3)], [.int v3, .int v2, .ref 113], pv_mm s T)) (by decide +kernel) rfl ?_
      obtain ⟨T17, e18, h⟩ := Option.bind_eq_some_iff.mp h
      refine pv_e_wm (pc' := 63) (by decide +kernel) (by decide) rfl e18 rfl ?_
      refine pv_e_bk (ps := [(63, .aload_n 0, 1), (64, .iload_n 3, 1), (65, .aload_n 0, 1), (66, .iload_n 1, 1), (67, .iload_n 2, 1)]) (t' := (0, 0, 68, [some (.ref 94), some (.int v1), some (.int v2), some (.int v3)], [.int v2, .int v1, .ref 94, .int v3, .ref 94], pv_mm s T17)) (by decide +kernel) rfl ?_
      obtain ⟨q20, e19, h⟩ := Option.bind_eq_some_iff.mp h
      refine pv_e_cvi (d := d + 5) (i := 105) (z := 123) (np := 2) (ml := 3) (ci := 6) (As := [.int v1, .int v2]) (rs := [.int v3, .ref 94]) (pc' := 71) (by decide +kernel) rfl rfl rfl rfl (Nat.le_of_ble_eq_true rfl) (Nat.le_of_ble_eq_true rfl) rfl (ee123 (d + 5) v1 v2 e19) ?_
      obtain ⟨⟨q22, T23⟩, e21, h⟩ := Option.bind_eq_some_iff.mp h
      dsimp only at h
      refine pv_e_cvi (d := d + 5) (i := 199) (z := 157) (np := 2) (ml := 5) (ci := 6) (As := [.int v3, .int q20]) (rs := []) (pc' := 74) (by decide +kernel) rfl rfl rfl rfl (Nat.le_of_ble_eq_true rfl) (Nat.le_of_ble_eq_true rfl) rfl (ee157 (d + 1) v3 q20 e21) ?_
      refine pv_e_bk (ps := [(74, .pop, 1), (75, .aload_n 0, 1), (76, .iload_n 1, 1), (77, .iload_n 2, 1), (78, .iconst 1, 1), (79, .iadd, 1)]) (t' := (0, 0, 80, [some (.ref 94), some (.int v1), some (.int v2), some (.int v3)], [.int (v2 + (1:Int32)), .int v1, .ref 94], pv_mm s T23)) (by decide +kernel) rfl ?_
      obtain ⟨T25, e24, h⟩ := Option.bind_eq_some_iff.mp h
      refine pv_e_cvv (d := d + 5) (i := 268) (z := 191) (np := 2) (ml := 4) (ci := 6) (As := [.int v1, .int (v2 + (1:Int32))]) (rs := []) (pc' := 83) (by decide +kernel) rfl rfl rfl rfl (Nat.le_of_ble_eq_true rfl) (Nat.le_of_ble_eq_true rfl) rfl (hrec v1 (v2 + (1:Int32)) T23 _ e24) ?_
      refine pv_e_bk (ps := [(83, .aload_n 0, 1)]) (t' := (0, 0, 84, [some (.ref 94), some (.int v1), some (.int v2), some (.int v3)], [.ref 94], pv_mm s T25)) (by decide +kernel) rfl ?_
      refine pv_e_gr (i := 65) (ci := 6) (j := 27) (b := 112) (pc' := 87) (by decide +kernel) rfl rfl rfl ?_
      refine pv_e_bk (ps := [(87, .bipush 78, 2), (89, .iload_n 2, 1), (90, .imul, 1), (91, .aload_n 0, 1)]) (t' := (0, 0, 92, [some (.ref 94), some (.int v1), some (.int v2), some (.int v3)], [.ref 94, .int ((78:Int32) * v2), .ref 112], pv_mm s T25)) (by decide +kernel) rfl ?_
      refine pv_e_gr (i := 44) (ci := 6) (j := 17) (b := 105) (pc' := 95) (by decide +kernel) rfl rfl rfl ?_
      refine pv_e_bk (ps := [(95, .iconst 0, 1)]) (t' := (0, 0, 96, [some (.ref 94), some (.int v1), some (.int v2), some (.int v3)], [.int (0:Int32), .ref 105, .int ((78:Int32) * v2), .ref 112], pv_mm s T25)) (by decide +kernel) rfl ?_
      obtain ⟨T27, e26, h⟩ := Option.bind_eq_some_iff.mp h
      refine pv_e_csv (d := d + 5) (i := 202) (z := 162) (np := 4) (ml := 5) (As := [.ref 112, .int ((78:Int32) * v2), .ref 105, .int (0:Int32)]) (rs := []) (pc' := 99) (by decide +kernel) rfl rfl rfl (Nat.le_of_ble_eq_true rfl) (Nat.le_of_ble_eq_true rfl) rfl (ee162 (d + 5) 112 ((78:Int32) * v2) 105 (0:Int32) (by decide) (by decide) e26) ?_
      obtain rfl := Option.some.inj h
      exact hJ15
theorem ee191_s {xs : Nat → Int32} {L d : Nat} {rec : Int32 → Int32 → pv_T → Option (pv_T)} {x1 : Int32} {x2 : Int32} {s : pv_F} {T : pv_T} {q : pv_T} (hrec : ∀ (x1 : Int32) (x2 : Int32) (T : pv_T) (q : pv_T), rec x1 x2 T = some q → pv_Ev xs L (d + 5) 191 (0, 0, 0, [some (.ref 94), some (.int x1), some (.int x2), none], [], pv_mm s T) (none, pv_mm s q))  (h : f191_callersOn_s rec x1 x2 T = some q) : pv_Ev xs L (d + 6) 191 (0, 0, 0, [some (.ref 94), some (.int x1), some (.int x2), none], [], pv_mm s T) (none, pv_mm s q) := by
  generalize hr : ((none, pv_mm s q) : Option Value × pv_M) = r
  unfold f191_callersOn_s at h
  refine pv_e_bk (ps := [(0, .iload_n 2, 1), (1, .aload_n 0, 1)]) (t' := (0, 0, 2, [some (.ref 94), some (.int x1), some (.int x2), none], [.ref 94, .int x2], pv_mm s T)) (by decide +kernel) rfl ?_
  refine pv_e_gr (i := 13) (ci := 6) (j := 3) (b := 96) (pc' := 5) (by decide +kernel) rfl rfl rfl ?_
  refine pv_e_bk (ps := [(5, .iload_n 1, 1)]) (t' := (0, 0, 6, [some (.ref 94), some (.int x1), some (.int x2), none], [.int x1, .ref 96, .int x2], pv_mm s T)) (by decide +kernel) rfl ?_
  obtain ⟨q1, e2, h⟩ := Option.bind_eq_some_iff.mp h
  refine pv_e_rm (pc' := 7) (by decide +kernel) (by decide) rfl e2 rfl ?_
  refine pv_e_icmpne (off := 9) (b := 16) (pc' := 10) (by decide +kernel) (by decide +kernel) rfl (fun c3 => ?_) (fun c3 => ?_)
  · rw [if_pos c3] at h
    refine pv_e_bk (ps := [(10, .aload_n 0, 1), (11, .iload_n 2, 1)]) (t' := (0, 0, 12, [some (.ref 94), some (.int x1), some (.int x2), none], [.int x2, .ref 94], pv_mm s T)) (by decide +kernel) rfl ?_
    obtain ⟨T5, e4, h⟩ := Option.bind_eq_some_iff.mp h
    refine pv_e_cvv (d := d + 5) (i := 255) (z := 187) (np := 1) (ml := 4) (ci := 6) (As := [.int x2]) (rs := []) (pc' := 15) (by decide +kernel) rfl rfl rfl rfl (Nat.le_of_ble_eq_true rfl) (Nat.le_of_ble_eq_true rfl) rfl (ee187 (d + 4) x2 e4) ?_
    obtain rfl := Option.some.inj h
    cases hr
    exact pv_e_rv (by decide +kernel)
  · rw [if_neg c3] at h
    refine pv_e_bk (ps := [(16, .aload_n 0, 1)]) (t' := (0, 0, 17, [some (.ref 94), some (.int x1), some (.int x2), none], [.ref 94], pv_mm s T)) (by decide +kernel) rfl ?_
    refine pv_e_gr (i := 44) (ci := 6) (j := 17) (b := 105) (pc' := 20) (by decide +kernel) rfl rfl rfl ?_
    refine pv_e_bk (ps := [(20, .iconst 0, 1), (21, .aload_n 0, 1)]) (t' := (0, 0, 22, [some (.ref 94), some (.int x1), some (.int x2), none], [.ref 94, .int (0:Int32), .ref 105], pv_mm s T)) (by decide +kernel) rfl ?_
    refine pv_e_gr (i := 65) (ci := 6) (j := 27) (b := 112) (pc' := 25) (by decide +kernel) rfl rfl rfl ?_
    refine pv_e_bk (ps := [(25, .bipush 78, 2), (27, .iload_n 2, 1), (28, .imul, 1)]) (t' := (0, 0, 29, [some (.ref 94), some (.int x1), some (.int x2), none], [.int ((78:Int32) * x2), .ref 112, .int (0:Int32), .ref 105], pv_mm s T)) (by decide +kernel) rfl ?_
    obtain ⟨T7, e6, h⟩ := Option.bind_eq_some_iff.mp h
    refine pv_e_csv (d := d + 5) (i := 202) (z := 162) (np := 4) (ml := 5) (As := [.ref 105, .int (0:Int32), .ref 112, .int ((78:Int32) * x2)]) (rs := []) (pc' := 32) (by decide +kernel) rfl rfl rfl (Nat.le_of_ble_eq_true rfl) (Nat.le_of_ble_eq_true rfl) rfl (ee162 (d + 5) 105 (0:Int32) 112 ((78:Int32) * x2) (by decide) (by decide) e6) ?_
    refine pv_e_bk (ps := [(32, .iconst 0, 1), (33, .istore_n 3, 1)]) (t' := (0, 0, 34, [some (.ref 94), some (.int x1), some (.int x2), some (.int (0:Int32))], [], pv_mm s T7)) (by decide +kernel) rfl ?_
    obtain ⟨⟨w28, T29⟩, e31, h⟩ := Option.bind_eq_some_iff.mp h
    dsimp only at h
    have hx30 : f191_callersOn_b1_X xs L d r s x1 x2 (w28, T29) := by
      show ∀ z3 : Option Value, pv_Ev xs L (d + 6) 191 (0, 0, 105, [some (.ref 94), some (.int x1), some (.int x2), z3], [], pv_mm s T29) r
      intro z3
      obtain rfl := Option.some.inj h
      cases hr
      exact pv_e_rv (by decide +kernel)
    exact pv_lq_ok (H := f191_callersOn_b1_H xs L d r s x1 x2) (X := f191_callersOn_b1_X xs L d r s x1 x2) (f191_callersOn_b1_ok (xs := xs) (L := L) (d := d) (r := r) (s := s) (v1 := x1) (v2 := x2) hrec) 20000 _ _ e31 hx30
theorem ee191 {xs : Nat → Int32} {L : Nat} (d : Nat) : ∀ (n : Nat) (x1 : Int32) (x2 : Int32) {s : pv_F} {T : pv_T} {q : pv_T}  (h : f191_callersOn n x1 x2 T = some q), pv_Ev xs L (d + n + 5) 191 (0, 0, 0, [some (.ref 94), some (.int x1), some (.int x2), none], [], pv_mm s T) (none, pv_mm s q) := by
  intro n
  induction n with
  | zero => intros; next h => cases h
  | succ n ih =>
    intro x1 x2 s T q h
    exact ee191_s (d := d + n) (fun x1 x2 T q h => ih x1 x2 h)  h
def f192_callers_b1 (v1 : Int32) (v2 : Int32) (T : pv_T) (st : Int32) : Option (Int32 ⊕ (Int32 ⊕ (Int32 × pv_T))) := match st with
  | v4 =>
    (pv_rd T.1 96 6 v1).bind fun q11 =>
    if q11 ≤ v4 then
      some (.inr (.inl v4))
    else
      (f123_rowAt v1 v4 T).bind fun q15 =>
      (f140_isOne q15 T).bind fun q17 =>
      if q17 = 0 then
        (f115_meet (3:Int32) T).bind fun (q20, T21) =>
        some (.inr (.inr (q20, T21)))
      else
        some (.inl (v4 + (1:Int32)))
def f192_callers_b1_H (xs : Nat → Int32) (L d : Nat) (r : Option Value × pv_M) (s : pv_F) (v1 : Int32) (v2 : Int32) (T : pv_T) (v3 : Int32) (st : Int32) : Prop := match st with
  | v4 => pv_Ev xs L (d + 14) 192 (0, 0, 40, [some (.ref 94), some (.int v1), some (.int v2), some (.int v3), some (.int v4)], [], pv_mm s T) r
def f192_callers_b1_X (xs : Nat → Int32) (L d : Nat) (r : Option Value × pv_M) (s : pv_F) (v1 : Int32) (v2 : Int32) (T : pv_T) (v3 : Int32) (st : Int32) : Prop := match st with
  | v4 => ∀ z4 : Option Value, pv_Ev xs L (d + 14) 192 (0, 0, 77, [some (.ref 94), some (.int v1), some (.int v2), some (.int v3), z4], [], pv_mm s T) r
def f192_callers (x1 : Int32) (x2 : Int32) (T : pv_T) : Option (Int32 × pv_T) :=
  (f119_isRow x2).bind fun q2 =>
  if q2 = 0 then
    some ((-1:Int32), T)
  else
    (f121_askedRow x1 T).bind fun (q5, T6) =>
    if 0 ≤ q5 then
      (pv_rd T6.1 96 6 x1).bind fun q8 =>
      if q8 ≤ (5:Int32) then
        (pv_lp (f192_callers_b1 x1 x2 T6) 20000 (0:Int32)).bind fun o38 => match o38 with
          | .inl w22 =>
            (pv_pm T6 94 30 (1048576:Int32)).bind fun T23 =>
            (f184_missed T23).bind fun q26 =>
            (pv_pm T23 94 31 q26).bind fun T27 =>
            (f191_callersOn 8 x1 (0:Int32) T27).bind fun T30 =>
            (pv_rd T30.1 96 6 x1).bind fun q31 =>
            (f189_layBest x2 q31 T30).bind fun (q34, T35) =>
            some (q34, T35)
          | .inr q => some q
      else
        (f115_meet (5:Int32) T6).bind fun (q40, T41) =>
        some (q40, T41)
    else
      some (q5, T6)
theorem f192_callers_b1_ok {xs : Nat → Int32} {L d : Nat} {r : Option Value × pv_M} {s : pv_F} {v1 : Int32} {v2 : Int32} {T : pv_T} {v3 : Int32} (st : Int32) (o : Int32 ⊕ (Int32 ⊕ (Int32 × pv_T))) (h : f192_callers_b1 v1 v2 T st = some o) (hK : pv_Kp (f192_callers_b1_H xs L d r s v1 v2 T v3) (f192_callers_b1_X xs L d r s v1 v2 T v3) (fun q => (some (.int q.1), pv_mm s q.2) = r) o) : f192_callers_b1_H xs L d r s v1 v2 T v3 st := by
  obtain ⟨v4, rfl⟩ : ∃ z, z = st := ⟨st, rfl⟩
  show pv_Ev xs L (d + 14) 192 (0, 0, 40, [some (.ref 94), some (.int v1), some (.int v2), some (.int v3), some (.int v4)], [], pv_mm s T) r
  unfold f192_callers_b1 at h
  dsimp only at h
  refine pv_e_bk (ps := [(40, .iload 4, 2), (42, .aload_n 0, 1)]) (t' := (0, 0, 43, [some (.ref 94), some (.int v1), some (.int v2), some (.int v3), some (.int v4)], [.ref 94, .int v4], pv_mm s T)) (by decide +kernel) rfl ?_
  refine pv_e_gr (i := 13) (ci := 6) (j := 3) (b := 96) (pc' := 46) (by decide +kernel) rfl rfl rfl ?_
  refine pv_e_bk (ps := [(46, .iload_n 1, 1)]) (t' := (0, 0, 47, [some (.ref 94), some (.int v1), some (.int v2), some (.int v3), some (.int v4)], [.int v1, .ref 96, .int v4], pv_mm s T)) (by decide +kernel) rfl ?_
  obtain ⟨q11, e12, h⟩ := Option.bind_eq_some_iff.mp h
  refine pv_e_rm (pc' := 48) (by decide +kernel) (by decide) rfl e12 rfl ?_
  refine pv_e_icmpge (off := 29) (b := 77) (pc' := 51) (by decide +kernel) (by decide +kernel) rfl (fun c13 => ?_) (fun c13 => ?_)
  · rw [if_pos c13] at h
    obtain rfl := Option.some.inj h
    exact hK _
  · rw [if_neg c13] at h
    refine pv_e_bk (ps := [(51, .aload_n 0, 1), (52, .aload_n 0, 1), (53, .iload_n 1, 1), (54, .iload 4, 2)]) (t' := (0, 0, 56, [some (.ref 94), some (.int v1), some (.int v2), some (.int v3), some (.int v4)], [.int v4, .int v1, .ref 94, .ref 94], pv_mm s T)) (by decide +kernel) rfl ?_
    obtain ⟨q15, e14, h⟩ := Option.bind_eq_some_iff.mp h
    refine pv_e_cvi (d := d + 13) (i := 105) (z := 123) (np := 2) (ml := 3) (ci := 6) (As := [.int v1, .int v4]) (rs := [.ref 94]) (pc' := 59) (by decide +kernel) rfl rfl rfl rfl (Nat.le_of_ble_eq_true rfl) (Nat.le_of_ble_eq_true rfl) rfl (ee123 (d + 13) v1 v4 e14) ?_
    obtain ⟨q17, e16, h⟩ := Option.bind_eq_some_iff.mp h
    refine pv_e_cvi (d := d + 13) (i := 152) (z := 140) (np := 1) (ml := 2) (ci := 6) (As := [.int q15]) (rs := []) (pc' := 62) (by decide +kernel) rfl rfl rfl rfl (Nat.le_of_ble_eq_true rfl) (Nat.le_of_ble_eq_true rfl) rfl (ee140 (d + 12) q15 e16) ?_
    refine pv_e_ifne (off := 9) (b := 71) (pc' := 65) (by decide +kernel) (by decide +kernel) rfl (fun c18 => ?_) (fun c18 => ?_)
    · rw [if_pos c18] at h
      refine pv_e_bk (ps := [(65, .aload_n 0, 1), (66, .iconst 3, 1)]) (t' := (0, 0, 67, [some (.ref 94), some (.int v1), some (.int v2), some (.int v3), some (.int v4)], [.int (3:Int32), .ref 94], pv_mm s T)) (by decide +kernel) rfl ?_
      obtain ⟨⟨q20, T21⟩, e19, h⟩ := Option.bind_eq_some_iff.mp h
      dsimp only at h
      refine pv_e_cvi (d := d + 13) (i := 91) (z := 115) (np := 1) (ml := 2) (ci := 6) (As := [.int (3:Int32)]) (rs := []) (pc' := 70) (by decide +kernel) rfl rfl rfl rfl (Nat.le_of_ble_eq_true rfl) (Nat.le_of_ble_eq_true rfl) rfl (ee115 (d + 13) (3:Int32) e19) ?_
      obtain rfl := Option.some.inj h
      cases hK
      exact pv_e_ri (by decide +kernel)
    · rw [if_neg c18] at h
      refine pv_e_bk (ps := [(71, .iinc 4 1, 3), (74, .goto (-34), 3)]) (t' := (0, 0, 40, [some (.ref 94), some (.int v1), some (.int v2), some (.int v3), some (.int (v4 + (1:Int32)))], [], pv_mm s T)) (by decide +kernel) rfl ?_
      obtain rfl := Option.some.inj h
      exact hK
theorem ee192 {xs : Nat → Int32} {L : Nat} (d : Nat) (x1 : Int32) (x2 : Int32) {s : pv_F} {T : pv_T} {q : Int32 × pv_T}  (h : f192_callers x1 x2 T = some q) : pv_Ev xs L (d + 14) 192 (0, 0, 0, [some (.ref 94), some (.int x1), some (.int x2), none, none], [], pv_mm s T) (some (.int q.1), pv_mm s q.2) := by
  generalize hr : ((some (.int q.1), pv_mm s q.2) : Option Value × pv_M) = r
  unfold f192_callers at h
  refine pv_e_bk (ps := [(0, .iload_n 2, 1)]) (t' := (0, 0, 1, [some (.ref 94), some (.int x1), some (.int x2), none, none], [.int x2], pv_mm s T)) (by decide +kernel) rfl ?_
  obtain ⟨q2, e1, h⟩ := Option.bind_eq_some_iff.mp h
  refine pv_e_csi (d := d + 13) (i := 87) (z := 119) (np := 1) (ml := 1) (As := [.int x2]) (rs := []) (pc' := 4) (by decide +kernel) rfl rfl rfl (Nat.le_of_ble_eq_true rfl) (Nat.le_of_ble_eq_true rfl) rfl (ee119 (d + 12) x2 e1) ?_
  refine pv_e_ifne (off := 5) (b := 9) (pc' := 7) (by decide +kernel) (by decide +kernel) rfl (fun c3 => ?_) (fun c3 => ?_)
  · rw [if_pos c3] at h
    refine pv_e_bk (ps := [(7, .iconst (-1), 1)]) (t' := (0, 0, 8, [some (.ref 94), some (.int x1), some (.int x2), none, none], [.int (-1:Int32)], pv_mm s T)) (by decide +kernel) rfl ?_
    obtain rfl := Option.some.inj h
    cases hr
    exact pv_e_ri (by decide +kernel)
  · rw [if_neg c3] at h
    refine pv_e_bk (ps := [(9, .aload_n 0, 1), (10, .iload_n 1, 1)]) (t' := (0, 0, 11, [some (.ref 94), some (.int x1), some (.int x2), none, none], [.int x1, .ref 94], pv_mm s T)) (by decide +kernel) rfl ?_
    obtain ⟨⟨q5, T6⟩, e4, h⟩ := Option.bind_eq_some_iff.mp h
    dsimp only at h
    refine pv_e_cvi (d := d + 13) (i := 102) (z := 121) (np := 1) (ml := 2) (ci := 6) (As := [.int x1]) (rs := []) (pc' := 14) (by decide +kernel) rfl rfl rfl rfl (Nat.le_of_ble_eq_true rfl) (Nat.le_of_ble_eq_true rfl) rfl (ee121 (d + 11) x1 e4) ?_
    refine pv_e_bk (ps := [(14, .istore_n 3, 1), (15, .iload_n 3, 1)]) (t' := (0, 0, 16, [some (.ref 94), some (.int x1), some (.int x2), some (.int q5), none], [.int q5], pv_mm s T6)) (by decide +kernel) rfl ?_
    refine pv_e_ifge (off := 5) (b := 21) (pc' := 19) (by decide +kernel) (by decide +kernel) rfl (fun c7 => ?_) (fun c7 => ?_)
    · rw [if_pos c7] at h
      refine pv_e_bk (ps := [(21, .aload_n 0, 1)]) (t' := (0, 0, 22, [some (.ref 94), some (.int x1), some (.int x2), some (.int q5), none], [.ref 94], pv_mm s T6)) (by decide +kernel) rfl ?_
      refine pv_e_gr (i := 13) (ci := 6) (j := 3) (b := 96) (pc' := 25) (by decide +kernel) rfl rfl rfl ?_
      refine pv_e_bk (ps := [(25, .iload_n 1, 1)]) (t' := (0, 0, 26, [some (.ref 94), some (.int x1), some (.int x2), some (.int q5), none], [.int x1, .ref 96], pv_mm s T6)) (by decide +kernel) rfl ?_
      obtain ⟨q8, e9, h⟩ := Option.bind_eq_some_iff.mp h
      refine pv_e_rm (pc' := 27) (by decide +kernel) (by decide) rfl e9 rfl ?_
      refine pv_e_bk (ps := [(27, .iconst 5, 1)]) (t' := (0, 0, 28, [some (.ref 94), some (.int x1), some (.int x2), some (.int q5), none], [.int (5:Int32), .int q8], pv_mm s T6)) (by decide +kernel) rfl ?_
      refine pv_e_icmple (off := 9) (b := 37) (pc' := 31) (by decide +kernel) (by decide +kernel) rfl (fun c10 => ?_) (fun c10 => ?_)
      · rw [if_pos c10] at h
        refine pv_e_bk (ps := [(37, .iconst 0, 1), (38, .istore 4, 2)]) (t' := (0, 0, 40, [some (.ref 94), some (.int x1), some (.int x2), some (.int q5), some (.int (0:Int32))], [], pv_mm s T6)) (by decide +kernel) rfl ?_
        obtain ⟨o38, e37, h⟩ := Option.bind_eq_some_iff.mp h
        refine pv_lp_ok (H := f192_callers_b1_H xs L d r s x1 x2 T6 q5) (X := f192_callers_b1_X xs L d r s x1 x2 T6 q5) (Z := (fun q => (some (.int q.1), pv_mm s q.2) = r)) (f192_callers_b1_ok (xs := xs) (L := L) (d := d) (r := r) (s := s) (v1 := x1) (v2 := x2) (T := T6) (v3 := q5)) 20000 _ _ e37 ?_
        rcases o38 with w22 | q
        · dsimp only at h ⊢
          show ∀ z4 : Option Value, pv_Ev xs L (d + 14) 192 (0, 0, 77, [some (.ref 94), some (.int x1), some (.int x2), some (.int q5), z4], [], pv_mm s T6) r
          intro z4
          refine pv_e_bk (ps := [(77, .aload_n 0, 1), (78, .ldc_w 261, 3)]) (t' := (0, 0, 81, [some (.ref 94), some (.int x1), some (.int x2), some (.int q5), z4], [.int (1048576:Int32), .ref 94], pv_mm s T6)) (by decide +kernel) rfl ?_
          obtain ⟨T23, e24, h⟩ := Option.bind_eq_some_iff.mp h
          refine pv_e_pms (i := 252) (ci := 6) (j := 30) (pc' := 84) (by decide +kernel) rfl rfl (by decide) rfl rfl e24 rfl ?_
          refine pv_e_bk (ps := [(84, .aload_n 0, 1), (85, .aload_n 0, 1)]) (t' := (0, 0, 86, [some (.ref 94), some (.int x1), some (.int x2), some (.int q5), z4], [.ref 94, .ref 94], pv_mm s T23)) (by decide +kernel) rfl ?_
          obtain ⟨q26, e25, h⟩ := Option.bind_eq_some_iff.mp h
          refine pv_e_cvi (d := d + 13) (i := 243) (z := 184) (np := 0) (ml := 3) (ci := 6) (As := []) (rs := [.ref 94]) (pc' := 89) (by decide +kernel) rfl rfl rfl rfl (Nat.le_of_ble_eq_true rfl) (Nat.le_of_ble_eq_true rfl) rfl (ee184 (d + 13) e25) ?_
          obtain ⟨T27, e28, h⟩ := Option.bind_eq_some_iff.mp h
          refine pv_e_pms (i := 249) (ci := 6) (j := 31) (pc' := 92) (by decide +kernel) rfl rfl (by decide) rfl rfl e28 rfl ?_
          refine pv_e_bk (ps := [(92, .aload_n 0, 1), (93, .iload_n 1, 1), (94, .iconst 0, 1)]) (t' := (0, 0, 95, [some (.ref 94), some (.int x1), some (.int x2), some (.int q5), z4], [.int (0:Int32), .int x1, .ref 94], pv_mm s T27)) (by decide +kernel) rfl ?_
          obtain ⟨T30, e29, h⟩ := Option.bind_eq_some_iff.mp h
          refine pv_e_cvv (d := d + 13) (i := 268) (z := 191) (np := 2) (ml := 4) (ci := 6) (As := [.int x1, .int (0:Int32)]) (rs := []) (pc' := 98) (by decide +kernel) rfl rfl rfl rfl (Nat.le_of_ble_eq_true rfl) (Nat.le_of_ble_eq_true rfl) rfl (ee191 (d + 0) 8 x1 (0:Int32) e29) ?_
          refine pv_e_bk (ps := [(98, .aload_n 0, 1), (99, .iload_n 2, 1), (100, .aload_n 0, 1)]) (t' := (0, 0, 101, [some (.ref 94), some (.int x1), some (.int x2), some (.int q5), z4], [.ref 94, .int x2, .ref 94], pv_mm s T30)) (by decide +kernel) rfl ?_
          refine pv_e_gr (i := 13) (ci := 6) (j := 3) (b := 96) (pc' := 104) (by decide +kernel) rfl rfl rfl ?_
          refine pv_e_bk (ps := [(104, .iload_n 1, 1)]) (t' := (0, 0, 105, [some (.ref 94), some (.int x1), some (.int x2), some (.int q5), z4], [.int x1, .ref 96, .int x2, .ref 94], pv_mm s T30)) (by decide +kernel) rfl ?_
          obtain ⟨q31, e32, h⟩ := Option.bind_eq_some_iff.mp h
          refine pv_e_rm (pc' := 106) (by decide +kernel) (by decide) rfl e32 rfl ?_
          obtain ⟨⟨q34, T35⟩, e33, h⟩ := Option.bind_eq_some_iff.mp h
          dsimp only at h
          refine pv_e_cvi (d := d + 13) (i := 265) (z := 189) (np := 2) (ml := 4) (ci := 6) (As := [.int x2, .int q31]) (rs := []) (pc' := 109) (by decide +kernel) rfl rfl rfl rfl (Nat.le_of_ble_eq_true rfl) (Nat.le_of_ble_eq_true rfl) rfl (ee189 (d + 10) x2 q31 e33) ?_
          obtain rfl := Option.some.inj h
          cases hr
          exact pv_e_ri (by decide +kernel)
        · dsimp only at h ⊢
          obtain rfl := Option.some.inj h
          exact hr
      · rw [if_neg c10] at h
        refine pv_e_bk (ps := [(31, .aload_n 0, 1), (32, .iconst 5, 1)]) (t' := (0, 0, 33, [some (.ref 94), some (.int x1), some (.int x2), some (.int q5), none], [.int (5:Int32), .ref 94], pv_mm s T6)) (by decide +kernel) rfl ?_
        obtain ⟨⟨q40, T41⟩, e39, h⟩ := Option.bind_eq_some_iff.mp h
        dsimp only at h
        refine pv_e_cvi (d := d + 13) (i := 91) (z := 115) (np := 1) (ml := 2) (ci := 6) (As := [.int (5:Int32)]) (rs := []) (pc' := 36) (by decide +kernel) rfl rfl rfl rfl (Nat.le_of_ble_eq_true rfl) (Nat.le_of_ble_eq_true rfl) rfl (ee115 (d + 13) (5:Int32) e39) ?_
        obtain rfl := Option.some.inj h
        cases hr
        exact pv_e_ri (by decide +kernel)
    · rw [if_neg c7] at h
      refine pv_e_bk (ps := [(19, .iload_n 3, 1)]) (t' := (0, 0, 20, [some (.ref 94), some (.int x1), some (.int x2), some (.int q5), none], [.int q5], pv_mm s T6)) (by decide +kernel) rfl ?_
      obtain rfl := Option.some.inj h
      cases hr
      exact pv_e_ri (by decide +kernel)
def f193_isSpared_b1 (v1 : Int32) (v2 : Int32) (v3 : Int32) (st : Int32 × pv_T) : Option ((Int32 × pv_T) ⊕ (Int32 × pv_T)) := match st with
  | (v4, T) =>
    if v3 ≤ v4 then
      some (.inr (v4, T))
    else
      (f142_lenOf v2 T).bind fun q5 =>
      (pv_wm T 105 78 (((6:Int32) * v2) + q5) (97:Int32)).bind fun T6 =>
      (pv_rd T6.1 105 78 ((42:Int32) + v2)).bind fun q8 =>
      (pv_wm T6 105 78 ((42:Int32) + v2) (q8 + (1:Int32))).bind fun T10 =>
      some (.inl (v4 + (1:Int32), T10))
def f193_isSpared_b1_H (xs : Nat → Int32) (L d : Nat) (r : Option Value × pv_M) (s : pv_F) (v1 : Int32) (v2 : Int32) (v3 : Int32) (st : Int32 × pv_T) : Prop := match st with
  | (v4, T) => pv_Ev xs L (d + 6) 193 (0, 0, 7, [some (.ref 94), some (.int v1), some (.int v2), some (.int v3), some (.int v4), none], [], pv_mm s T) r
def f193_isSpared_b1_X (xs : Nat → Int32) (L d : Nat) (r : Option Value × pv_M) (s : pv_F) (v1 : Int32) (v2 : Int32) (v3 : Int32) (st : Int32 × pv_T) : Prop := match st with
  | (v4, T) => ∀ z4 : Option Value, pv_Ev xs L (d + 6) 193 (0, 0, 49, [some (.ref 94), some (.int v1), some (.int v2), some (.int v3), z4, none], [], pv_mm s T) r
def f193_isSpared (x1 : Int32) (x2 : Int32) (x3 : Int32) (T : pv_T) : Option (Int32 × pv_T) :=
  (f168_putAside T).bind fun T2 =>
  (pv_lq (f193_isSpared_b1 x1 x2 x3) 20000 ((0:Int32), T2)).bind fun (w12, T13) =>
  (f184_missed T13).bind fun q15 =>
  (f185_callOn x1 T13).bind fun (q17, T18) =>
  (pv_rd T18.1 96 6 x1).bind fun q19 =>
  ((
    if q17 = q19 then
      (f184_missed T18).bind fun q30 =>
      if q30 = q15 then
        some (1:Int32)
      else
        some (0:Int32)
    else
      some (0:Int32)) : Option (Int32)).bind fun t21 =>
  (f169_comeBack T18).bind fun T23 =>
  (pv_bl t21).bind fun q24 => some (q24, T23)
theorem f193_isSpared_b1_ok {xs : Nat → Int32} {L d : Nat} {r : Option Value × pv_M} {s : pv_F} {v1 : Int32} {v2 : Int32} {v3 : Int32} (st : Int32 × pv_T) (o : (Int32 × pv_T) ⊕ (Int32 × pv_T)) (h : f193_isSpared_b1 v1 v2 v3 st = some o) (hK : pv_Kq (f193_isSpared_b1_H xs L d r s v1 v2 v3) (f193_isSpared_b1_X xs L d r s v1 v2 v3) o) : f193_isSpared_b1_H xs L d r s v1 v2 v3 st := by
  obtain ⟨v4, T⟩ := st
  show pv_Ev xs L (d + 6) 193 (0, 0, 7, [some (.ref 94), some (.int v1), some (.int v2), some (.int v3), some (.int v4), none], [], pv_mm s T) r
  unfold f193_isSpared_b1 at h
  dsimp only at h
  refine pv_e_bk (ps := [(7, .iload 4, 2), (9, .iload_n 3, 1)]) (t' := (0, 0, 10, [some (.ref 94), some (.int v1), some (.int v2), some (.int v3), some (.int v4), none], [.int v3, .int v4], pv_mm s T)) (by decide +kernel) rfl ?_
  refine pv_e_icmpge (off := 39) (b := 49) (pc' := 13) (by decide +kernel) (by decide +kernel) rfl (fun c3 => ?_) (fun c3 => ?_)
  · rw [if_pos c3] at h
    obtain rfl := Option.some.inj h
    exact hK _
  · rw [if_neg c3] at h
    refine pv_e_bk (ps := [(13, .aload_n 0, 1)]) (t' := (0, 0, 14, [some (.ref 94), some (.int v1), some (.int v2), some (.int v3), some (.int v4), none], [.ref 94], pv_mm s T)) (by decide +kernel) rfl ?_
    refine pv_e_gr (i := 44) (ci := 6) (j := 17) (b := 105) (pc' := 17) (by decide +kernel) rfl rfl rfl ?_
    refine pv_e_bk (ps := [(17, .bipush 6, 2), (19, .iload_n 2, 1), (20, .imul, 1), (21, .aload_n 0, 1), (22, .iload_n 2, 1)]) (t' := (0, 0, 23, [some (.ref 94), some (.int v1), some (.int v2), some (.int v3), some (.int v4), none], [.int v2, .ref 94, .int ((6:Int32) * v2), .ref 105], pv_mm s T)) (by decide +kernel) rfl ?_
    obtain ⟨q5, e4, h⟩ := Option.bind_eq_some_iff.mp h
    refine pv_e_cvi (d := d + 5) (i := 142) (z := 142) (np := 1) (ml := 2) (ci := 6) (As := [.int v2]) (rs := [.int ((6:Int32) * v2), .ref 105]) (pc' := 26) (by decide +kernel) rfl rfl rfl rfl (Nat.le_of_ble_eq_true rfl) (Nat.le_of_ble_eq_true rfl) rfl (ee142 (d + 5) v2 e4) ?_
    refine pv_e_bk (ps := [(26, .iadd, 1), (27, .bipush 97, 2)]) (t' := (0, 0, 29, [some (.ref 94), some (.int v1), some (.int v2), some (.int v3), some (.int v4), none], [.int (97:Int32), .int (((6:Int32) * v2) + q5), .ref 105], pv_mm s T)) (by decide +kernel) rfl ?_
    obtain ⟨T6, e7, h⟩ := Option.bind_eq_some_iff.mp h
    refine pv_e_wm (pc' := 30) (by decide +kernel) (by decide) rfl e7 rfl ?_
    refine pv_e_bk (ps := [(30, .aload_n 0, 1)]) (t' := (0, 0, 31, [some (.ref 94), some (.int v1), some (.int v2), some (.int v3), some (.int v4), none], [.ref 94], pv_mm s T6)) (by decide +kernel) rfl ?_
    refine pv_e_gr (i := 44) (ci := 6) (j := 17) (b := 105) (pc' := 34) (by decide +kernel) rfl rfl rfl ?_
    refine pv_e_bk (ps := [(34, .bipush 42, 2), (36, .iload_n 2, 1), (37, .iadd, 1), (38, .dup2, 1)]) (t' := (0, 0, 39, [some (.ref 94), some (.int v1), some (.int v2), some (.int v3), some (.int v4), none], [.int ((42:Int32) + v2), .ref 105, .int ((42:Int32) + v2), .ref 105], pv_mm s T6)) (by decide +kernel) rfl ?_
    obtain ⟨q8, e9, h⟩ := Option.bind_eq_some_iff.mp h
    refine pv_e_rm (pc' := 40) (by decide +kernel) (by decide) rfl e9 rfl ?_
    refine pv_e_bk (ps := [(40, .iconst 1, 1), (41, .iadd, 1)]) (t' := (0, 0, 42, [some (.ref 94), some (.int v1), some (.int v2), some (.int v3), some (.int v4), none], [.int (q8 + (1:Int32)), .int ((42:Int32) + v2), .ref 105], pv_mm s T6)) (by decide +kernel) rfl ?_
    obtain ⟨T10, e11, h⟩ := Option.bind_eq_some_iff.mp h
    refine pv_e_wm (pc' := 43) (by decide +kernel) (by decide) rfl e11 rfl ?_
    refine pv_e_bk (ps := [(43, .iinc 4 1, 3), (46, .goto (-39), 3)]) (t' := (0, 0, 7, [some (.ref 94), some (.int v1), some (.int v2), some (.int v3), some (.int (v4 + (1:Int32))), none], [], pv_mm s T10)) (by decide +kernel) rfl ?_
    obtain rfl := Option.some.inj h
    exact hK
theorem ee193 {xs : Nat → Int32} {L : Nat} (d : Nat) (x1 : Int32) (x2 : Int32) (x3 : Int32) {s : pv_F} {T : pv_T} {q : Int32 × pv_T}  (h : f193_isSpared x1 x2 x3 T = some q) : pv_Ev xs L (d + 6) 193 (0, 0, 0, [some (.ref 94), some (.int x1), some (.int x2), some (.int x3), none, none], [], pv_mm s T) (some (.int q.1), pv_mm s q.2) := by
  generalize hr : ((some (.int q.1), pv_mm s q.2) : Option Value × pv_M) = r
  unfold f193_isSpared at h
  refine pv_e_bk (ps := [(0, .aload_n 0, 1)]) (t' := (0, 0, 1, [some (.ref 94), some (.int x1), some (.int x2), some (.int x3), none, none], [.ref 94], pv_mm s T)) (by decide +kernel) rfl ?_
  obtain ⟨T2, e1, h⟩ := Option.bind_eq_some_iff.mp h
  refine pv_e_cvv (d := d + 5) (i := 206) (z := 168) (np := 0) (ml := 1) (ci := 6) (As := []) (rs := []) (pc' := 4) (by decide +kernel) rfl rfl rfl rfl (Nat.le_of_ble_eq_true rfl) (Nat.le_of_ble_eq_true rfl) rfl (ee168 (d + 4) e1) ?_
  refine pv_e_bk (ps := [(4, .iconst 0, 1), (5, .istore 4, 2)]) (t' := (0, 0, 7, [some (.ref 94), some (.int x1), some (.int x2), some (.int x3), some (.int (0:Int32)), none], [], pv_mm s T2)) (by decide +kernel) rfl ?_
  obtain ⟨⟨w12, T13⟩, e33, h⟩ := Option.bind_eq_some_iff.mp h
  dsimp only at h
  have hx32 : f193_isSpared_b1_X xs L d r s x1 x2 x3 (w12, T13) := by
    show ∀ z4 : Option Value, pv_Ev xs L (d + 6) 193 (0, 0, 49, [some (.ref 94), some (.int x1), some (.int x2), some (.int x3), z4, none], [], pv_mm s T13) r
    intro z4
    refine pv_e_bk (ps := [(49, .aload_n 0, 1)]) (t' := (0, 0, 50, [some (.ref 94), some (.int x1), some (.int x2), some (.int x3), z4, none], [.ref 94], pv_mm s T13)) (by decide +kernel) rfl ?_
    obtain ⟨q15, e14, h⟩ := Option.bind_eq_some_iff.mp h
    refine pv_e_cvi (d := d + 5) (i := 243) (z := 184) (np := 0) (ml := 3) (ci := 6) (As := []) (rs := []) (pc' := 53) (by decide +kernel) rfl rfl rfl rfl (Nat.le_of_ble_eq_true rfl) (Nat.le_of_ble_eq_true rfl) rfl (ee184 (d + 5) e14) ?_
    refine pv_e_bk (ps := [(53, .istore 4, 2), (55, .aload_n 0, 1), (56, .iload_n 1, 1)]) (t' := (0, 0, 57, [some (.ref 94), some (.int x1), some (.int x2), some (.int x3), some (.int q15), none], [.int x1, .ref 94], pv_mm s T13)) (by decide +kernel) rfl ?_
    obtain ⟨⟨q17, T18⟩, e16, h⟩ := Option.bind_eq_some_iff.mp h
    dsimp only at h
    refine pv_e_cvi (d := d + 5) (i := 246) (z := 185) (np := 1) (ml := 3) (ci := 6) (As := [.int x1]) (rs := []) (pc' := 60) (by decide +kernel) rfl rfl rfl rfl (Nat.le_of_ble_eq_true rfl) (Nat.le_of_ble_eq_true rfl) rfl (ee185 (d + 0) x1 e16) ?_
    refine pv_e_bk (ps := [(60, .aload_n 0, 1)]) (t' := (0, 0, 61, [some (.ref 94), some (.int x1), some (.int x2), some (.int x3), some (.int q15), none], [.ref 94, .int q17], pv_mm s T18)) (by decide +kernel) rfl ?_
    refine pv_e_gr (i := 13) (ci := 6) (j := 3) (b := 96) (pc' := 64) (by decide +kernel) rfl rfl rfl ?_
    refine pv_e_bk (ps := [(64, .iload_n 1, 1)]) (t' := (0, 0, 65, [some (.ref 94), some (.int x1), some (.int x2), some (.int x3), some (.int q15), none], [.int x1, .ref 96, .int q17], pv_mm s T18)) (by decide +kernel) rfl ?_
    obtain ⟨q19, e20, h⟩ := Option.bind_eq_some_iff.mp h
    refine pv_e_rm (pc' := 66) (by decide +kernel) (by decide) rfl e20 rfl ?_
    obtain ⟨t21, hv26, h⟩ := Option.bind_eq_some_iff.mp h
    have hJ27 : pv_Ev xs L (d + 6) 193 (0, 0, 83, [some (.ref 94), some (.int x1), some (.int x2), some (.int x3), some (.int q15), none], [.int t21], pv_mm s T18) r := by
      refine pv_e_bk (ps := [(83, .istore 5, 2), (85, .aload_n 0, 1)]) (t' := (0, 0, 86, [some (.ref 94), some (.int x1), some (.int x2), some (.int x3), some (.int q15), some (.int t21)], [.ref 94], pv_mm s T18)) (by decide +kernel) rfl ?_
      obtain ⟨T23, e22, h⟩ := Option.bind_eq_some_iff.mp h
      refine pv_e_cvv (d := d + 5) (i := 209) (z := 169) (np := 0) (ml := 1) (ci := 6) (As := []) (rs := []) (pc' := 89) (by decide +kernel) rfl rfl rfl rfl (Nat.le_of_ble_eq_true rfl) (Nat.le_of_ble_eq_true rfl) rfl (ee169 (d + 4) e22) ?_
      refine pv_e_bk (ps := [(89, .iload 5, 2)]) (t' := (0, 0, 91, [some (.ref 94), some (.int x1), some (.int x2), some (.int x3), some (.int q15), some (.int t21)], [.int t21], pv_mm s T23)) (by decide +kernel) rfl ?_
      obtain ⟨q24, e25, h⟩ := Option.bind_eq_some_iff.mp h
      obtain rfl := Option.some.inj h
      cases hr
      exact pv_e_rz (by decide +kernel) e25
    clear h
    have h := hv26
    clear hv26
    refine pv_e_icmpne (off := 16) (b := 82) (pc' := 69) (by decide +kernel) (by decide +kernel) rfl (fun c28 => ?_) (fun c28 => ?_)
    · rw [if_pos c28] at h
      refine pv_e_bk (ps := [(69, .aload_n 0, 1)]) (t' := (0, 0, 70, [some (.ref 94), some (.int x1), some (.int x2), some (.int x3), some (.int q15), none], [.ref 94], pv_mm s T18)) (by decide +kernel) rfl ?_
      obtain ⟨q30, e29, h⟩ := Option.bind_eq_some_iff.mp h
      refine pv_e_cvi (d := d + 5) (i := 243) (z := 184) (np := 0) (ml := 3) (ci := 6) (As := []) (rs := []) (pc' := 73) (by decide +kernel) rfl rfl rfl rfl (Nat.le_of_ble_eq_true rfl) (Nat.le_of_ble_eq_true rfl) rfl (ee184 (d + 5) e29) ?_
      refine pv_e_bk (ps := [(73, .iload 4, 2)]) (t' := (0, 0, 75, [some (.ref 94), some (.int x1), some (.int x2), some (.int x3), some (.int q15), none], [.int q15, .int q30], pv_mm s T18)) (by decide +kernel) rfl ?_
      refine pv_e_icmpne (off := 7) (b := 82) (pc' := 78) (by decide +kernel) (by decide +kernel) rfl (fun c31 => ?_) (fun c31 => ?_)
      · rw [if_pos c31] at h
        refine pv_e_bk (ps := [(78, .iconst 1, 1), (79, .goto 4, 3)]) (t' := (0, 0, 83, [some (.ref 94), some (.int x1), some (.int x2), some (.int x3), some (.int q15), none], [.int (1:Int32)], pv_mm s T18)) (by decide +kernel) rfl ?_
        obtain rfl := Option.some.inj h
        exact hJ27
      · rw [if_neg c31] at h
        refine pv_e_bk (ps := [(82, .iconst 0, 1)]) (t' := (0, 0, 83, [some (.ref 94), some (.int x1), some (.int x2), some (.int x3), some (.int q15), none], [.int (0:Int32)], pv_mm s T18)) (by decide +kernel) rfl ?_
        obtain rfl := Option.some.inj h
        exact hJ27
    · rw [if_neg c28] at h
      refine pv_e_bk (ps := [(82, .iconst 0, 1)]) (t' := (0, 0, 83, [some (.ref 94), some (.int x1), some (.int x2), some (.int x3), some (.int q15), none], [.int (0:Int32)], pv_mm s T18)) (by decide +kernel) rfl ?_
      obtain rfl := Option.some.inj h
      exact hJ27
  exact pv_lq_ok (H := f193_isSpared_b1_H xs L d r s x1 x2 x3) (X := f193_isSpared_b1_X xs L d r s x1 x2 x3) (f193_isSpared_b1_ok (xs := xs) (L := L) (d := d) (r := r) (s := s) (v1 := x1) (v2 := x2) (v3 := x3)) 20000 _ _ e33 hx32
