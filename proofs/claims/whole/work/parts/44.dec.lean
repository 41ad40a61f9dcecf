-- printed by wip/whole/gen/parts.py: methods as functions over the ints of the memory, and that the pure machine runs so
def f215_digest_b1 (st : Int32 × pv_T) : Option ((Int32 × pv_T) ⊕ (Int32 × pv_T)) := match st with
  | (v1, T) =>
    if (8:Int32) < v1 then
      some (.inr (v1, T))
    else
      (f209_tells v1 T).bind fun q5 =>
      (f213_mix q5 T).bind fun T7 =>
      some (.inl (v1 + (1:Int32), T7))
def f215_digest_b1_H (xs : Nat → Int32) (L d : Nat) (r : Option Value × pv_M) (s : pv_F) (st : Int32 × pv_T) : Prop := match st with
  | (v1, T) => pv_Ev xs L (d + 3) 215 (0, 0, 9, [some (.ref 94), some (.int v1), none], [], pv_mm s T) r
def f215_digest_b1_X (xs : Nat → Int32) (L d : Nat) (r : Option Value × pv_M) (s : pv_F) (st : Int32 × pv_T) : Prop := match st with
  | (v1, T) => ∀ z1 : Option Value, pv_Ev xs L (d + 3) 215 (0, 0, 30, [some (.ref 94), z1, none], [], pv_mm s T) r
def f215_digest_b3 (v1 : Int32) (st : Int32 × pv_T) : Option ((Int32 × pv_T) ⊕ (Int32 × pv_T)) := match st with
  | (v2, T) =>
    (pv_rd T.1 96 6 v1).bind fun q18 =>
    if q18 ≤ v2 then
      some (.inr (v2, T))
    else
      (f123_rowAt v1 v2 T).bind fun q22 =>
      (f213_mix q22 T).bind fun T24 =>
      some (.inl (v2 + (1:Int32), T24))
def f215_digest_b3_H (xs : Nat → Int32) (L d : Nat) (r : Option Value × pv_M) (s : pv_F) (v1 : Int32) (st : Int32 × pv_T) : Prop := match st with
  | (v2, T) => pv_Ev xs L (d + 3) 215 (0, 0, 67, [some (.ref 94), some (.int v1), some (.int v2)], [], pv_mm s T) r
def f215_digest_b3_X (xs : Nat → Int32) (L d : Nat) (r : Option Value × pv_M) (s : pv_F) (v1 : Int32) (st : Int32 × pv_T) : Prop := match st with
  | (v2, T) => ∀ z2 : Option Value, pv_Ev xs L (d + 3) 215 (0, 0, 93, [some (.ref 94), some (.int v1), z2], [], pv_mm s T) r
def f215_digest_b2 (st : Int32 × pv_T) : Option ((Int32 × pv_T) ⊕ (Int32 × pv_T)) := match st with
  | (v1, T) =>
    if (6:Int32) ≤ v1 then
      some (.inr (v1, T))
    else
      (pv_rd T.1 96 6 v1).bind fun q13 =>
      ((
        if 0 ≤ q13 then
          (pv_rd T.1 96 6 v1).bind fun q32 =>
          some q32
        else
          some (-1:Int32)) : Option (Int32)).bind fun t15 =>
      (f213_mix t15 T).bind fun T17 =>
      (pv_lq (f215_digest_b3 v1) 20000 ((0:Int32), T17)).bind fun (w25, T26) =>
      some (.inl (v1 + (1:Int32), T26))
def f215_digest_b2_H (xs : Nat → Int32) (L d : Nat) (r : Option Value × pv_M) (s : pv_F) (st : Int32 × pv_T) : Prop := match st with
  | (v1, T) => ∀ z2 : Option Value, pv_Ev xs L (d + 3) 215 (0, 0, 36, [some (.ref 94), some (.int v1), z2], [], pv_mm s T) r
def f215_digest_b2_X (xs : Nat → Int32) (L d : Nat) (r : Option Value × pv_M) (s : pv_F) (st : Int32 × pv_T) : Prop := match st with
  | (v1, T) => ∀ z1 : Option Value, ∀ z2 : Option Value, pv_Ev xs L (d + 3) 215 (0, 0, 99, [some (.ref 94), z1, z2], [], pv_mm s T) r
def f215_digest_b5 (v1 : Int32) (st : Int32 × pv_T) : Option ((Int32 × pv_T) ⊕ (Int32 × pv_T)) := match st with
  | (v2, T) =>
    (pv_rd T.1 99 4 v1).bind fun q42 =>
    if q42 ≤ v2 then
      some (.inr (v2, T))
    else
      (pv_rd T.1 100 320 (((80:Int32) * v1) + v2)).bind fun q45 =>
      (f213_mix q45 T).bind fun T48 =>
      some (.inl (v2 + (1:Int32), T48))
def f215_digest_b5_H (xs : Nat → Int32) (L d : Nat) (r : Option Value × pv_M) (s : pv_F) (v1 : Int32) (st : Int32 × pv_T) : Prop := match st with
  | (v2, T) => pv_Ev xs L (d + 3) 215 (0, 0, 131, [some (.ref 94), some (.int v1), some (.int v2)], [], pv_mm s T) r
def f215_digest_b5_X (xs : Nat → Int32) (L d : Nat) (r : Option Value × pv_M) (s : pv_F) (v1 : Int32) (st : Int32 × pv_T) : Prop := match st with
  | (v2, T) => ∀ z2 : Option Value, pv_Ev xs L (d + 3) 215 (0, 0, 162, [some (.ref 94), some (.int v1), z2], [], pv_mm s T) r
def f215_digest_b4 (st : Int32 × pv_T) : Option ((Int32 × pv_T) ⊕ (Int32 × pv_T)) := match st with
  | (v1, T) =>
    if (4:Int32) ≤ v1 then
      some (.inr (v1, T))
    else
      (pv_rd T.1 99 4 v1).bind fun q37 =>
      ((
        if 0 ≤ q37 then
          (pv_rd T.1 99 4 v1).bind fun q56 =>
          some q56
        else
          some (-1:Int32)) : Option (Int32)).bind fun t39 =>
      (f213_mix t39 T).bind fun T41 =>
      (pv_lq (f215_digest_b5 v1) 20000 ((0:Int32), T41)).bind fun (w49, T50) =>
      some (.inl (v1 + (1:Int32), T50))
def f215_digest_b4_H (xs : Nat → Int32) (L d : Nat) (r : Option Value × pv_M) (s : pv_F) (st : Int32 × pv_T) : Prop := match st with
  | (v1, T) => ∀ z2 : Option Value, pv_Ev xs L (d + 3) 215 (0, 0, 101, [some (.ref 94), some (.int v1), z2], [], pv_mm s T) r
def f215_digest_b4_X (xs : Nat → Int32) (L d : Nat) (r : Option Value × pv_M) (s : pv_F) (st : Int32 × pv_T) : Prop := match st with
  | (v1, T) => ∀ z1 : Option Value, ∀ z2 : Option Value, pv_Ev xs L (d + 3) 215 (0, 0, 168, [some (.ref 94), z1, z2], [], pv_mm s T) r
def f215_digest (T : pv_T) : Option (Int64 × pv_T) :=
  (pv_plg T (17:Int64)).bind fun T1 =>
  (pv_lq (f215_digest_b1) 20000 ((0:Int32), T1)).bind fun (w8, T9) =>
  (f214_mixTown T9).bind fun T11 =>
  (pv_lq (f215_digest_b2) 20000 ((0:Int32), T11)).bind fun (w34, T35) =>
  (pv_lq (f215_digest_b4) 20000 ((0:Int32), T35)).bind fun (w58, T59) =>
  some (T59.2, T59)
theorem f215_digest_b1_ok {xs : Nat → Int32} {L d : Nat} {r : Option Value × pv_M} {s : pv_F} (st : Int32 × pv_T) (o : (Int32 × pv_T) ⊕ (Int32 × pv_T)) (h : f215_digest_b1 st = some o) (hK : pv_Kq (f215_digest_b1_H xs L d r s ) (f215_digest_b1_X xs L d r s ) o) : f215_digest_b1_H xs L d r s  st := by
  obtain ⟨v1, T⟩ := st
  show pv_Ev xs L (d + 3) 215 (0, 0, 9, [some (.ref 94), some (.int v1), none], [], pv_mm s T) r
  unfold f215_digest_b1 at h
  dsimp only at h
  refine pv_e_bk (ps := [(9, .iload_n 1, 1), (10, .bipush 8, 2)]) (t' := (0, 0, 12, [some (.ref 94), some (.int v1), none], [.int (8:Int32), .int v1], pv_mm s T)) (by decide +kernel) rfl ?_
  refine pv_e_icmpgt (off := 18) (b := 30) (pc' := 15) (by decide +kernel) (by decide +kernel) rfl (fun c3 => ?_) (fun c3 => ?_)
  · rw [if_pos c3] at h
    obtain rfl := Option.some.inj h
    exact hK _
  · rw [if_neg c3] at h
    refine pv_e_bk (ps := [(15, .aload_n 0, 1), (16, .aload_n 0, 1), (17, .iload_n 1, 1)]) (t' := (0, 0, 18, [some (.ref 94), some (.int v1), none], [.int v1, .ref 94, .ref 94], pv_mm s T)) (by decide +kernel) rfl ?_
    obtain ⟨q5, e4, h⟩ := Option.bind_eq_some_iff.mp h
    refine pv_e_cvi (d := d + 2) (i := 304) (z := 209) (np := 1) (ml := 4) (ci := 6) (As := [.int v1]) (rs := [.ref 94]) (pc' := 21) (by decide +kernel) rfl rfl rfl rfl (Nat.le_of_ble_eq_true rfl) (Nat.le_of_ble_eq_true rfl) rfl (ee209 (d + 1) v1 e4) ?_
    obtain ⟨T7, e6, h⟩ := Option.bind_eq_some_iff.mp h
    refine pv_e_cvv (d := d + 2) (i := 313) (z := 213) (np := 1) (ml := 2) (ci := 6) (As := [.int q5]) (rs := []) (pc' := 24) (by decide +kernel) rfl rfl rfl rfl (Nat.le_of_ble_eq_true rfl) (Nat.le_of_ble_eq_true rfl) rfl (ee213 (d + 2) q5 e6) ?_
    refine pv_e_bk (ps := [(24, .iinc 1 1, 3), (27, .goto (-18), 3)]) (t' := (0, 0, 9, [some (.ref 94), some (.int (v1 + (1:Int32))), none], [], pv_mm s T7)) (by decide +kernel) rfl ?_
    obtain rfl := Option.some.inj h
    exact hK
theorem f215_digest_b3_ok {xs : Nat → Int32} {L d : Nat} {r : Option Value × pv_M} {s : pv_F} {v1 : Int32} (st : Int32 × pv_T) (o : (Int32 × pv_T) ⊕ (Int32 × pv_T)) (h : f215_digest_b3 v1 st = some o) (hK : pv_Kq (f215_digest_b3_H xs L d r s v1) (f215_digest_b3_X xs L d r s v1) o) : f215_digest_b3_H xs L d r s v1 st := by
  obtain ⟨v2, T⟩ := st
  show pv_Ev xs L (d + 3) 215 (0, 0, 67, [some (.ref 94), some (.int v1), some (.int v2)], [], pv_mm s T) r
  unfold f215_digest_b3 at h
  dsimp only at h
  refine pv_e_bk (ps := [(67, .iload_n 2, 1), (68, .aload_n 0, 1)]) (t' := (0, 0, 69, [some (.ref 94), some (.int v1), some (.int v2)], [.ref 94, .int v2], pv_mm s T)) (by decide +kernel) rfl ?_
  refine pv_e_gr (i := 13) (ci := 6) (j := 3) (b := 96) (pc' := 72) (by decide +kernel) rfl rfl rfl ?_
  refine pv_e_bk (ps := [(72, .iload_n 1, 1)]) (t' := (0, 0, 73, [some (.ref 94), some (.int v1), some (.int v2)], [.int v1, .ref 96, .int v2], pv_mm s T)) (by decide +kernel) rfl ?_
  obtain ⟨q18, e19, h⟩ := Option.bind_eq_some_iff.mp h
  refine pv_e_rm (pc' := 74) (by decide +kernel) (by decide) rfl e19 rfl ?_
  refine pv_e_icmpge (off := 19) (b := 93) (pc' := 77) (by decide +kernel) (by decide +kernel) rfl (fun c20 => ?_) (fun c20 => ?_)
  · rw [if_pos c20] at h
    obtain rfl := Option.some.inj h
    exact hK _
  · rw [if_neg c20] at h
    refine pv_e_bk (ps := [(77, .aload_n 0, 1), (78, .aload_n 0, 1), (79, .iload_n 1, 1), (80, .iload_n 2, 1)]) (t' := (0, 0, 81, [some (.ref 94), some (.int v1), some (.int v2)], [.int v2, .int v1, .ref 94, .ref 94], pv_mm s T)) (by decide +kernel) rfl ?_
    obtain ⟨q22, e21, h⟩ := Option.bind_eq_some_iff.mp h
    refine pv_e_cvi (d := d + 2) (i := 105) (z := 123) (np := 2) (ml := 3) (ci := 6) (As := [.int v1, .int v2]) (rs := [.ref 94]) (pc' := 84) (by decide +kernel) rfl rfl rfl rfl (Nat.le_of_ble_eq_true rfl) (Nat.le_of_ble_eq_true rfl) rfl (ee123 (d + 2) v1 v2 e21) ?_
    obtain ⟨T24, e23, h⟩ := Option.bind_eq_some_iff.mp h
    refine pv_e_cvv (d := d + 2) (i := 313) (z := 213) (np := 1) (ml := 2) (ci := 6) (As := [.int q22]) (rs := []) (pc' := 87) (by decide +kernel) rfl rfl rfl rfl (Nat.le_of_ble_eq_true rfl) (Nat.le_of_ble_eq_true rfl) rfl (ee213 (d + 2) q22 e23) ?_
    refine pv_e_bk (ps := [(87, .iinc 2 1, 3), (90, .goto (-23), 3)]) (t' := (0, 0, 67, [some (.ref 94), some (.int v1), some (.int (v2 + (1:Int32)))], [], pv_mm s T24)) (by decide +kernel) rfl ?_
    obtain rfl := Option.some.inj h
    exact hK
theorem f215_digest_b2_ok {xs : Nat → Int32} {L d : Nat} {r : Option Value × pv_M} {s : pv_F} (st : Int32 × pv_T) (o : (Int32 × pv_T) ⊕ (Int32 × pv_T)) (h : f215_digest_b2 st = some o) (hK : pv_Kq (f215_digest_b2_H xs L d r s ) (f215_digest_b2_X xs L d r s ) o) : f215_digest_b2_H xs L d r s  st := by
  obtain ⟨v1, T⟩ := st
  show ∀ z2 : Option Value, pv_Ev xs L (d + 3) 215 (0, 0, 36, [some (.ref 94), some (.int v1), z2], [], pv_mm s T) r
  intro z2
  unfold f215_digest_b2 at h
  dsimp only at h
  refine pv_e_bk (ps := [(36, .iload_n 1, 1), (37, .bipush 6, 2)]) (t' := (0, 0, 39, [some (.ref 94), some (.int v1), z2], [.int (6:Int32), .int v1], pv_mm s T)) (by decide +kernel) rfl ?_
  refine pv_e_icmpge (off := 60) (b := 99) (pc' := 42) (by decide +kernel) (by decide +kernel) rfl (fun c12 => ?_) (fun c12 => ?_)
  · rw [if_pos c12] at h
    obtain rfl := Option.some.inj h
    exact hK _ _
  · rw [if_neg c12] at h
    refine pv_e_bk (ps := [(42, .aload_n 0, 1), (43, .aload_n 0, 1)]) (t' := (0, 0, 44, [some (.ref 94), some (.int v1), z2], [.ref 94, .ref 94], pv_mm s T)) (by decide +kernel) rfl ?_
    refine pv_e_gr (i := 13) (ci := 6) (j := 3) (b := 96) (pc' := 47) (by decide +kernel) rfl rfl rfl ?_
    refine pv_e_bk (ps := [(47, .iload_n 1, 1)]) (t' := (0, 0, 48, [some (.ref 94), some (.int v1), z2], [.int v1, .ref 96, .ref 94], pv_mm s T)) (by decide +kernel) rfl ?_
    obtain ⟨q13, e14, h⟩ := Option.bind_eq_some_iff.mp h
    refine pv_e_rm (pc' := 49) (by decide +kernel) (by decide) rfl e14 rfl ?_
    obtain ⟨t15, hv29, h⟩ := Option.bind_eq_some_iff.mp h
    have hJ30 : pv_Ev xs L (d + 3) 215 (0, 0, 62, [some (.ref 94), some (.int v1), z2], [.int t15, .ref 94], pv_mm s T) r := by
      obtain ⟨T17, e16, h⟩ := Option.bind_eq_some_iff.mp h
      refine pv_e_cvv (d := d + 2) (i := 313) (z := 213) (np := 1) (ml := 2) (ci := 6) (As := [.int t15]) (rs := []) (pc' := 65) (by decide +kernel) rfl rfl rfl rfl (Nat.le_of_ble_eq_true rfl) (Nat.le_of_ble_eq_true rfl) rfl (ee213 (d + 2) t15 e16) ?_
      refine pv_e_bk (ps := [(65, .iconst 0, 1), (66, .istore_n 2, 1)]) (t' := (0, 0, 67, [some (.ref 94), some (.int v1), some (.int (0:Int32))], [], pv_mm s T17)) (by decide +kernel) rfl ?_
      obtain ⟨⟨w25, T26⟩, e28, h⟩ := Option.bind_eq_some_iff.mp h
      dsimp only at h
      have hx27 : f215_digest_b3_X xs L d r s v1 (w25, T26) := by
        show ∀ z2 : Option Value, pv_Ev xs L (d + 3) 215 (0, 0, 93, [some (.ref 94), some (.int v1), z2], [], pv_mm s T26) r
        intro z2
        refine pv_e_bk (ps := [(93, .iinc 1 1, 3), (96, .goto (-60), 3)]) (t' := (0, 0, 36, [some (.ref 94), some (.int (v1 + (1:Int32))), z2], [], pv_mm s T26)) (by decide +kernel) rfl ?_
        obtain rfl := Option.some.inj h
        exact hK _
      exact pv_lq_ok (H := f215_digest_b3_H xs L d r s v1) (X := f215_digest_b3_X xs L d r s v1) (f215_digest_b3_ok (xs := xs) (L := L) (d := d) (r := r) (s := s) (v1 := v1)) 20000 _ _ e28 hx27
    clear h
    have h := hv29
    clear hv29
    refine pv_e_ifge (off := 7) (b := 56) (pc' := 52) (by decide +kernel) (by decide +kernel) rfl (fun c31 => ?_) (fun c31 => ?_)
    · rw [if_pos c31] at h
      refine pv_e_bk (ps := [(56, .aload_n 0, 1)]) (t' := (0, 0, 57, [some (.ref 94), some (.int v1), z2], [.ref 94, .ref 94], pv_mm s T)) (by decide +kernel) rfl ?_
      refine pv_e_gr (i := 13) (ci := 6) (j := 3) (b := 96) (pc' := 60) (by decide +kernel) rfl rfl rfl ?_
      refine pv_e_bk (ps := [(60, .iload_n 1, 1)]) (t' := (0, 0, 61, [some (.ref 94), some (.int v1), z2], [.int v1, .ref 96, .ref 94], pv_mm s T)) (by decide +kernel) rfl ?_
      obtain ⟨q32, e33, h⟩ := Option.bind_eq_some_iff.mp h
      refine pv_e_rm (pc' := 62) (by decide +kernel) (by decide) rfl e33 rfl ?_
      obtain rfl := Option.some.inj h
      exact hJ30
    · rw [if_neg c31] at h
      refine pv_e_bk (ps := [(52, .iconst (-1), 1), (53, .goto 9, 3)]) (t' := (0, 0, 62, [some (.ref 94), some (.int v1), z2], [.int (-1:Int32), .ref 94], pv_mm s T)) (by decide +kernel) rfl ?_
      obtain rfl := Option.some.inj h
      exact hJ30
theorem f215_digest_b5_ok {xs : Nat → Int32} {L d : Nat} {r : Option Value × pv_M} {s : pv_F} {v1 : Int32} (st : Int32 × pv_T) (o : (Int32 × pv_T) ⊕ (Int32 × pv_T)) (h : f215_digest_b5 v1 st = some o) (hK : pv_Kq (f215_digest_b5_H xs L d r s v1) (f215_digest_b5_X xs L d r s v1) o) : f215_digest_b5_H xs L d r s v1 st := by
  obtain ⟨v2, T⟩ := st
  show pv_Ev xs L (d + 3) 215 (0, 0, 131, [some (.ref 94), some (.int v1), some (.int v2)], [], pv_mm s T) r
  unfold f215_digest_b5 at h
  dsimp only at h
  refine pv_e_bk (ps := [(131, .iload_n 2, 1), (132, .aload_n 0, 1)]) (t' := (0, 0, 133, [some (.ref 94), some (.int v1), some (.int v2)], [.ref 94, .int v2], pv_mm s T)) (by decide +kernel) rfl ?_
  refine pv_e_gr (i := 22) (ci := 6) (j := 6) (b := 99) (pc' := 136) (by decide +kernel) rfl rfl rfl ?_
  refine pv_e_bk (ps := [(136, .iload_n 1, 1)]) (t' := (0, 0, 137, [some (.ref 94), some (.int v1), some (.int v2)], [.int v1, .ref 99, .int v2], pv_mm s T)) (by decide +kernel) rfl ?_
  obtain ⟨q42, e43, h⟩ := Option.bind_eq_some_iff.mp h
  refine pv_e_rm (pc' := 138) (by decide +kernel) (by decide) rfl e43 rfl ?_
  refine pv_e_icmpge (off := 24) (b := 162) (pc' := 141) (by decide +kernel) (by decide +kernel) rfl (fun c44 => ?_) (fun c44 => ?_)
  · rw [if_pos c44] at h
    obtain rfl := Option.some.inj h
    exact hK _
  · rw [if_neg c44] at h
    refine pv_e_bk (ps := [(141, .aload_n 0, 1), (142, .aload_n 0, 1)]) (t' := (0, 0, 143, [some (.ref 94), some (.int v1), some (.int v2)], [.ref 94, .ref 94], pv_mm s T)) (by decide +kernel) rfl ?_
    refine pv_e_gr (i := 25) (ci := 6) (j := 7) (b := 100) (pc' := 146) (by decide +kernel) rfl rfl rfl ?_
    refine pv_e_bk (ps := [(146, .bipush 80, 2), (148, .iload_n 1, 1), (149, .imul, 1), (150, .iload_n 2, 1), (151, .iadd, 1)]) (t' := (0, 0, 152, [some (.ref 94), some (.int v1), some (.int v2)], [.int (((80:Int32) * v1) + v2), .ref 100, .ref 94], pv_mm s T)) (by decide +kernel) rfl ?_
    obtain ⟨q45, e46, h⟩ := Option.bind_eq_some_iff.mp h
    refine pv_e_rm (pc' := 153) (by decide +kernel) (by decide) rfl e46 rfl ?_
    obtain ⟨T48, e47, h⟩ := Option.bind_eq_some_iff.mp h
    refine pv_e_cvv (d := d + 2) (i := 313) (z := 213) (np := 1) (ml := 2) (ci := 6) (As := [.int q45]) (rs := []) (pc' := 156) (by decide +kernel) rfl rfl rfl rfl (Nat.le_of_ble_eq_true rfl) (Nat.le_of_ble_eq_true rfl) rfl (ee213 (d + 2) q45 e47) ?_
    refine pv_e_bk (ps := [(156, .iinc 2 1, 3), (159, .goto (-28), 3)]) (t' := (0, 0, 131, [some (.ref 94), some (.int v1), some (.int (v2 + (1:Int32)))], [], pv_mm s T48)) (by decide +kernel) rfl ?_
    obtain rfl := Option.some.inj h
    exact hK
theorem f215_digest_b4_ok {xs : Nat → Int32} {L d : Nat} {r : Option Value × pv_M} {s : pv_F} (st : Int32 × pv_T) (o : (Int32 × pv_T) ⊕ (Int32 × pv_T)) (h : f215_digest_b4 st = some o) (hK : pv_Kq (f215_digest_b4_H xs L d r s ) (f215_digest_b4_X xs L d r s ) o) : f215_digest_b4_H xs L d r s  st := by
  obtain ⟨v1, T⟩ := st
  show ∀ z2 : Option Value, pv_Ev xs L (d + 3) 215 (0, 0, 101, [some (.ref 94), some (.int v1), z2], [], pv_mm s T) r
  intro z2
  unfold f215_digest_b4 at h
  dsimp only at h
  refine pv_e_bk (ps := [(101, .iload_n 1, 1), (102, .iconst 4, 1)]) (t' := (0, 0, 103, [some (.ref 94), some (.int v1), z2], [.int (4:Int32), .int v1], pv_mm s T)) (by decide +kernel) rfl ?_
  refine pv_e_icmpge (off := 65) (b := 168) (pc' := 106) (by decide +kernel) (by decide +kernel) rfl (fun c36 => ?_) (fun c36 => ?_)
  · rw [if_pos c36] at h
    obtain rfl := Option.some.inj h
    exact hK _ _
  · rw [if_neg c36] at h
    refine pv_e_bk (ps := [(106, .aload_n 0, 1), (107, .aload_n 0, 1)]) (t' := (0, 0, 108, [some (.ref 94), some (.int v1), z2], [.ref 94, .ref 94], pv_mm s T)) (by decide +kernel) rfl ?_
    refine pv_e_gr (i := 22) (ci := 6) (j := 6) (b := 99) (pc' := 111) (by decide +kernel) rfl rfl rfl ?_
    refine pv_e_bk (ps := [(111, .iload_n 1, 1)]) (t' := (0, 0, 112, [some (.ref 94), some (.int v1), z2], [.int v1, .ref 99, .ref 94], pv_mm s T)) (by decide +kernel) rfl ?_
    obtain ⟨q37, e38, h⟩ := Option.bind_eq_some_iff.mp h
    refine pv_e_rm (pc' := 113) (by decide +kernel) (by decide) rfl e38 rfl ?_
    obtain ⟨t39, hv53, h⟩ := Option.bind_eq_some_iff.mp h
    have hJ54 : pv_Ev xs L (d + 3) 215 (0, 0, 126, [some (.ref 94), some (.int v1), z2], [.int t39, .ref 94], pv_mm s T) r := by
      obtain ⟨T41, e40, h⟩ := Option.bind_eq_some_iff.mp h
      refine pv_e_cvv (d := d + 2) (i := 313) (z := 213) (np := 1) (ml := 2) (ci := 6) (As := [.int t39]) (rs := []) (pc' := 129) (by decide +kernel) rfl rfl rfl rfl (Nat.le_of_ble_eq_true rfl) (Nat.le_of_ble_eq_true rfl) rfl (ee213 (d + 2) t39 e40) ?_
      refine pv_e_bk (ps := [(129, .iconst 0, 1), (130, .istore_n 2, 1)]) (t' := (0, 0, 131, [some (.ref 94), some (.int v1), some (.int (0:Int32))], [], pv_mm s T41)) (by decide +kernel) rfl ?_
      obtain ⟨⟨w49, T50⟩, e52, h⟩ := Option.bind_eq_some_iff.mp h
      dsimp only at h
      have hx51 : f215_digest_b5_X xs L d r s v1 (w49, T50) := by
        show ∀ z2 : Option Value, pv_Ev xs L (d + 3) 215 (0, 0, 162, [some (.ref 94), some (.int v1), z2], [], pv_mm s T50) r
        intro z2
        refine pv_e_bk (ps := [(162, .iinc 1 1, 3), (165, .goto (-64), 3)]) (t' := (0, 0, 101, [some (.ref 94), some (.int (v1 + (1:Int32))), z2], [], pv_mm s T50)) (by decide +kernel) rfl ?_
        obtain rfl := Option.some.inj h
        exact hK _
      exact pv_lq_ok (H := f215_digest_b5_H xs L d r s v1) (X := f215_digest_b5_X xs L d r s v1) (f215_digest_b5_ok (xs := xs) (L := L) (d := d) (r := r) (s := s) (v1 := v1)) 20000 _ _ e52 hx51
    clear h
    have h := hv53
    clear hv53
    refine pv_e_ifge (off := 7) (b := 120) (pc' := 116) (by decide +kernel) (by decide +kernel) rfl (fun c55 => ?_) (fun c55 => ?_)
    · rw [if_pos c55] at h
      refine pv_e_bk (ps := [(120, .aload_n 0, 1)]) (t' := (0, 0, 121, [some (.ref 94), some (.int v1), z2], [.ref 94, .ref 94], pv_mm s T)) (by decide +kernel) rfl ?_
      refine pv_e_gr (i := 22) (ci := 6) (j := 6) (b := 99) (pc' := 124) (by decide +kernel) rfl rfl rfl ?_
      refine pv_e_bk (ps := [(124, .iload_n 1, 1)]) (t' := (0, 0, 125, [some (.ref 94), some (.int v1), z2], [.int v1, .ref 99, .ref 94], pv_mm s T)) (by decide +kernel) rfl ?_
      obtain ⟨q56, e57, h⟩ := Option.bind_eq_some_iff.mp h
      refine pv_e_rm (pc' := 126) (by decide +kernel) (by decide) rfl e57 rfl ?_
      obtain rfl := Option.some.inj h
      exact hJ54
    · rw [if_neg c55] at h
      refine pv_e_bk (ps := [(116, .iconst (-1), 1), (117, .goto 9, 3)]) (t' := (0, 0, 126, [some (.ref 94), some (.int v1), z2], [.int (-1:Int32), .ref 94], pv_mm s T)) (by decide +kernel) rfl ?_
      obtain rfl := Option.some.inj h
      exact hJ54
theorem ee215 {xs : Nat → Int32} {L : Nat} (d : Nat)  {s : pv_F} {T : pv_T} {q : Int64 × pv_T}  (h : f215_digest T = some q) : pv_Ev xs L (d + 3) 215 (0, 0, 0, [some (.ref 94), none, none], [], pv_mm s T) (some (.long q.1), pv_mm s q.2) := by
  generalize hr : ((some (.long q.1), pv_mm s q.2) : Option Value × pv_M) = r
  unfold f215_digest at h
  refine pv_e_bk (ps := [(0, .aload_n 0, 1), (1, .ldc2_w 316, 3)]) (t' := (0, 0, 4, [some (.ref 94), none, none], [.long (17:Int64), .ref 94], pv_mm s T)) (by decide +kernel) rfl ?_
  obtain ⟨T1, e2, h⟩ := Option.bind_eq_some_iff.mp h
  refine pv_e_pls (i := 309) (pc' := 7) (by decide +kernel) e2 rfl ?_
  refine pv_e_bk (ps := [(7, .iconst 0, 1), (8, .istore_n 1, 1)]) (t' := (0, 0, 9, [some (.ref 94), some (.int (0:Int32)), none], [], pv_mm s T1)) (by decide +kernel) rfl ?_
  obtain ⟨⟨w8, T9⟩, e65, h⟩ := Option.bind_eq_some_iff.mp h
  dsimp only at h
  have hx64 : f215_digest_b1_X xs L d r s (w8, T9) := by
    show ∀ z1 : Option Value, pv_Ev xs L (d + 3) 215 (0, 0, 30, [some (.ref 94), z1, none], [], pv_mm s T9) r
    intro z1
    refine pv_e_bk (ps := [(30, .aload_n 0, 1)]) (t' := (0, 0, 31, [some (.ref 94), z1, none], [.ref 94], pv_mm s T9)) (by decide +kernel) rfl ?_
    obtain ⟨T11, e10, h⟩ := Option.bind_eq_some_iff.mp h
    refine pv_e_cvv (d := d + 2) (i := 318) (z := 214) (np := 0) (ml := 3) (ci := 6) (As := []) (rs := []) (pc' := 34) (by decide +kernel) rfl rfl rfl rfl (Nat.le_of_ble_eq_true rfl) (Nat.le_of_ble_eq_true rfl) rfl (ee214 (d + 0) e10) ?_
    refine pv_e_bk (ps := [(34, .iconst 0, 1), (35, .istore_n 1, 1)]) (t' := (0, 0, 36, [some (.ref 94), some (.int (0:Int32)), none], [], pv_mm s T11)) (by decide +kernel) rfl ?_
    obtain ⟨⟨w34, T35⟩, e63, h⟩ := Option.bind_eq_some_iff.mp h
    dsimp only at h
    have hx62 : f215_digest_b2_X xs L d r s (w34, T35) := by
      show ∀ z1 : Option Value, ∀ z2 : Option Value, pv_Ev xs L (d + 3) 215 (0, 0, 99, [some (.ref 94), z1, z2], [], pv_mm s T35) r
      intro z1 z2
      refine pv_e_bk (ps := [(99, .iconst 0, 1), (100, .istore_n 1, 1)]) (t' := (0, 0, 101, [some (.ref 94), some (.int (0:Int32)), z2], [], pv_mm s T35)) (by decide +kernel) rfl ?_
      obtain ⟨⟨w58, T59⟩, e61, h⟩ := Option.bind_eq_some_iff.mp h
      dsimp only at h
      have hx60 : f215_digest_b4_X xs L d r s (w58, T59) := by
        show ∀ z1 : Option Value, ∀ z2 : Option Value, pv_Ev xs L (d + 3) 215 (0, 0, 168, [some (.ref 94), z1, z2], [], pv_mm s T59) r
        intro z1 z2
        refine pv_e_bk (ps := [(168, .aload_n 0, 1)]) (t' := (0, 0, 169, [some (.ref 94), z1, z2], [.ref 94], pv_mm s T59)) (by decide +kernel) rfl ?_
        refine pv_e_gl (i := 309) (ci := 6) (j := 35) (pc' := 172) (by decide +kernel) rfl rfl rfl ?_
        obtain rfl := Option.some.inj h
        cases hr
        exact pv_e_rl (by decide +kernel)
      exact pv_lq_ok (H := f215_digest_b4_H xs L d r s) (X := f215_digest_b4_X xs L d r s) (f215_digest_b4_ok (xs := xs) (L := L) (d := d) (r := r) (s := s)) 20000 _ _ e61 hx60 _
    exact pv_lq_ok (H := f215_digest_b2_H xs L d r s) (X := f215_digest_b2_X xs L d r s) (f215_digest_b2_ok (xs := xs) (L := L) (d := d) (r := r) (s := s)) 20000 _ _ e63 hx62 _
  exact pv_lq_ok (H := f215_digest_b1_H xs L d r s) (X := f215_digest_b1_X xs L d r s) (f215_digest_b1_ok (xs := xs) (L := L) (d := d) (r := r) (s := s)) 20000 _ _ e65 hx64
