-- printed by wip/whole/gen/parts.py: methods as functions over the ints of the memory, and that the pure machine runs so
def f191_callers_b1 (v1 : Int32) (v2 : Int32) (T : pv_T) (st : Int32) : Option (Int32 ⊕ (Int32 ⊕ (Int32 × pv_T))) := match st with
  | v4 =>
    (pv_rd T.1 96 6 v1).bind fun q11 =>
    if q11 ≤ v4 then
      some (.inr (.inl v4))
    else
      (f122_rowAt v1 v4 T).bind fun q15 =>
      (f139_isOne q15 T).bind fun q17 =>
      if q17 = 0 then
        (f114_meet (3:Int32) T).bind fun (q20, T21) =>
        some (.inr (.inr (q20, T21)))
      else
        some (.inl (v4 + (1:Int32)))
def f191_callers_b1_H (xs : Nat → Int32) (L d : Nat) (r : Option Value × pv_M) (s : pv_F) (v1 : Int32) (v2 : Int32) (T : pv_T) (v3 : Int32) (st : Int32) : Prop := match st with
  | v4 => pv_Ev xs L (d + 14) 191 (0, 0, 40, [some (.ref 94), some (.int v1), some (.int v2), some (.int v3), some (.int v4)], [], pv_mm s T) r
def f191_callers_b1_X (xs : Nat → Int32) (L d : Nat) (r : Option Value × pv_M) (s : pv_F) (v1 : Int32) (v2 : Int32) (T : pv_T) (v3 : Int32) (st : Int32) : Prop := match st with
  | v4 => ∀ z4 : Option Value, pv_Ev xs L (d + 14) 191 (0, 0, 77, [some (.ref 94), some (.int v1), some (.int v2), some (.int v3), z4], [], pv_mm s T) r
def f191_callers (x1 : Int32) (x2 : Int32) (T : pv_T) : Option (Int32 × pv_T) :=
  (f118_isRow x2).bind fun q2 =>
  if q2 = 0 then
    some ((-1:Int32), T)
  else
    (f120_askedRow x1 T).bind fun (q5, T6) =>
    if 0 ≤ q5 then
      (pv_rd T6.1 96 6 x1).bind fun q8 =>
      if q8 ≤ (5:Int32) then
        (pv_lp (f191_callers_b1 x1 x2 T6) 20000 (0:Int32)).bind fun o38 => match o38 with
          | .inl w22 =>
            (pv_pm T6 94 30 (1048576:Int32)).bind fun T23 =>
            (f183_missed T23).bind fun q26 =>
            (pv_pm T23 94 31 q26).bind fun T27 =>
            (f190_callersOn 8 x1 (0:Int32) T27).bind fun T30 =>
            (pv_rd T30.1 96 6 x1).bind fun q31 =>
            (f188_layBest x2 q31 T30).bind fun (q34, T35) =>
            some (q34, T35)
          | .inr q => some q
      else
        (f114_meet (5:Int32) T6).bind fun (q40, T41) =>
        some (q40, T41)
    else
      some (q5, T6)
theorem f191_callers_b1_ok {xs : Nat → Int32} {L d : Nat} {r : Option Value × pv_M} {s : pv_F} {v1 : Int32} {v2 : Int32} {T : pv_T} {v3 : Int32} (st : Int32) (o : Int32 ⊕ (Int32 ⊕ (Int32 × pv_T))) (h : f191_callers_b1 v1 v2 T st = some o) (hK : pv_Kp (f191_callers_b1_H xs L d r s v1 v2 T v3) (f191_callers_b1_X xs L d r s v1 v2 T v3) (fun q => (some (.int q.1), pv_mm s q.2) = r) o) : f191_callers_b1_H xs L d r s v1 v2 T v3 st := by
  obtain ⟨v4, rfl⟩ : ∃ z, z = st := ⟨st, rfl⟩
  show pv_Ev xs L (d + 14) 191 (0, 0, 40, [some (.ref 94), some (.int v1), some (.int v2), some (.int v3), some (.int v4)], [], pv_mm s T) r
  unfold f191_callers_b1 at h
  dsimp only at h
  refine pv_e_bk (ps := [(40, .iload 4, 2), (42, .aload_n 0, 1)]) (t' := (0, 0, 43, [some (.ref 94), some (.int v1), some (.int v2), some (.int v3), some (.int v4)], [.ref 94, .int v4], pv_mm s T)) (by decide +kernel) rfl ?_
  refine pv_e_gr (i := 13) (ci := 6) (j := 3) (b := 96) (pc' := 46) (by decide +kernel) rfl rfl rfl ?_
  refine pv_e_bk (ps := [(46, .iload_n 1, 1)]) (t' := (0, 0, 47, [some (.ref 94), some (.int v1), some (.int v2), some (.int v3), some (.int v4)], [.int v1, .ref 96, .int v4], pv_mm s T)) (by decide +kernel) rfl ?_
  obtain ⟨q11, e12, h⟩ := Option.bind_eq_some_iff.mp h
  refine pv_e_rm (pc' := 48) (by decide +kernel) (by decide) rfl e12 rfl ?_
  refine pv_e_icmpge (off := 29) (b := 77) (pc' := 51) (by decide +kernel) (by decide +kernel) rfl (fun c13 => ?_) (fun c13 => ?_)
  · rw [if_pos c13] at h
    obtain rfl := Option.some.inj h
    exact hK _
  · rw [if_neg c13] at h
    refine pv_e_bk (ps := [(51, .aload_n 0, 1), (52, .aload_n 0, 1), (53, .iload_n 1, 1), (54, .iload 4, 2)]) (t' := (0, 0, 56, [some (.ref 94), some (.int v1), some (.int v2), some (.int v3), some (.int v4)], [.int v4, .int v1, .ref 94, .ref 94], pv_mm s T)) (by decide +kernel) rfl ?_
    obtain ⟨q15, e14, h⟩ := Option.bind_eq_some_iff.mp h
    refine pv_e_cvi (d := d + 13) (i := 105) (z := 122) (np := 2) (ml := 3) (ci := 6) (As := [.int v1, .int v4]) (rs := [.ref 94]) (pc' := 59) (by decide +kernel) rfl rfl rfl rfl (Nat.le_of_ble_eq_true rfl) (Nat.le_of_ble_eq_true rfl) rfl (ee122 (d + 13) v1 v4 e14) ?_
    obtain ⟨q17, e16, h⟩ := Option.bind_eq_some_iff.mp h
    refine pv_e_cvi (d := d + 13) (i := 152) (z := 139) (np := 1) (ml := 2) (ci := 6) (As := [.int q15]) (rs := []) (pc' := 62) (by decide +kernel) rfl rfl rfl rfl (Nat.le_of_ble_eq_true rfl) (Nat.le_of_ble_eq_true rfl) rfl (ee139 (d + 12) q15 e16) ?_
    refine pv_e_ifne (off := 9) (b := 71) (pc' := 65) (by decide +kernel) (by decide +kernel) rfl (fun c18 => ?_) (fun c18 => ?_)
    · rw [if_pos c18] at h
      refine pv_e_bk (ps := [(65, .aload_n 0, 1), (66, .iconst 3, 1)]) (t' := (0, 0, 67, [some (.ref 94), some (.int v1), some (.int v2), some (.int v3), some (.int v4)], [.int (3:Int32), .ref 94], pv_mm s T)) (by decide +kernel) rfl ?_
      obtain ⟨⟨q20, T21⟩, e19, h⟩ := Option.bind_eq_some_iff.mp h
      dsimp only at h
      refine pv_e_cvi (d := d + 13) (i := 91) (z := 114) (np := 1) (ml := 2) (ci := 6) (As := [.int (3:Int32)]) (rs := []) (pc' := 70) (by decide +kernel) rfl rfl rfl rfl (Nat.le_of_ble_eq_true rfl) (Nat.le_of_ble_eq_true rfl) rfl (ee114 (d + 13) (3:Int32) e19) ?_
      obtain rfl := Option.some.inj h
      cases hK
      exact pv_e_ri (by decide +kernel)
    · rw [if_neg c18] at h
      refine pv_e_bk (ps := [(71, .iinc 4 1, 3), (74, .goto (-34), 3)]) (t' := (0, 0, 40, [some (.ref 94), some (.int v1), some (.int v2), some (.int v3), some (.int (v4 + (1:Int32)))], [], pv_mm s T)) (by decide +kernel) rfl ?_
      obtain rfl := Option.some.inj h
      exact hK
theorem ee191 {xs : Nat → Int32} {L : Nat} (d : Nat) (x1 : Int32) (x2 : Int32) {s : pv_F} {T : pv_T} {q : Int32 × pv_T}  (h : f191_callers x1 x2 T = some q) : pv_Ev xs L (d + 14) 191 (0, 0, 0, [some (.ref 94), some (.int x1), some (.int x2), none, none], [], pv_mm s T) (some (.int q.1), pv_mm s q.2) := by
  generalize hr : ((some (.int q.1), pv_mm s q.2) : Option Value × pv_M) = r
  unfold f191_callers at h
  refine pv_e_bk (ps := [(0, .iload_n 2, 1)]) (t' := (0, 0, 1, [some (.ref 94), some (.int x1), some (.int x2), none, none], [.int x2], pv_mm s T)) (by decide +kernel) rfl ?_
  obtain ⟨q2, e1, h⟩ := Option.bind_eq_some_iff.mp h
  refine pv_e_csi (d := d + 13) (i := 87) (z := 118) (np := 1) (ml := 1) (As := [.int x2]) (rs := []) (pc' := 4) (by decide +kernel) rfl rfl rfl (Nat.le_of_ble_eq_true rfl) (Nat.le_of_ble_eq_true rfl) rfl (ee118 (d + 12) x2 e1) ?_
  refine pv_e_ifne (off := 5) (b := 9) (pc' := 7) (by decide +kernel) (by decide +kernel) rfl (fun c3 => ?_) (fun c3 => ?_)
  · rw [if_pos c3] at h
    refine pv_e_bk (ps := [(7, .iconst (-1), 1)]) (t' := (0, 0, 8, [some (.ref 94), some (.int x1), some (.int x2), none, none], [.int (-1:Int32)], pv_mm s T)) (by decide +kernel) rfl ?_
    obtain rfl := Option.some.inj h
    cases hr
    exact pv_e_ri (by decide +kernel)
  · rw [if_neg c3] at h
    refine pv_e_bk (ps := [(9, .aload_n 0, 1), (10, .iload_n 1, 1)]) (t' := (0, 0, 11, [some (.ref 94), some (.int x1), some (.int x2), none, none], [.int x1, .ref 94], pv_mm s T)) (by decide +kernel) rfl ?_
    obtain ⟨⟨q5, T6⟩, e4, h⟩ := Option.bind_eq_some_iff.mp h
    dsimp only at h
    refine pv_e_cvi (d := d + 13) (i := 102) (z := 120) (np := 1) (ml := 2) (ci := 6) (As := [.int x1]) (rs := []) (pc' := 14) (by decide +kernel) rfl rfl rfl rfl (Nat.le_of_ble_eq_true rfl) (Nat.le_of_ble_eq_true rfl) rfl (ee120 (d + 11) x1 e4) ?_
    refine pv_e_bk (ps := [(14, .istore_n 3, 1), (15, .iload_n 3, 1)]) (t' := (0, 0, 16, [some (.ref 94), some (.int x1), some (.int x2), some (.int q5), none], [.int q5], pv_mm s T6)) (by decide +kernel) rfl ?_
    refine pv_e_ifge (off := 5) (b := 21) (pc' := 19) (by decide +kernel) (by decide +kernel) rfl (fun c7 => ?_) (fun c7 => ?_)
    · rw [if_pos c7] at h
      refine pv_e_bk (ps := [(21, .aload_n 0, 1)]) (t' := (0, 0, 22, [some (.ref 94), some (.int x1), some (.int x2), some (.int q5), none], [.ref 94], pv_mm s T6)) (by decide +kernel) rfl ?_
      refine pv_e_gr (i := 13) (ci := 6) (j := 3) (b := 96) (pc' := 25) (by decide +kernel) rfl rfl rfl ?_
      refine pv_e_bk (ps := [(25, .iload_n 1, 1)]) (t' := (0, 0, 26, [some (.ref 94), some (.int x1), some (.int x2), some (.int q5), none], [.int x1, .ref 96], pv_mm s T6)) (by decide +kernel) rfl ?_
      obtain ⟨q8, e9, h⟩ := Option.bind_eq_some_iff.mp h
      refine pv_e_rm (pc' := 27) (by decide +kernel) (by decide) rfl e9 rfl ?_
      refine pv_e_bk (ps := [(27, .iconst 5, 1)]) (t' := (0, 0, 28, [some (.ref 94), some (.int x1), some (.int x2), some (.int q5), none], [.int (5:Int32), .int q8], pv_mm s T6)) (by decide +kernel) rfl ?_
      refine pv_e_icmple (off := 9) (b := 37) (pc' := 31) (by decide +kernel) (by decide +kernel) rfl (fun c10 => ?_) (fun c10 => ?_)
      · rw [if_pos c10] at h
        refine pv_e_bk (ps := [(37, .iconst 0, 1), (38, .istore 4, 2)]) (t' := (0, 0, 40, [some (.ref 94), some (.int x1), some (.int x2), some (.int q5), some (.int (0:Int32))], [], pv_mm s T6)) (by decide +kernel) rfl ?_
        obtain ⟨o38, e37, h⟩ := Option.bind_eq_some_iff.mp h
        refine pv_lp_ok (H := f191_callers_b1_H xs L d r s x1 x2 T6 q5) (X := f191_callers_b1_X xs L d r s x1 x2 T6 q5) (Z := (fun q => (some (.int q.1), pv_mm s q.2) = r)) (f191_callers_b1_ok (xs := xs) (L := L) (d := d) (r := r) (s := s) (v1 := x1) (v2 := x2) (T := T6) (v3 := q5)) 20000 _ _ e37 ?_
        rcases o38 with w22 | q
        · dsimp only at h ⊢
          show ∀ z4 : Option Value, pv_Ev xs L (d + 14) 191 (0, 0, 77, [some (.ref 94), some (.int x1), some (.int x2), some (.int q5), z4], [], pv_mm s T6) r
          intro z4
          refine pv_e_bk (ps := [(77, .aload_n 0, 1), (78, .ldc_w 261, 3)]) (t' := (0, 0, 81, [some (.ref 94), some (.int x1), some (.int x2), some (.int q5), z4], [.int (1048576:Int32), .ref 94], pv_mm s T6)) (by decide +kernel) rfl ?_
          obtain ⟨T23, e24, h⟩ := Option.bind_eq_some_iff.mp h
          refine pv_e_pms (i := 252) (ci := 6) (j := 30) (pc' := 84) (by decide +kernel) rfl rfl (by decide) rfl rfl e24 rfl ?_
          refine pv_e_bk (ps := [(84, .aload_n 0, 1), (85, .aload_n 0, 1)]) (t' := (0, 0, 86, [some (.ref 94), some (.int x1), some (.int x2), some (.int q5), z4], [.ref 94, .ref 94], pv_mm s T23)) (by decide +kernel) rfl ?_
          obtain ⟨q26, e25, h⟩ := Option.bind_eq_some_iff.mp h
          refine pv_e_cvi (d := d + 13) (i := 243) (z := 183) (np := 0) (ml := 3) (ci := 6) (As := []) (rs := [.ref 94]) (pc' := 89) (by decide +kernel) rfl rfl rfl rfl (Nat.le_of_ble_eq_true rfl) (Nat.le_of_ble_eq_true rfl) rfl (ee183 (d + 13) e25) ?_
          obtain ⟨T27, e28, h⟩ := Option.bind_eq_some_iff.mp h
          refine pv_e_pms (i := 249) (ci := 6) (j := 31) (pc' := 92) (by decide +kernel) rfl rfl (by decide) rfl rfl e28 rfl ?_
          refine pv_e_bk (ps := [(92, .aload_n 0, 1), (93, .iload_n 1, 1), (94, .iconst 0, 1)]) (t' := (0, 0, 95, [some (.ref 94), some (.int x1), some (.int x2), some (.int q5), z4], [.int (0:Int32), .int x1, .ref 94], pv_mm s T27)) (by decide +kernel) rfl ?_
          obtain ⟨T30, e29, h⟩ := Option.bind_eq_some_iff.mp h
          refine pv_e_cvv (d := d + 13) (i := 268) (z := 190) (np := 2) (ml := 4) (ci := 6) (As := [.int x1, .int (0:Int32)]) (rs := []) (pc' := 98) (by decide +kernel) rfl rfl rfl rfl (Nat.le_of_ble_eq_true rfl) (Nat.le_of_ble_eq_true rfl) rfl (ee190 (d + 0) 8 x1 (0:Int32) e29) ?_
          refine pv_e_bk (ps := [(98, .aload_n 0, 1), (99, .iload_n 2, 1), (100, .aload_n 0, 1)]) (t' := (0, 0, 101, [some (.ref 94), some (.int x1), some (.int x2), some (.int q5), z4], [.ref 94, .int x2, .ref 94], pv_mm s T30)) (by decide +kernel) rfl ?_
          refine pv_e_gr (i := 13) (ci := 6) (j := 3) (b := 96) (pc' := 104) (by decide +kernel) rfl rfl rfl ?_
          refine pv_e_bk (ps := [(104, .iload_n 1, 1)]) (t' := (0, 0, 105, [some (.ref 94), some (.int x1), some (.int x2), some (.int q5), z4], [.int x1, .ref 96, .int x2, .ref 94], pv_mm s T30)) (by decide +kernel) rfl ?_
          obtain ⟨q31, e32, h⟩ := Option.bind_eq_some_iff.mp h
          refine pv_e_rm (pc' := 106) (by decide +kernel) (by decide) rfl e32 rfl ?_
          obtain ⟨⟨q34, T35⟩, e33, h⟩ := Option.bind_eq_some_iff.mp h
          dsimp only at h
          refine pv_e_cvi (d := d + 13) (i := 265) (z := 188) (np := 2) (ml := 4) (ci := 6) (As := [.int x2, .int q31]) (rs := []) (pc' := 109) (by decide +kernel) rfl rfl rfl rfl (Nat.le_of_ble_eq_true rfl) (Nat.le_of_ble_eq_true rfl) rfl (ee188 (d + 10) x2 q31 e33) ?_
          obtain rfl := Option.some.inj h
          cases hr
          exact pv_e_ri (by decide +kernel)
        · dsimp only at h ⊢
          obtain rfl := Option.some.inj h
          exact hr
      · rw [if_neg c10] at h
        refine pv_e_bk (ps := [(31, .aload_n 0, 1), (32, .iconst 5, 1)]) (t' := (0, 0, 33, [some (.ref 94), some (.int x1), some (.int x2), some (.int q5), none], [.int (5:Int32), .ref 94], pv_mm s T6)) (by decide +kernel) rfl ?_
        obtain ⟨⟨q40, T41⟩, e39, h⟩ := Option.bind_eq_some_iff.mp h
        dsimp only at h
        refine pv_e_cvi (d := d + 13) (i := 91) (z := 114) (np := 1) (ml := 2) (ci := 6) (As := [.int (5:Int32)]) (rs := []) (pc' := 36) (by decide +kernel) rfl rfl rfl rfl (Nat.le_of_ble_eq_true rfl) (Nat.le_of_ble_eq_true rfl) rfl (ee114 (d + 13) (5:Int32) e39) ?_
        obtain rfl := Option.some.inj h
        cases hr
        exact pv_e_ri (by decide +kernel)
    · rw [if_neg c7] at h
      refine pv_e_bk (ps := [(19, .iload_n 3, 1)]) (t' := (0, 0, 20, [some (.ref 94), some (.int x1), some (.int x2), some (.int q5), none], [.int q5], pv_mm s T6)) (by decide +kernel) rfl ?_
      obtain rfl := Option.some.inj h
      cases hr
      exact pv_e_ri (by decide +kernel)
def f192_isSpared_b1 (v1 : Int32) (v2 : Int32) (v3 : Int32) (st : Int32 × pv_T) : Option ((Int32 × pv_T) ⊕ (Int32 × pv_T)) := match st with
  | (v4, T) =>
    if v3 ≤ v4 then
      some (.inr (v4, T))
    else
      (f141_lenOf v2 T).bind fun q5 =>
      (pv_wm T 105 78 (((6:Int32) * v2) + q5) (97:Int32)).bind fun T6 =>
      (pv_rd T6.1 105 78 ((42:Int32) + v2)).bind fun q8 =>
      (pv_wm T6 105 78 ((42:Int32) + v2) (q8 + (1:Int32))).bind fun T10 =>
      some (.inl (v4 + (1:Int32), T10))
def f192_isSpared_b1_H (xs : Nat → Int32) (L d : Nat) (r : Option Value × pv_M) (s : pv_F) (v1 : Int32) (v2 : Int32) (v3 : Int32) (st : Int32 × pv_T) : Prop := match st with
  | (v4, T) => pv_Ev xs L (d + 6) 192 (0, 0, 7, [some (.ref 94), some (.int v1), some (.int v2), some (.int v3), some (.int v4), none], [], pv_mm s T) r
def f192_isSpared_b1_X (xs : Nat → Int32) (L d : Nat) (r : Option Value × pv_M) (s : pv_F) (v1 : Int32) (v2 : Int32) (v3 : Int32) (st : Int32 × pv_T) : Prop := match st with
  | (v4, T) => ∀ z4 : Option Value, pv_Ev xs L (d + 6) 192 (0, 0, 49, [some (.ref 94), some (.int v1), some (.int v2), some (.int v3), z4, none], [], pv_mm s T) r
def f192_isSpared (x1 : Int32) (x2 : Int32) (x3 : Int32) (T : pv_T) : Option (Int32 × pv_T) :=
  (f167_putAside T).bind fun T2 =>
  (pv_lq (f192_isSpared_b1 x1 x2 x3) 20000 ((0:Int32), T2)).bind fun (w12, T13) =>
  (f183_missed T13).bind fun q15 =>
  (f184_callOn x1 T13).bind fun (q17, T18) =>
  (pv_rd T18.1 96 6 x1).bind fun q19 =>
  ((
    if q17 = q19 then
      (f183_missed T18).bind fun q30 =>
      if q30 = q15 then
        some (1:Int32)
      else
        some (0:Int32)
    else
      some (0:Int32)) : Option (Int32)).bind fun t21 =>
  (f168_comeBack T18).bind fun T23 =>
  (pv_bl t21).bind fun q24 => some (q24, T23)
theorem f192_isSpared_b1_ok {xs : Nat → Int32} {L d : Nat} {r : Option Value × pv_M} {s : pv_F} {v1 : Int32} {v2 : Int32} {v3 : Int32} (st : Int32 × pv_T) (o : (Int32 × pv_T) ⊕ (Int32 × pv_T)) (h : f192_isSpared_b1 v1 v2 v3 st = some o) (hK : pv_Kq (f192_isSpared_b1_H xs L d r s v1 v2 v3) (f192_isSpared_b1_X xs L d r s v1 v2 v3) o) : f192_isSpared_b1_H xs L d r s v1 v2 v3 st := by
  obtain ⟨v4, T⟩ := st
  show pv_Ev xs L (d + 6) 192 (0, 0, 7, [some (.ref 94), some (.int v1), some (.int v2), some (.int v3), some (.int v4), none], [], pv_mm s T) r
  unfold f192_isSpared_b1 at h
  dsimp only at h
  refine pv_e_bk (ps := [(7, .iload 4, 2), (9, .iload_n 3, 1)]) (t' := (0, 0, 10, [some (.ref 94), some (.int v1), some (.int v2), some (.int v3), some (.int v4), none], [.int v3, .int v4], pv_mm s T)) (by decide +kernel) rfl ?_
  refine pv_e_icmpge (off := 39) (b := 49) (pc' := 13) (by decide +kernel) (by decide +kernel) rfl (fun c3 => ?_) (fun c3 => ?_)
  · rw [if_pos c3] at h
    obtain rfl := Option.some.inj h
    exact hK _
  · rw [if_neg c3] at h
    refine pv_e_bk (ps := [(13, .aload_n 0, 1)]) (t' := (0, 0, 14, [some (.ref 94), some (.int v1), some (.int v2), some (.int v3), some (.int v4), none], [.ref 94], pv_mm s T)) (by decide +kernel) rfl ?_
    refine pv_e_gr (i := 44) (ci := 6) (j := 17) (b := 105) (pc' := 17) (by decide +kernel) rfl rfl rfl ?_
    refine pv_e_bk (ps := [(17, .bipush 6, 2), (19, .iload_n 2, 1), (20, .imul, 1), (21, .aload_n 0, 1), (22, .iload_n 2, 1)]) (t' := (0, 0, 23, [some (.ref 94), some (.int v1), some (.int v2), some (.int v3), some (.int v4), none], [.int v2, .ref 94, .int ((6:Int32) * v2), .ref 105], pv_mm s T)) (by decide +kernel) rfl ?_
    obtain ⟨q5, e4, h⟩ := Option.bind_eq_some_iff.mp h
    refine pv_e_cvi (d := d + 5) (i := 142) (z := 141) (np := 1) (ml := 2) (ci := 6) (As := [.int v2]) (rs := [.int ((6:Int32) * v2), .ref 105]) (pc' := 26) (by decide +kernel) rfl rfl rfl rfl (Nat.le_of_ble_eq_true rfl) (Nat.le_of_ble_eq_true rfl) rfl (ee141 (d + 5) v2 e4) ?_
    refine pv_e_bk (ps := [(26, .iadd, 1), (27, .bipush 97, 2)]) (t' := (0, 0, 29, [some (.ref 94), some (.int v1), some (.int v2), some (.int v3), some (.int v4), none], [.int (97:Int32), .int (((6:Int32) * v2) + q5), .ref 105], pv_mm s T)) (by decide +kernel) rfl ?_
    obtain ⟨T6, e7, h⟩ := Option.bind_eq_some_iff.mp h
    refine pv_e_wm (pc' := 30) (by decide +kernel) (by decide) rfl e7 rfl ?_
    refine pv_e_bk (ps := [(30, .aload_n 0, 1)]) (t' := (0, 0, 31, [some (.ref 94), some (.int v1), some (.int v2), some (.int v3), some (.int v4), none], [.ref 94], pv_mm s T6)) (by decide +kernel) rfl ?_
    refine pv_e_gr (i := 44) (ci := 6) (j := 17) (b := 105) (pc' := 34) (by decide +kernel) rfl rfl rfl ?_
    refine pv_e_bk (ps := [(34, .bipush 42, 2), (36, .iload_n 2, 1), (37, .iadd, 1), (38, .dup2, 1)]) (t' := (0, 0, 39, [some (.ref 94), some (.int v1), some (.int v2), some (.int v3), some (.int v4), none], [.int ((42:Int32) + v2), .ref 105, .int ((42:Int32) + v2), .ref 105], pv_mm s T6)) (by decide +kernel) rfl ?_
    obtain ⟨q8, e9, h⟩ := Option.bind_eq_some_iff.mp h
    refine pv_e_rm (pc' := 40) (by decide +kernel) (by decide) rfl e9 rfl ?_
    refine pv_e_bk (ps := [(40, .iconst 1, 1), (41, .iadd, 1)]) (t' := (0, 0, 42, [some (.ref 94), some (.int v1), some (.int v2), some (.int v3), some (.int v4), none], [.int (q8 + (1:Int32)), .int ((42:Int32) + v2), .ref 105], pv_mm s T6)) (by decide +kernel) rfl ?_
    obtain ⟨T10, e11, h⟩ := Option.bind_eq_some_iff.mp h
    refine pv_e_wm (pc' := 43) (by decide +kernel) (by decide) rfl e11 rfl ?_
    refine pv_e_bk (ps := [(43, .iinc 4 1, 3), (46, .goto (-39), 3)]) (t' := (0, 0, 7, [some (.ref 94), some (.int v1), some (.int v2), some (.int v3), some (.int (v4 + (1:Int32))), none], [], pv_mm s T10)) (by decide +kernel) rfl ?_
    obtain rfl := Option.some.inj h
    exact hK
theorem ee192 {xs : Nat → Int32} {L : Nat} (d : Nat) (x1 : Int32) (x2 : Int32) (x3 : Int32) {s : pv_F} {T : pv_T} {q : Int32 × pv_T}  (h : f192_isSpared x1 x2 x3 T = some q) : pv_Ev xs L (d + 6) 192 (0, 0, 0, [some (.ref 94), some (.int x1), some (.int x2), some (.int x3), none, none], [], pv_mm s T) (some (.int q.1), pv_mm s q.2) := by
  generalize hr : ((some (.int q.1), pv_mm s q.2) : Option Value × pv_M) = r
  unfold f192_isSpared at h
  refine pv_e_bk (ps := [(0, .aload_n 0, 1)]) (t' := (0, 0, 1, [some (.ref 94), some (.int x1), some (.int x2), some (.int x3), none, none], [.ref 94], pv_mm s T)) (by decide +kernel) rfl ?_
  obtain ⟨T2, e1, h⟩ := Option.bind_eq_some_iff.mp h
  refine pv_e_cvv (d := d + 5) (i := 206) (z := 167) (np := 0) (ml := 1) (ci := 6) (As := []) (rs := []) (pc' := 4) (by decide +kernel) rfl rfl rfl rfl (Nat.le_of_ble_eq_true rfl) (Nat.le_of_ble_eq_true rfl) rfl (ee167 (d + 4) e1) ?_
  refine pv_e_bk (ps := [(4, .iconst 0, 1), (5, .istore 4, 2)]) (t' := (0, 0, 7, [some (.ref 94), some (.int x1), some (.int x2), some (.int x3), some (.int (0:Int32)), none], [], pv_mm s T2)) (by decide +kernel) rfl ?_
  obtain ⟨⟨w12, T13⟩, e33, h⟩ := Option.bind_eq_some_iff.mp h
  dsimp only at h
  have hx32 : f192_isSpared_b1_X xs L d r s x1 x2 x3 (w12, T13) := by
    show ∀ z4 : Option Value, pv_Ev xs L (d + 6) 192 (0, 0, 49, [some (.ref 94), some (.int x1), some (.int x2), some (.int x3), z4, none], [], pv_mm s T13) r
    intro z4
    refine pv_e_bk (ps := [(49, .aload_n 0, 1)]) (t' := (0, 0, 50, [some (.ref 94), some (.int x1), some (.int x2), some (.int x3), z4, none], [.ref 94], pv_mm s T13)) (by decide +kernel) rfl ?_
    obtain ⟨q15, e14, h⟩ := Option.bind_eq_some_iff.mp h
    refine pv_e_cvi (d := d + 5) (i := 243) (z := 183) (np := 0) (ml := 3) (ci := 6) (As := []) (rs := []) (pc' := 53) (by decide +kernel) rfl rfl rfl rfl (Nat.le_of_ble_eq_true rfl) (Nat.le_of_ble_eq_true rfl) rfl (ee183 (d + 5) e14) ?_
    refine pv_e_bk (ps := [(53, .istore 4, 2), (55, .aload_n 0, 1), (56, .iload_n 1, 1)]) (t' := (0, 0, 57, [some (.ref 94), some (.int x1), some (.int x2), some (.int x3), some (.int q15), none], [.int x1, .ref 94], pv_mm s T13)) (by decide +kernel) rfl ?_
    obtain ⟨⟨q17, T18⟩, e16, h⟩ := Option.bind_eq_some_iff.mp h
    dsimp only at h
    refine pv_e_cvi (d := d + 5) (i := 246) (z := 184) (np := 1) (ml := 3) (ci := 6) (As := [.int x1]) (rs := []) (pc' := 60) (by decide +kernel) rfl rfl rfl rfl (Nat.le_of_ble_eq_true rfl) (Nat.le_of_ble_eq_true rfl) rfl (ee184 (d + 0) x1 e16) ?_
    refine pv_e_bk (ps := [(60, .aload_n 0, 1)]) (t' := (0, 0, 61, [some (.ref 94), some (.int x1), some (.int x2), some (.int x3), some (.int q15), none], [.ref 94, .int q17], pv_mm s T18)) (by decide +kernel) rfl ?_
    refine pv_e_gr (i := 13) (ci := 6) (j := 3) (b := 96) (pc' := 64) (by decide +kernel) rfl rfl rfl ?_
    refine pv_e_bk (ps := [(64, .iload_n 1, 1)]) (t' := (0, 0, 65, [some (.ref 94), some (.int x1), some (.int x2), some (.int x3), some (.int q15), none], [.int x1, .ref 96, .int q17], pv_mm s T18)) (by decide +kernel) rfl ?_
    obtain ⟨q19, e20, h⟩ := Option.bind_eq_some_iff.mp h
    refine pv_e_rm (pc' := 66) (by decide +kernel) (by decide) rfl e20 rfl ?_
    obtain ⟨t21, hv26, h⟩ := Option.bind_eq_some_iff.mp h
    have hJ27 : pv_Ev xs L (d + 6) 192 (0, 0, 83, [some (.ref 94), some (.int x1), some (.int x2), some (.int x3), some (.int q15), none], [.int t21], pv_mm s T18) r := by
      refine pv_e_bk (ps := [(83, .istore 5, 2), (85, .aload_n 0, 1)]) (t' := (0, 0, 86, [some (.ref 94), some (.int x1), some (.int x2), some (.int x3), some (.int q15), some (.int t21)], [.ref 94], pv_mm s T18)) (by decide +kernel) rfl ?_
      obtain ⟨T23, e22, h⟩ := Option.bind_eq_some_iff.mp h
      refine pv_e_cvv (d := d + 5) (i := 209) (z := 168) (np := 0) (ml := 1) (ci := 6) (As := []) (rs := []) (pc' := 89) (by decide +kernel) rfl rfl rfl rfl (Nat.le_of_ble_eq_true rfl) (Nat.le_of_ble_eq_true rfl) rfl (ee168 (d + 4) e22) ?_
      refine pv_e_bk (ps := [(89, .iload 5, 2)]) (t' := (0, 0, 91, [some (.ref 94), some (.int x1), some (.int x2), some (.int x3), some (.int q15), some (.int t21)], [.int t21], pv_mm s T23)) (by decide +kernel) rfl ?_
      obtain ⟨q24, e25, h⟩ := Option.bind_eq_some_iff.mp h
      obtain rfl := Option.some.inj h
      cases hr
      exact pv_e_rz (by decide +kernel) e25
    clear h
    have h := hv26
    clear hv26
    refine pv_e_icmpne (off := 16) (b := 82) (pc' := 69) (by decide +kernel) (by decide +kernel) rfl (fun c28 => ?_) (fun c28 => ?_)
    · rw [if_pos c28] at h
      refine pv_e_bk (ps := [(69, .aload_n 0, 1)]) (t' := (0, 0, 70, [some (.ref 94), some (.int x1), some (.int x2), some (.int x3), some (.int q15), none], [.ref 94], pv_mm s T18)) (by decide +kernel) rfl ?_
      obtain ⟨q30, e29, h⟩ := Option.bind_eq_some_iff.mp h
      refine pv_e_cvi (d := d + 5) (i := 243) (z := 183) (np := 0) (ml := 3) (ci := 6) (As := []) (rs := []) (pc' := 73) (by decide +kernel) rfl rfl rfl rfl (Nat.le_of_ble_eq_true rfl) (Nat.le_of_ble_eq_true rfl) rfl (ee183 (d + 5) e29) ?_
      refine pv_e_bk (ps := [(73, .iload 4, 2)]) (t' := (0, 0, 75, [some (.ref 94), some (.int x1), some (.int x2), some (.int x3), some (.int q15), none], [.int q15, .int q30], pv_mm s T18)) (by decide +kernel) rfl ?_
      refine pv_e_icmpne (off := 7) (b := 82) (pc' := 78) (by decide +kernel) (by decide +kernel) rfl (fun c31 => ?_) (fun c31 => ?_)
      · rw [if_pos c31] at h
        refine pv_e_bk (ps := [(78, .iconst 1, 1), (79, .goto 4, 3)]) (t' := (0, 0, 83, [some (.ref 94), some (.int x1), some (.int x2), some (.int x3), some (.int q15), none], [.int (1:Int32)], pv_mm s T18)) (by decide +kernel) rfl ?_
        obtain rfl := Option.some.inj h
        exact hJ27
      · rw [if_neg c31] at h
        refine pv_e_bk (ps := [(82, .iconst 0, 1)]) (t' := (0, 0, 83, [some (.ref 94), some (.int x1), some (.int x2), some (.int x3), some (.int q15), none], [.int (0:Int32)], pv_mm s T18)) (by decide +kernel) rfl ?_
        obtain rfl := Option.some.inj h
        exact hJ27
    · rw [if_neg c28] at h
      refine pv_e_bk (ps := [(82, .iconst 0, 1)]) (t' := (0, 0, 83, [some (.ref 94), some (.int x1), some (.int x2), some (.int x3), some (.int q15), none], [.int (0:Int32)], pv_mm s T18)) (by decide +kernel) rfl ?_
      obtain rfl := Option.some.inj h
      exact hJ27
  exact pv_lq_ok (H := f192_isSpared_b1_H xs L d r s x1 x2 x3) (X := f192_isSpared_b1_X xs L d r s x1 x2 x3) (f192_isSpared_b1_ok (xs := xs) (L := L) (d := d) (r := r) (s := s) (v1 := x1) (v2 := x2) (v3 := x3)) 20000 _ _ e33 hx32
def f193_spare_b2 (v1 : Int32) (v3 : Int32) (st : Int32 × pv_T) : Option ((Int32 × pv_T) ⊕ ((Int32 × pv_T) ⊕ (Int32 × pv_T))) := match st with
  | (v4, T) =>
    if (T.1 94 8) ≤ v4 then
      some (.inr (.inl (v4, T)))
    else
      (pv_rd T.1 101 7 v4).bind fun q11 =>
      if q11 = (3:Int32) then
        some (.inl (v4 + (1:Int32), T))
      else
        (f141_lenOf v4 T).bind fun q15 =>
        if (6:Int32) < (q15 + v3) then
          some (.inl (v4 + (1:Int32), T))
        else
          (f192_isSpared v1 v4 v3 T).bind fun (q18, T19) =>
          if q18 = 0 then
            some (.inl (v4 + (1:Int32), T19))
          else
            (f115_ask v4 v3 T19).bind fun (q22, T23) =>
            some (.inr (.inr (q22, T23)))
def f193_spare_b2_H (xs : Nat → Int32) (L d : Nat) (r : Option Value × pv_M) (s : pv_F) (v1 : Int32) (v3 : Int32) (v2 : Int32) (st : Int32 × pv_T) : Prop := match st with
  | (v4, T) => pv_Ev xs L (d + 7) 193 (0, 0, 42, [some (.ref 94), some (.int v1), some (.int v2), some (.int v3), some (.int v4)], [], pv_mm s T) r
def f193_spare_b2_X (xs : Nat → Int32) (L d : Nat) (r : Option Value × pv_M) (s : pv_F) (v1 : Int32) (v3 : Int32) (v2 : Int32) (st : Int32 × pv_T) : Prop := match st with
  | (v4, T) => ∀ z4 : Option Value, pv_Ev xs L (d + 7) 193 (0, 0, 100, [some (.ref 94), some (.int v1), some (.int v2), some (.int v3), z4], [], pv_mm s T) r
def f193_spare_b1 (v1 : Int32) (st : Int32 × pv_T) : Option ((Int32 × pv_T) ⊕ ((Int32 × pv_T) ⊕ (Int32 × pv_T))) := match st with
  | (v3, T) =>
    if (6:Int32) < v3 then
      some (.inr (.inl (v3, T)))
    else
      (pv_lp (f193_spare_b2 v1 v3) 20000 ((0:Int32), T)).bind fun o28 => match o28 with
        | .inl (w24, T25) =>
          some (.inl (v3 + (1:Int32), T25))
        | .inr q => some (.inr (.inr q))
def f193_spare_b1_H (xs : Nat → Int32) (L d : Nat) (r : Option Value × pv_M) (s : pv_F) (v1 : Int32) (v2 : Int32) (st : Int32 × pv_T) : Prop := match st with
  | (v3, T) => ∀ z4 : Option Value, pv_Ev xs L (d + 7) 193 (0, 0, 33, [some (.ref 94), some (.int v1), some (.int v2), some (.int v3), z4], [], pv_mm s T) r
def f193_spare_b1_X (xs : Nat → Int32) (L d : Nat) (r : Option Value × pv_M) (s : pv_F) (v1 : Int32) (v2 : Int32) (st : Int32 × pv_T) : Prop := match st with
  | (v3, T) => ∀ z3 : Option Value, ∀ z4 : Option Value, pv_Ev xs L (d + 7) 193 (0, 0, 106, [some (.ref 94), some (.int v1), some (.int v2), z3, z4], [], pv_mm s T) r
def f193_spare (x1 : Int32) (T : pv_T) : Option (Int32 × pv_T) :=
  (f182_askedCalls x1 (40:Int32) T).bind fun (q2, T3) =>
  if 0 ≤ q2 then
    (f192_isSpared x1 (0:Int32) (0:Int32) T3).bind fun (q6, T7) =>
    if q6 = 0 then
      (pv_lp (f193_spare_b1 x1) 20000 ((1:Int32), T7)).bind fun o33 => match o33 with
        | .inl (w29, T30) =>
          some ((-9:Int32), T30)
        | .inr q => some q
    else
      (f115_ask (0:Int32) (0:Int32) T7).bind fun (q35, T36) =>
      some (q35, T36)
  else
    some (q2, T3)
theorem f193_spare_b2_ok {xs : Nat → Int32} {L d : Nat} {r : Option Value × pv_M} {s : pv_F} {v1 : Int32} {v3 : Int32} {v2 : Int32} (st : Int32 × pv_T) (o : (Int32 × pv_T) ⊕ ((Int32 × pv_T) ⊕ (Int32 × pv_T))) (h : f193_spare_b2 v1 v3 st = some o) (hK : pv_Kp (f193_spare_b2_H xs L d r s v1 v3 v2) (f193_spare_b2_X xs L d r s v1 v3 v2) (fun q => (some (.int q.1), pv_mm s q.2) = r) o) : f193_spare_b2_H xs L d r s v1 v3 v2 st := by
  obtain ⟨v4, T⟩ := st
  show pv_Ev xs L (d + 7) 193 (0, 0, 42, [some (.ref 94), some (.int v1), some (.int v2), some (.int v3), some (.int v4)], [], pv_mm s T) r
  unfold f193_spare_b2 at h
  dsimp only at h
  refine pv_e_bk (ps := [(42, .iload 4, 2), (44, .aload_n 0, 1)]) (t' := (0, 0, 45, [some (.ref 94), some (.int v1), some (.int v2), some (.int v3), some (.int v4)], [.ref 94, .int v4], pv_mm s T)) (by decide +kernel) rfl ?_
  refine pv_e_gm (i := 136) (ci := 6) (j := 8) (pc' := 48) (by decide +kernel) (by decide) rfl rfl rfl ?_
  refine pv_e_icmpge (off := 52) (b := 100) (pc' := 51) (by decide +kernel) (by decide +kernel) rfl (fun c10 => ?_) (fun c10 => ?_)
  · rw [if_pos c10] at h
    obtain rfl := Option.some.inj h
    exact hK _
  · rw [if_neg c10] at h
    refine pv_e_bk (ps := [(51, .aload_n 0, 1)]) (t' := (0, 0, 52, [some (.ref 94), some (.int v1), some (.int v2), some (.int v3), some (.int v4)], [.ref 94], pv_mm s T)) (by decide +kernel) rfl ?_
    refine pv_e_gr (i := 32) (ci := 6) (j := 11) (b := 101) (pc' := 55) (by decide +kernel) rfl rfl rfl ?_
    refine pv_e_bk (ps := [(55, .iload 4, 2)]) (t' := (0, 0, 57, [some (.ref 94), some (.int v1), some (.int v2), some (.int v3), some (.int v4)], [.int v4, .ref 101], pv_mm s T)) (by decide +kernel) rfl ?_
    obtain ⟨q11, e12, h⟩ := Option.bind_eq_some_iff.mp h
    refine pv_e_rm (pc' := 58) (by decide +kernel) (by decide) rfl e12 rfl ?_
    refine pv_e_bk (ps := [(58, .iconst 3, 1)]) (t' := (0, 0, 59, [some (.ref 94), some (.int v1), some (.int v2), some (.int v3), some (.int v4)], [.int (3:Int32), .int q11], pv_mm s T)) (by decide +kernel) rfl ?_
    refine pv_e_icmpeq (off := 35) (b := 94) (pc' := 62) (by decide +kernel) (by decide +kernel) rfl (fun c13 => ?_) (fun c13 => ?_)
    · rw [if_pos c13] at h
      refine pv_e_bk (ps := [(94, .iinc 4 1, 3), (97, .goto (-55), 3)]) (t' := (0, 0, 42, [some (.ref 94), some (.int v1), some (.int v2), some (.int v3), some (.int (v4 + (1:Int32)))], [], pv_mm s T)) (by decide +kernel) rfl ?_
      obtain rfl := Option.some.inj h
      exact hK
    · rw [if_neg c13] at h
      refine pv_e_bk (ps := [(62, .aload_n 0, 1), (63, .iload 4, 2)]) (t' := (0, 0, 65, [some (.ref 94), some (.int v1), some (.int v2), some (.int v3), some (.int v4)], [.int v4, .ref 94], pv_mm s T)) (by decide +kernel) rfl ?_
      obtain ⟨q15, e14, h⟩ := Option.bind_eq_some_iff.mp h
      refine pv_e_cvi (d := d + 6) (i := 142) (z := 141) (np := 1) (ml := 2) (ci := 6) (As := [.int v4]) (rs := []) (pc' := 68) (by decide +kernel) rfl rfl rfl rfl (Nat.le_of_ble_eq_true rfl) (Nat.le_of_ble_eq_true rfl) rfl (ee141 (d + 6) v4 e14) ?_
      refine pv_e_bk (ps := [(68, .iload_n 3, 1), (69, .iadd, 1), (70, .bipush 6, 2)]) (t' := (0, 0, 72, [some (.ref 94), some (.int v1), some (.int v2), some (.int v3), some (.int v4)], [.int (6:Int32), .int (q15 + v3)], pv_mm s T)) (by decide +kernel) rfl ?_
      refine pv_e_icmpgt (off := 22) (b := 94) (pc' := 75) (by decide +kernel) (by decide +kernel) rfl (fun c16 => ?_) (fun c16 => ?_)
      · rw [if_pos c16] at h
        refine pv_e_bk (ps := [(94, .iinc 4 1, 3), (97, .goto (-55), 3)]) (t' := (0, 0, 42, [some (.ref 94), some (.int v1), some (.int v2), some (.int v3), some (.int (v4 + (1:Int32)))], [], pv_mm s T)) (by decide +kernel) rfl ?_
        obtain rfl := Option.some.inj h
        exact hK
      · rw [if_neg c16] at h
        refine pv_e_bk (ps := [(75, .aload_n 0, 1), (76, .iload_n 1, 1), (77, .iload 4, 2), (79, .iload_n 3, 1)]) (t' := (0, 0, 80, [some (.ref 94), some (.int v1), some (.int v2), some (.int v3), some (.int v4)], [.int v3, .int v4, .int v1, .ref 94], pv_mm s T)) (by decide +kernel) rfl ?_
        obtain ⟨⟨q18, T19⟩, e17, h⟩ := Option.bind_eq_some_iff.mp h
        dsimp only at h
        refine pv_e_cvi (d := d + 6) (i := 272) (z := 192) (np := 3) (ml := 6) (ci := 6) (As := [.int v1, .int v4, .int v3]) (rs := []) (pc' := 83) (by decide +kernel) rfl rfl rfl rfl (Nat.le_of_ble_eq_true rfl) (Nat.le_of_ble_eq_true rfl) rfl (ee192 (d + 0) v1 v4 v3 e17) ?_
        refine pv_e_ifeq (off := 11) (b := 94) (pc' := 86) (by decide +kernel) (by decide +kernel) rfl (fun c20 => ?_) (fun c20 => ?_)
        · rw [if_pos c20] at h
          refine pv_e_bk (ps := [(94, .iinc 4 1, 3), (97, .goto (-55), 3)]) (t' := (0, 0, 42, [some (.ref 94), some (.int v1), some (.int v2), some (.int v3), some (.int (v4 + (1:Int32)))], [], pv_mm s T19)) (by decide +kernel) rfl ?_
          obtain rfl := Option.some.inj h
          exact hK
        · rw [if_neg c20] at h
          refine pv_e_bk (ps := [(86, .aload_n 0, 1), (87, .iload 4, 2), (89, .iload_n 3, 1)]) (t' := (0, 0, 90, [some (.ref 94), some (.int v1), some (.int v2), some (.int v3), some (.int v4)], [.int v3, .int v4, .ref 94], pv_mm s T19)) (by decide +kernel) rfl ?_
          obtain ⟨⟨q22, T23⟩, e21, h⟩ := Option.bind_eq_some_iff.mp h
          dsimp only at h
          refine pv_e_cvi (d := d + 6) (i := 109) (z := 115) (np := 2) (ml := 3) (ci := 6) (As := [.int v4, .int v3]) (rs := []) (pc' := 93) (by decide +kernel) rfl rfl rfl rfl (Nat.le_of_ble_eq_true rfl) (Nat.le_of_ble_eq_true rfl) rfl (ee115 (d + 6) v4 v3 e21) ?_
          obtain rfl := Option.some.inj h
          cases hK
          exact pv_e_ri (by decide +kernel)
theorem f193_spare_b1_ok {xs : Nat → Int32} {L d : Nat} {r : Option Value × pv_M} {s : pv_F} {v1 : Int32} {v2 : Int32} (st : Int32 × pv_T) (o : (Int32 × pv_T) ⊕ ((Int32 × pv_T) ⊕ (Int32 × pv_T))) (h : f193_spare_b1 v1 st = some o) (hK : pv_Kp (f193_spare_b1_H xs L d r s v1 v2) (f193_spare_b1_X xs L d r s v1 v2) (fun q => (some (.int q.1), pv_mm s q.2) = r) o) : f193_spare_b1_H xs L d r s v1 v2 st := by
  obtain ⟨v3, T⟩ := st
  show ∀ z4 : Option Value, pv_Ev xs L (d + 7) 193 (0, 0, 33, [some (.ref 94), some (.int v1), some (.int v2), some (.int v3), z4], [], pv_mm s T) r
  intro z4
  unfold f193_spare_b1 at h
  dsimp only at h
  refine pv_e_bk (ps := [(33, .iload_n 3, 1), (34, .bipush 6, 2)]) (t' := (0, 0, 36, [some (.ref 94), some (.int v1), some (.int v2), some (.int v3), z4], [.int (6:Int32), .int v3], pv_mm s T)) (by decide +kernel) rfl ?_
  refine pv_e_icmpgt (off := 70) (b := 106) (pc' := 39) (by decide +kernel) (by decide +kernel) rfl (fun c9 => ?_) (fun c9 => ?_)
  · rw [if_pos c9] at h
    obtain rfl := Option.some.inj h
    exact hK _ _
  · rw [if_neg c9] at h
    refine pv_e_bk (ps := [(39, .iconst 0, 1), (40, .istore 4, 2)]) (t' := (0, 0, 42, [some (.ref 94), some (.int v1), some (.int v2), some (.int v3), some (.int (0:Int32))], [], pv_mm s T)) (by decide +kernel) rfl ?_
    obtain ⟨o28, e27, h⟩ := Option.bind_eq_some_iff.mp h
    refine pv_lp_ok (H := f193_spare_b2_H xs L d r s v1 v3 v2) (X := f193_spare_b2_X xs L d r s v1 v3 v2) (Z := (fun q => (some (.int q.1), pv_mm s q.2) = r)) (f193_spare_b2_ok (xs := xs) (L := L) (d := d) (r := r) (s := s) (v1 := v1) (v3 := v3) (v2 := v2)) 20000 _ _ e27 ?_
    rcases o28 with ⟨w24, T25⟩ | q
    · dsimp only at h ⊢
      show ∀ z4 : Option Value, pv_Ev xs L (d + 7) 193 (0, 0, 100, [some (.ref 94), some (.int v1), some (.int v2), some (.int v3), z4], [], pv_mm s T25) r
      intro z4
      refine pv_e_bk (ps := [(100, .iinc 3 1, 3), (103, .goto (-70), 3)]) (t' := (0, 0, 33, [some (.ref 94), some (.int v1), some (.int v2), some (.int (v3 + (1:Int32))), z4], [], pv_mm s T25)) (by decide +kernel) rfl ?_
      obtain rfl := Option.some.inj h
      exact hK _
    · dsimp only at h ⊢
      obtain rfl := Option.some.inj h
      exact hK
theorem ee193 {xs : Nat → Int32} {L : Nat} (d : Nat) (x1 : Int32) {s : pv_F} {T : pv_T} {q : Int32 × pv_T}  (h : f193_spare x1 T = some q) : pv_Ev xs L (d + 7) 193 (0, 0, 0, [some (.ref 94), some (.int x1), none, none, none], [], pv_mm s T) (some (.int q.1), pv_mm s q.2) := by
  generalize hr : ((some (.int q.1), pv_mm s q.2) : Option Value × pv_M) = r
  unfold f193_spare at h
  refine pv_e_bk (ps := [(0, .aload_n 0, 1), (1, .iload_n 1, 1), (2, .bipush 40, 2)]) (t' := (0, 0, 4, [some (.ref 94), some (.int x1), none, none, none], [.int (40:Int32), .int x1, .ref 94], pv_mm s T)) (by decide +kernel) rfl ?_
  obtain ⟨⟨q2, T3⟩, e1, h⟩ := Option.bind_eq_some_iff.mp h
  dsimp only at h
  refine pv_e_cvi (d := d + 6) (i := 240) (z := 182) (np := 2) (ml := 5) (ci := 6) (As := [.int x1, .int (40:Int32)]) (rs := []) (pc' := 7) (by decide +kernel) rfl rfl rfl rfl (Nat.le_of_ble_eq_true rfl) (Nat.le_of_ble_eq_true rfl) rfl (ee182 (d + 3) x1 (40:Int32) e1) ?_
  refine pv_e_bk (ps := [(7, .istore_n 2, 1), (8, .iload_n 2, 1)]) (t' := (0, 0, 9, [some (.ref 94), some (.int x1), some (.int q2), none, none], [.int q2], pv_mm s T3)) (by decide +kernel) rfl ?_
  refine pv_e_ifge (off := 5) (b := 14) (pc' := 12) (by decide +kernel) (by decide +kernel) rfl (fun c4 => ?_) (fun c4 => ?_)
  · rw [if_pos c4] at h
    refine pv_e_bk (ps := [(14, .aload_n 0, 1), (15, .iload_n 1, 1), (16, .iconst 0, 1), (17, .iconst 0, 1)]) (t' := (0, 0, 18, [some (.ref 94), some (.int x1), some (.int q2), none, none], [.int (0:Int32), .int (0:Int32), .int x1, .ref 94], pv_mm s T3)) (by decide +kernel) rfl ?_
    obtain ⟨⟨q6, T7⟩, e5, h⟩ := Option.bind_eq_some_iff.mp h
    dsimp only at h
    refine pv_e_cvi (d := d + 6) (i := 272) (z := 192) (np := 3) (ml := 6) (ci := 6) (As := [.int x1, .int (0:Int32), .int (0:Int32)]) (rs := []) (pc' := 21) (by decide +kernel) rfl rfl rfl rfl (Nat.le_of_ble_eq_true rfl) (Nat.le_of_ble_eq_true rfl) rfl (ee192 (d + 0) x1 (0:Int32) (0:Int32) e5) ?_
    refine pv_e_ifeq (off := 10) (b := 31) (pc' := 24) (by decide +kernel) (by decide +kernel) rfl (fun c8 => ?_) (fun c8 => ?_)
    · rw [if_pos c8] at h
      refine pv_e_bk (ps := [(31, .iconst 1, 1), (32, .istore_n 3, 1)]) (t' := (0, 0, 33, [some (.ref 94), some (.int x1), some (.int q2), some (.int (1:Int32)), none], [], pv_mm s T7)) (by decide +kernel) rfl ?_
      obtain ⟨o33, e32, h⟩ := Option.bind_eq_some_iff.mp h
      refine pv_lp_ok (H := f193_spare_b1_H xs L d r s x1 q2) (X := f193_spare_b1_X xs L d r s x1 q2) (Z := (fun q => (some (.int q.1), pv_mm s q.2) = r)) (f193_spare_b1_ok (xs := xs) (L := L) (d := d) (r := r) (s := s) (v1 := x1) (v2 := q2)) 20000 _ _ e32 ?_ _
      rcases o33 with ⟨w29, T30⟩ | q
      · dsimp only at h ⊢
        show ∀ z3 : Option Value, ∀ z4 : Option Value, pv_Ev xs L (d + 7) 193 (0, 0, 106, [some (.ref 94), some (.int x1), some (.int q2), z3, z4], [], pv_mm s T30) r
        intro z3 z4
        refine pv_e_bk (ps := [(106, .bipush (-9), 2)]) (t' := (0, 0, 108, [some (.ref 94), some (.int x1), some (.int q2), z3, z4], [.int (-9:Int32)], pv_mm s T30)) (by decide +kernel) rfl ?_
        obtain rfl := Option.some.inj h
        cases hr
        exact pv_e_ri (by decide +kernel)
      · dsimp only at h ⊢
        obtain rfl := Option.some.inj h
        exact hr
    · rw [if_neg c8] at h
      refine pv_e_bk (ps := [(24, .aload_n 0, 1), (25, .iconst 0, 1), (26, .iconst 0, 1)]) (t' := (0, 0, 27, [some (.ref 94), some (.int x1), some (.int q2), none, none], [.int (0:Int32), .int (0:Int32), .ref 94], pv_mm s T7)) (by decide +kernel) rfl ?_
      obtain ⟨⟨q35, T36⟩, e34, h⟩ := Option.bind_eq_some_iff.mp h
      dsimp only at h
      refine pv_e_cvi (d := d + 6) (i := 109) (z := 115) (np := 2) (ml := 3) (ci := 6) (As := [.int (0:Int32), .int (0:Int32)]) (rs := []) (pc' := 30) (by decide +kernel) rfl rfl rfl rfl (Nat.le_of_ble_eq_true rfl) (Nat.le_of_ble_eq_true rfl) rfl (ee115 (d + 6) (0:Int32) (0:Int32) e34) ?_
      obtain rfl := Option.some.inj h
      cases hr
      exact pv_e_ri (by decide +kernel)
  · rw [if_neg c4] at h
    refine pv_e_bk (ps := [(12, .iload_n 2, 1)]) (t' := (0, 0, 13, [some (.ref 94), some (.int x1), some (.int q2), none, none], [.int q2], pv_mm s T3)) (by decide +kernel) rfl ?_
    obtain rfl := Option.some.inj h
    cases hr
    exact pv_e_ri (by decide +kernel)
def f194_whose_b1 (st : Int32 × Int32 × Int32 × pv_T) : Option ((Int32 × Int32 × Int32 × pv_T) ⊕ (Int32 × Int32 × Int32 × pv_T)) := match st with
  | (v3, v4, v5, T) =>
    if (12:Int32) < v5 then
      some (.inr (v3, v4, v5, T))
    else
      (f176_haveOne (-9:Int32) T).bind fun q9 =>
      ((
        if q9 = 0 then
          some v4
        else
          if v4 = (-9:Int32) then
            some v5
          else
            some v4) : Option (Int32)).bind fun t10 =>
      (f171_comeAll T).bind fun T12 =>
      some (.inl (v3 ||| q9, t10, v5 + (1:Int32), T12))
def f194_whose_b1_H (xs : Nat → Int32) (L d : Nat) (r : Option Value × pv_M) (s : pv_F) (v1 : Int32) (v2 : Int32) (st : Int32 × Int32 × Int32 × pv_T) : Prop := match st with
  | (v3, v4, v5, T) => ∀ z6 : Option Value, pv_Ev xs L (d + 5) 194 (0, 0, 25, [some (.ref 94), some (.int v1), some (.int v2), some (.int v3), some (.int v4), some (.int v5), z6], [], pv_mm s T) r
def f194_whose_b1_X (xs : Nat → Int32) (L d : Nat) (r : Option Value × pv_M) (s : pv_F) (v1 : Int32) (v2 : Int32) (st : Int32 × Int32 × Int32 × pv_T) : Prop := match st with
  | (v3, v4, v5, T) => ∀ z5 : Option Value, ∀ z6 : Option Value, pv_Ev xs L (d + 5) 194 (0, 0, 76, [some (.ref 94), some (.int v1), some (.int v2), some (.int v3), some (.int v4), z5, z6], [], pv_mm s T) r
def f194_whose (x1 : Int32) (T : pv_T) : Option (Int32 × pv_T) :=
  (f178_askedName x1 T).bind fun (q2, T3) =>
  if 0 ≤ q2 then
    (f167_putAside T3).bind fun T6 =>
    (pv_lq (f194_whose_b1) 20000 ((0:Int32), (-9:Int32), (0:Int32), T6)).bind fun (w17, w18, w19, T20) =>
    (f168_comeBack T20).bind fun T22 =>
    (f115_ask w18 w17 T22).bind fun (q24, T25) =>
    some (q24, T25)
  else
    some (q2, T3)
theorem f194_whose_b1_ok {xs : Nat → Int32} {L d : Nat} {r : Option Value × pv_M} {s : pv_F} {v1 : Int32} {v2 : Int32} (st : Int32 × Int32 × Int32 × pv_T) (o : (Int32 × Int32 × Int32 × pv_T) ⊕ (Int32 × Int32 × Int32 × pv_T)) (h : f194_whose_b1 st = some o) (hK : pv_Kq (f194_whose_b1_H xs L d r s v1 v2) (f194_whose_b1_X xs L d r s v1 v2) o) : f194_whose_b1_H xs L d r s v1 v2 st := by
  obtain ⟨v3, v4, v5, T⟩ := st
  show ∀ z6 : Option Value, pv_Ev xs L (d + 5) 194 (0, 0, 25, [some (.ref 94), some (.int v1), some (.int v2), some (.int v3), some (.int v4), some (.int v5), z6], [], pv_mm s T) r
  intro z6
  unfold f194_whose_b1 at h
  dsimp only at h
  refine pv_e_bk (ps := [(25, .iload 5, 2), (27, .bipush 12, 2)]) (t' := (0, 0, 29, [some (.ref 94), some (.int v1), some (.int v2), some (.int v3), some (.int v4), some (.int v5), z6], [.int (12:Int32), .int v5], pv_mm s T)) (by decide +kernel) rfl ?_
  refine pv_e_icmpgt (off := 47) (b := 76) (pc' := 32) (by decide +kernel) (by decide +kernel) rfl (fun c7 => ?_) (fun c7 => ?_)
  · rw [if_pos c7] at h
    obtain rfl := Option.some.inj h
    exact hK _ _
  · rw [if_neg c7] at h
    refine pv_e_bk (ps := [(32, .aload_n 0, 1), (33, .bipush (-9), 2)]) (t' := (0, 0, 35, [some (.ref 94), some (.int v1), some (.int v2), some (.int v3), some (.int v4), some (.int v5), z6], [.int (-9:Int32), .ref 94], pv_mm s T)) (by decide +kernel) rfl ?_
    obtain ⟨q9, e8, h⟩ := Option.bind_eq_some_iff.mp h
    refine pv_e_cvi (d := d + 4) (i := 228) (z := 176) (np := 1) (ml := 6) (ci := 6) (As := [.int (-9:Int32)]) (rs := []) (pc' := 38) (by decide +kernel) rfl rfl rfl rfl (Nat.le_of_ble_eq_true rfl) (Nat.le_of_ble_eq_true rfl) rfl (ee176 (d + 3) (-9:Int32) e8) ?_
    refine pv_e_bk (ps := [(38, .istore 6, 2), (40, .iload 6, 2)]) (t' := (0, 0, 42, [some (.ref 94), some (.int v1), some (.int v2), some (.int v3), some (.int v4), some (.int v5), some (.int q9)], [.int q9], pv_mm s T)) (by decide +kernel) rfl ?_
    obtain ⟨t10, hv13, h⟩ := Option.bind_eq_some_iff.mp h
    have hJ14 : pv_Ev xs L (d + 5) 194 (0, 0, 59, [some (.ref 94), some (.int v1), some (.int v2), some (.int v3), some (.int v4), some (.int v5), some (.int q9)], [.int t10], pv_mm s T) r := by
      refine pv_e_bk (ps := [(59, .istore 4, 2), (61, .iload_n 3, 1), (62, .iload 6, 2), (64, .ior, 1), (65, .istore_n 3, 1), (66, .aload_n 0, 1)]) (t' := (0, 0, 67, [some (.ref 94), some (.int v1), some (.int v2), some (.int (v3 ||| q9)), some (.int t10), some (.int v5), some (.int q9)], [.ref 94], pv_mm s T)) (by decide +kernel) rfl ?_
      obtain ⟨T12, e11, h⟩ := Option.bind_eq_some_iff.mp h
      refine pv_e_cvv (d := d + 4) (i := 215) (z := 171) (np := 0) (ml := 2) (ci := 6) (As := []) (rs := []) (pc' := 70) (by decide +kernel) rfl rfl rfl rfl (Nat.le_of_ble_eq_true rfl) (Nat.le_of_ble_eq_true rfl) rfl (ee171 (d + 0) e11) ?_
      refine pv_e_bk (ps := [(70, .iinc 5 1, 3), (73, .goto (-48), 3)]) (t' := (0, 0, 25, [some (.ref 94), some (.int v1), some (.int v2), some (.int (v3 ||| q9)), some (.int t10), some (.int (v5 + (1:Int32))), some (.int q9)], [], pv_mm s T12)) (by decide +kernel) rfl ?_
      obtain rfl := Option.some.inj h
      exact hK _
    clear h
    have h := hv13
    clear hv13
    refine pv_e_ifeq (off := 15) (b := 57) (pc' := 45) (by decide +kernel) (by decide +kernel) rfl (fun c15 => ?_) (fun c15 => ?_)
    · rw [if_pos c15] at h
      refine pv_e_bk (ps := [(57, .iload 4, 2)]) (t' := (0, 0, 59, [some (.ref 94), some (.int v1), some (.int v2), some (.int v3), some (.int v4), some (.int v5), some (.int q9)], [.int v4], pv_mm s T)) (by decide +kernel) rfl ?_
      obtain rfl := Option.some.inj h
      exact hJ14
    · rw [if_neg c15] at h
      refine pv_e_bk (ps := [(45, .iload 4, 2), (47, .bipush (-9), 2)]) (t' := (0, 0, 49, [some (.ref 94), some (.int v1), some (.int v2), some (.int v3), some (.int v4), some (.int v5), some (.int q9)], [.int (-9:Int32), .int v4], pv_mm s T)) (by decide +kernel) rfl ?_
      refine pv_e_icmpne (off := 8) (b := 57) (pc' := 52) (by decide +kernel) (by decide +kernel) rfl (fun c16 => ?_) (fun c16 => ?_)
      · rw [if_pos c16] at h
        refine pv_e_bk (ps := [(52, .iload 5, 2), (54, .goto 5, 3)]) (t' := (0, 0, 59, [some (.ref 94), some (.int v1), some (.int v2), some (.int v3), some (.int v4), some (.int v5), some (.int q9)], [.int v5], pv_mm s T)) (by decide +kernel) rfl ?_
        obtain rfl := Option.some.inj h
        exact hJ14
      · rw [if_neg c16] at h
        refine pv_e_bk (ps := [(57, .iload 4, 2)]) (t' := (0, 0, 59, [some (.ref 94), some (.int v1), some (.int v2), some (.int v3), some (.int v4), some (.int v5), some (.int q9)], [.int v4], pv_mm s T)) (by decide +kernel) rfl ?_
        obtain rfl := Option.some.inj h
        exact hJ14
theorem ee194 {xs : Nat → Int32} {L : Nat} (d : Nat) (x1 : Int32) {s : pv_F} {T : pv_T} {q : Int32 × pv_T}  (h : f194_whose x1 T = some q) : pv_Ev xs L (d + 5) 194 (0, 0, 0, [some (.ref 94), some (.int x1), none, none, none, none, none], [], pv_mm s T) (some (.int q.1), pv_mm s q.2) := by
  generalize hr : ((some (.int q.1), pv_mm s q.2) : Option Value × pv_M) = r
  unfold f194_whose at h
  refine pv_e_bk (ps := [(0, .aload_n 0, 1), (1, .iload_n 1, 1)]) (t' := (0, 0, 2, [some (.ref 94), some (.int x1), none, none, none, none, none], [.int x1, .ref 94], pv_mm s T)) (by decide +kernel) rfl ?_
  obtain ⟨⟨q2, T3⟩, e1, h⟩ := Option.bind_eq_some_iff.mp h
  dsimp only at h
  refine pv_e_cvi (d := d + 4) (i := 231) (z := 178) (np := 1) (ml := 4) (ci := 6) (As := [.int x1]) (rs := []) (pc' := 5) (by decide +kernel) rfl rfl rfl rfl (Nat.le_of_ble_eq_true rfl) (Nat.le_of_ble_eq_true rfl) rfl (ee178 (d + 1) x1 e1) ?_
  refine pv_e_bk (ps := [(5, .istore_n 2, 1), (6, .iload_n 2, 1)]) (t' := (0, 0, 7, [some (.ref 94), some (.int x1), some (.int q2), none, none, none, none], [.int q2], pv_mm s T3)) (by decide +kernel) rfl ?_
  refine pv_e_ifge (off := 5) (b := 12) (pc' := 10) (by decide +kernel) (by decide +kernel) rfl (fun c4 => ?_) (fun c4 => ?_)
  · rw [if_pos c4] at h
    refine pv_e_bk (ps := [(12, .aload_n 0, 1)]) (t' := (0, 0, 13, [some (.ref 94), some (.int x1), some (.int q2), none, none, none, none], [.ref 94], pv_mm s T3)) (by decide +kernel) rfl ?_
    obtain ⟨T6, e5, h⟩ := Option.bind_eq_some_iff.mp h
    refine pv_e_cvv (d := d + 4) (i := 206) (z := 167) (np := 0) (ml := 1) (ci := 6) (As := []) (rs := []) (pc' := 16) (by decide +kernel) rfl rfl rfl rfl (Nat.le_of_ble_eq_true rfl) (Nat.le_of_ble_eq_true rfl) rfl (ee167 (d + 3) e5) ?_
    refine pv_e_bk (ps := [(16, .iconst 0, 1), (17, .istore_n 3, 1), (18, .bipush (-9), 2), (20, .istore 4, 2), (22, .iconst 0, 1), (23, .istore 5, 2)]) (t' := (0, 0, 25, [some (.ref 94), some (.int x1), some (.int q2), some (.int (0:Int32)), some (.int (-9:Int32)), some (.int (0:Int32)), none], [], pv_mm s T6)) (by decide +kernel) rfl ?_
    obtain ⟨⟨w17, w18, w19, T20⟩, e27, h⟩ := Option.bind_eq_some_iff.mp h
    dsimp only at h
    have hx26 : f194_whose_b1_X xs L d r s x1 q2 (w17, w18, w19, T20) := by
      show ∀ z5 : Option Value, ∀ z6 : Option Value, pv_Ev xs L (d + 5) 194 (0, 0, 76, [some (.ref 94), some (.int x1), some (.int q2), some (.int w17), some (.int w18), z5, z6], [], pv_mm s T20) r
      intro z5 z6
      refine pv_e_bk (ps := [(76, .aload_n 0, 1)]) (t' := (0, 0, 77, [some (.ref 94), some (.int x1), some (.int q2), some (.int w17), some (.int w18), z5, z6], [.ref 94], pv_mm s T20)) (by decide +kernel) rfl ?_
      obtain ⟨T22, e21, h⟩ := Option.bind_eq_some_iff.mp h
      refine pv_e_cvv (d := d + 4) (i := 209) (z := 168) (np := 0) (ml := 1) (ci := 6) (As := []) (rs := []) (pc' := 80) (by decide +kernel) rfl rfl rfl rfl (Nat.le_of_ble_eq_true rfl) (Nat.le_of_ble_eq_true rfl) rfl (ee168 (d + 3) e21) ?_
      refine pv_e_bk (ps := [(80, .aload_n 0, 1), (81, .iload 4, 2), (83, .iload_n 3, 1)]) (t' := (0, 0, 84, [some (.ref 94), some (.int x1), some (.int q2), some (.int w17), some (.int w18), z5, z6], [.int w17, .int w18, .ref 94], pv_mm s T22)) (by decide +kernel) rfl ?_
      obtain ⟨⟨q24, T25⟩, e23, h⟩ := Option.bind_eq_some_iff.mp h
      dsimp only at h
      refine pv_e_cvi (d := d + 4) (i := 109) (z := 115) (np := 2) (ml := 3) (ci := 6) (As := [.int w18, .int w17]) (rs := []) (pc' := 87) (by decide +kernel) rfl rfl rfl rfl (Nat.le_of_ble_eq_true rfl) (Nat.le_of_ble_eq_true rfl) rfl (ee115 (d + 4) w18 w17 e23) ?_
      obtain rfl := Option.some.inj h
      cases hr
      exact pv_e_ri (by decide +kernel)
    exact pv_lq_ok (H := f194_whose_b1_H xs L d r s x1 q2) (X := f194_whose_b1_X xs L d r s x1 q2) (f194_whose_b1_ok (xs := xs) (L := L) (d := d) (r := r) (s := s) (v1 := x1) (v2 := q2)) 20000 _ _ e27 hx26 _
  · rw [if_neg c4] at h
    refine pv_e_bk (ps := [(10, .iload_n 2, 1)]) (t' := (0, 0, 11, [some (.ref 94), some (.int x1), some (.int q2), none, none, none, none], [.int q2], pv_mm s T3)) (by decide +kernel) rfl ?_
    obtain rfl := Option.some.inj h
    cases hr
    exact pv_e_ri (by decide +kernel)
