-- printed by wip/whole/gen/parts.py: methods as functions over the ints of the memory, and that the pure machine runs so
def f198_held (x1 : Int32) (x2 : Int32) (T : pv_T) : Option (Int32 × pv_T) :=
  (f140_isOne x1 T).bind fun q2 =>
  if q2 = 0 then
    some ((-1:Int32), T)
  else
    (f119_isRow x2).bind fun q5 =>
    if q5 = 0 then
      some ((-1:Int32), T)
    else
      (f197_askedHeld x1 x2 T).bind fun (q8, T9) =>
      ((
        if 0 ≤ q8 then
          (f116_ask (T9.1 94 33) (T9.1 94 32) T9).bind fun (q16, T17) =>
          some (q16, T17)
        else
          some (q8, T9)) : Option (Int32 × pv_T)).bind fun (t10, T11) =>
      some (t10, T11)
theorem ee198 {xs : Nat → Int32} {L : Nat} (d : Nat) (x1 : Int32) (x2 : Int32) {s : pv_F} {T : pv_T} {q : Int32 × pv_T}  (h : f198_held x1 x2 T = some q) : pv_Ev xs L (d + 15) 198 (0, 0, 0, [some (.ref 94), some (.int x1), some (.int x2), none], [], pv_mm s T) (some (.int q.1), pv_mm s q.2) := by
  generalize hr : ((some (.int q.1), pv_mm s q.2) : Option Value × pv_M) = r
  unfold f198_held at h
  refine pv_e_bk (ps := [(0, .aload_n 0, 1), (1, .iload_n 1, 1)]) (t' := (0, 0, 2, [some (.ref 94), some (.int x1), some (.int x2), none], [.int x1, .ref 94], pv_mm s T)) (by decide +kernel) rfl ?_
  obtain ⟨q2, e1, h⟩ := Option.bind_eq_some_iff.mp h
  refine pv_e_cvi (d := d + 14) (i := 152) (z := 140) (np := 1) (ml := 2) (ci := 6) (As := [.int x1]) (rs := []) (pc' := 5) (by decide +kernel) rfl rfl rfl rfl (Nat.le_of_ble_eq_true rfl) (Nat.le_of_ble_eq_true rfl) rfl (ee140 (d + 13) x1 e1) ?_
  refine pv_e_ifeq (off := 10) (b := 15) (pc' := 8) (by decide +kernel) (by decide +kernel) rfl (fun c3 => ?_) (fun c3 => ?_)
  · rw [if_pos c3] at h
    refine pv_e_bk (ps := [(15, .iconst (-1), 1)]) (t' := (0, 0, 16, [some (.ref 94), some (.int x1), some (.int x2), none], [.int (-1:Int32)], pv_mm s T)) (by decide +kernel) rfl ?_
    obtain rfl := Option.some.inj h
    cases hr
    exact pv_e_ri (by decide +kernel)
  · rw [if_neg c3] at h
    refine pv_e_bk (ps := [(8, .iload_n 2, 1)]) (t' := (0, 0, 9, [some (.ref 94), some (.int x1), some (.int x2), none], [.int x2], pv_mm s T)) (by decide +kernel) rfl ?_
    obtain ⟨q5, e4, h⟩ := Option.bind_eq_some_iff.mp h
    refine pv_e_csi (d := d + 14) (i := 87) (z := 119) (np := 1) (ml := 1) (As := [.int x2]) (rs := []) (pc' := 12) (by decide +kernel) rfl rfl rfl (Nat.le_of_ble_eq_true rfl) (Nat.le_of_ble_eq_true rfl) rfl (ee119 (d + 13) x2 e4) ?_
    refine pv_e_ifne (off := 5) (b := 17) (pc' := 15) (by decide +kernel) (by decide +kernel) rfl (fun c6 => ?_) (fun c6 => ?_)
    · rw [if_pos c6] at h
      refine pv_e_bk (ps := [(15, .iconst (-1), 1)]) (t' := (0, 0, 16, [some (.ref 94), some (.int x1), some (.int x2), none], [.int (-1:Int32)], pv_mm s T)) (by decide +kernel) rfl ?_
      obtain rfl := Option.some.inj h
      cases hr
      exact pv_e_ri (by decide +kernel)
    · rw [if_neg c6] at h
      refine pv_e_bk (ps := [(17, .aload_n 0, 1), (18, .iload_n 1, 1), (19, .iload_n 2, 1)]) (t' := (0, 0, 20, [some (.ref 94), some (.int x1), some (.int x2), none], [.int x2, .int x1, .ref 94], pv_mm s T)) (by decide +kernel) rfl ?_
      obtain ⟨⟨q8, T9⟩, e7, h⟩ := Option.bind_eq_some_iff.mp h
      dsimp only at h
      refine pv_e_cvi (d := d + 14) (i := 285) (z := 197) (np := 2) (ml := 5) (ci := 6) (As := [.int x1, .int x2]) (rs := []) (pc' := 23) (by decide +kernel) rfl rfl rfl rfl (Nat.le_of_ble_eq_true rfl) (Nat.le_of_ble_eq_true rfl) rfl (ee197 (d + 0) x1 x2 e7) ?_
      refine pv_e_bk (ps := [(23, .istore_n 3, 1), (24, .iload_n 3, 1)]) (t' := (0, 0, 25, [some (.ref 94), some (.int x1), some (.int x2), some (.int q8)], [.int q8], pv_mm s T9)) (by decide +kernel) rfl ?_
      obtain ⟨⟨t10, T11⟩, hv12, h⟩ := Option.bind_eq_some_iff.mp h
      dsimp only at h
      have hJ13 : pv_Ev xs L (d + 15) 198 (0, 0, 44, [some (.ref 94), some (.int x1), some (.int x2), some (.int q8)], [.int t10], pv_mm s T11) r := by
        obtain rfl := Option.some.inj h
        cases hr
        exact pv_e_ri (by decide +kernel)
      clear h
      have h := hv12
      clear hv12
      refine pv_e_ifge (off := 7) (b := 32) (pc' := 28) (by decide +kernel) (by decide +kernel) rfl (fun c14 => ?_) (fun c14 => ?_)
      · rw [if_pos c14] at h
        refine pv_e_bk (ps := [(32, .aload_n 0, 1), (33, .aload_n 0, 1)]) (t' := (0, 0, 34, [some (.ref 94), some (.int x1), some (.int x2), some (.int q8)], [.ref 94, .ref 94], pv_mm s T9)) (by decide +kernel) rfl ?_
        refine pv_e_gm (i := 278) (ci := 6) (j := 33) (pc' := 37) (by decide +kernel) (by decide) rfl rfl rfl ?_
        refine pv_e_bk (ps := [(37, .aload_n 0, 1)]) (t' := (0, 0, 38, [some (.ref 94), some (.int x1), some (.int x2), some (.int q8)], [.ref 94, .int (T9.1 94 33), .ref 94], pv_mm s T9)) (by decide +kernel) rfl ?_
        refine pv_e_gm (i := 275) (ci := 6) (j := 32) (pc' := 41) (by decide +kernel) (by decide) rfl rfl rfl ?_
        obtain ⟨⟨q16, T17⟩, e15, h⟩ := Option.bind_eq_some_iff.mp h
        dsimp only at h
        refine pv_e_cvi (d := d + 14) (i := 109) (z := 116) (np := 2) (ml := 3) (ci := 6) (As := [.int (T9.1 94 33), .int (T9.1 94 32)]) (rs := []) (pc' := 44) (by decide +kernel) rfl rfl rfl rfl (Nat.le_of_ble_eq_true rfl) (Nat.le_of_ble_eq_true rfl) rfl (ee116 (d + 14) (T9.1 94 33) (T9.1 94 32) e15) ?_
        cases h
        exact hJ13
      · rw [if_neg c14] at h
        refine pv_e_bk (ps := [(28, .iload_n 3, 1), (29, .goto 15, 3)]) (t' := (0, 0, 44, [some (.ref 94), some (.int x1), some (.int x2), some (.int q8)], [.int q8], pv_mm s T9)) (by decide +kernel) rfl ?_
        cases h
        exact hJ13
def f199_could (x1 : Int32) (x2 : Int32) (x3 : Int32) (T : pv_T) : Option (Int32 × pv_T) :=
  (f140_isOne x1 T).bind fun q2 =>
  if q2 = 0 then
    some ((-1:Int32), T)
  else
    (f119_isRow x2).bind fun q5 =>
    if q5 = 0 then
      some ((-1:Int32), T)
    else
      (f114_in x3 (0:Int32) (3:Int32)).bind fun q8 =>
      if q8 = 0 then
        some ((-1:Int32), T)
      else
        (f197_askedHeld x1 x2 T).bind fun (q11, T12) =>
        if 0 ≤ q11 then
          (pv_rd T12.1 96 6 x2).bind fun q14 =>
          ((
            if q14 ≤ x3 then
              some (-1:Int32)
            else
              (pv_rd T12.1 115 4 x3).bind fun q20 =>
              some q20) : Option (Int32)).bind fun t16 =>
          some (t16, T12)
        else
          some (q11, T12)
theorem ee199 {xs : Nat → Int32} {L : Nat} (d : Nat) (x1 : Int32) (x2 : Int32) (x3 : Int32) {s : pv_F} {T : pv_T} {q : Int32 × pv_T}  (h : f199_could x1 x2 x3 T = some q) : pv_Ev xs L (d + 15) 199 (0, 0, 0, [some (.ref 94), some (.int x1), some (.int x2), some (.int x3), none], [], pv_mm s T) (some (.int q.1), pv_mm s q.2) := by
  generalize hr : ((some (.int q.1), pv_mm s q.2) : Option Value × pv_M) = r
  unfold f199_could at h
  refine pv_e_bk (ps := [(0, .aload_n 0, 1), (1, .iload_n 1, 1)]) (t' := (0, 0, 2, [some (.ref 94), some (.int x1), some (.int x2), some (.int x3), none], [.int x1, .ref 94], pv_mm s T)) (by decide +kernel) rfl ?_
  obtain ⟨q2, e1, h⟩ := Option.bind_eq_some_iff.mp h
  refine pv_e_cvi (d := d + 14) (i := 152) (z := 140) (np := 1) (ml := 2) (ci := 6) (As := [.int x1]) (rs := []) (pc' := 5) (by decide +kernel) rfl rfl rfl rfl (Nat.le_of_ble_eq_true rfl) (Nat.le_of_ble_eq_true rfl) rfl (ee140 (d + 13) x1 e1) ?_
  refine pv_e_ifeq (off := 19) (b := 24) (pc' := 8) (by decide +kernel) (by decide +kernel) rfl (fun c3 => ?_) (fun c3 => ?_)
  · rw [if_pos c3] at h
    refine pv_e_bk (ps := [(24, .iconst (-1), 1)]) (t' := (0, 0, 25, [some (.ref 94), some (.int x1), some (.int x2), some (.int x3), none], [.int (-1:Int32)], pv_mm s T)) (by decide +kernel) rfl ?_
    obtain rfl := Option.some.inj h
    cases hr
    exact pv_e_ri (by decide +kernel)
  · rw [if_neg c3] at h
    refine pv_e_bk (ps := [(8, .iload_n 2, 1)]) (t' := (0, 0, 9, [some (.ref 94), some (.int x1), some (.int x2), some (.int x3), none], [.int x2], pv_mm s T)) (by decide +kernel) rfl ?_
    obtain ⟨q5, e4, h⟩ := Option.bind_eq_some_iff.mp h
    refine pv_e_csi (d := d + 14) (i := 87) (z := 119) (np := 1) (ml := 1) (As := [.int x2]) (rs := []) (pc' := 12) (by decide +kernel) rfl rfl rfl (Nat.le_of_ble_eq_true rfl) (Nat.le_of_ble_eq_true rfl) rfl (ee119 (d + 13) x2 e4) ?_
    refine pv_e_ifeq (off := 12) (b := 24) (pc' := 15) (by decide +kernel) (by decide +kernel) rfl (fun c6 => ?_) (fun c6 => ?_)
    · rw [if_pos c6] at h
      refine pv_e_bk (ps := [(24, .iconst (-1), 1)]) (t' := (0, 0, 25, [some (.ref 94), some (.int x1), some (.int x2), some (.int x3), none], [.int (-1:Int32)], pv_mm s T)) (by decide +kernel) rfl ?_
      obtain rfl := Option.some.inj h
      cases hr
      exact pv_e_ri (by decide +kernel)
    · rw [if_neg c6] at h
      refine pv_e_bk (ps := [(15, .iload_n 3, 1), (16, .iconst 0, 1), (17, .iconst 3, 1)]) (t' := (0, 0, 18, [some (.ref 94), some (.int x1), some (.int x2), some (.int x3), none], [.int (3:Int32), .int (0:Int32), .int x3], pv_mm s T)) (by decide +kernel) rfl ?_
      obtain ⟨q8, e7, h⟩ := Option.bind_eq_some_iff.mp h
      refine pv_e_csi (d := d + 14) (i := 83) (z := 114) (np := 3) (ml := 3) (As := [.int x3, .int (0:Int32), .int (3:Int32)]) (rs := []) (pc' := 21) (by decide +kernel) rfl rfl rfl (Nat.le_of_ble_eq_true rfl) (Nat.le_of_ble_eq_true rfl) rfl (ee114 (d + 14) x3 (0:Int32) (3:Int32) e7) ?_
      refine pv_e_ifne (off := 5) (b := 26) (pc' := 24) (by decide +kernel) (by decide +kernel) rfl (fun c9 => ?_) (fun c9 => ?_)
      · rw [if_pos c9] at h
        refine pv_e_bk (ps := [(24, .iconst (-1), 1)]) (t' := (0, 0, 25, [some (.ref 94), some (.int x1), some (.int x2), some (.int x3), none], [.int (-1:Int32)], pv_mm s T)) (by decide +kernel) rfl ?_
        obtain rfl := Option.some.inj h
        cases hr
        exact pv_e_ri (by decide +kernel)
      · rw [if_neg c9] at h
        refine pv_e_bk (ps := [(26, .aload_n 0, 1), (27, .iload_n 1, 1), (28, .iload_n 2, 1)]) (t' := (0, 0, 29, [some (.ref 94), some (.int x1), some (.int x2), some (.int x3), none], [.int x2, .int x1, .ref 94], pv_mm s T)) (by decide +kernel) rfl ?_
        obtain ⟨⟨q11, T12⟩, e10, h⟩ := Option.bind_eq_some_iff.mp h
        dsimp only at h
        refine pv_e_cvi (d := d + 14) (i := 285) (z := 197) (np := 2) (ml := 5) (ci := 6) (As := [.int x1, .int x2]) (rs := []) (pc' := 32) (by decide +kernel) rfl rfl rfl rfl (Nat.le_of_ble_eq_true rfl) (Nat.le_of_ble_eq_true rfl) rfl (ee197 (d + 0) x1 x2 e10) ?_
        refine pv_e_bk (ps := [(32, .istore 4, 2), (34, .iload 4, 2)]) (t' := (0, 0, 36, [some (.ref 94), some (.int x1), some (.int x2), some (.int x3), some (.int q11)], [.int q11], pv_mm s T12)) (by decide +kernel) rfl ?_
        refine pv_e_ifge (off := 6) (b := 42) (pc' := 39) (by decide +kernel) (by decide +kernel) rfl (fun c13 => ?_) (fun c13 => ?_)
        · rw [if_pos c13] at h
          refine pv_e_bk (ps := [(42, .iload_n 3, 1), (43, .aload_n 0, 1)]) (t' := (0, 0, 44, [some (.ref 94), some (.int x1), some (.int x2), some (.int x3), some (.int q11)], [.ref 94, .int x3], pv_mm s T12)) (by decide +kernel) rfl ?_
          refine pv_e_gr (i := 13) (ci := 6) (j := 3) (b := 96) (pc' := 47) (by decide +kernel) rfl rfl rfl ?_
          refine pv_e_bk (ps := [(47, .iload_n 2, 1)]) (t' := (0, 0, 48, [some (.ref 94), some (.int x1), some (.int x2), some (.int x3), some (.int q11)], [.int x2, .ref 96, .int x3], pv_mm s T12)) (by decide +kernel) rfl ?_
          obtain ⟨q14, e15, h⟩ := Option.bind_eq_some_iff.mp h
          refine pv_e_rm (pc' := 49) (by decide +kernel) (by decide) rfl e15 rfl ?_
          obtain ⟨t16, hv17, h⟩ := Option.bind_eq_some_iff.mp h
          have hJ18 : pv_Ev xs L (d + 15) 199 (0, 0, 62, [some (.ref 94), some (.int x1), some (.int x2), some (.int x3), some (.int q11)], [.int t16], pv_mm s T12) r := by
            obtain rfl := Option.some.inj h
            cases hr
            exact pv_e_ri (by decide +kernel)
          clear h
          have h := hv17
          clear hv17
          refine pv_e_icmpge (off := 12) (b := 61) (pc' := 52) (by decide +kernel) (by decide +kernel) rfl (fun c19 => ?_) (fun c19 => ?_)
          · rw [if_pos c19] at h
            refine pv_e_bk (ps := [(61, .iconst (-1), 1)]) (t' := (0, 0, 62, [some (.ref 94), some (.int x1), some (.int x2), some (.int x3), some (.int q11)], [.int (-1:Int32)], pv_mm s T12)) (by decide +kernel) rfl ?_
            obtain rfl := Option.some.inj h
            exact hJ18
          · rw [if_neg c19] at h
            refine pv_e_bk (ps := [(52, .aload_n 0, 1)]) (t' := (0, 0, 53, [some (.ref 94), some (.int x1), some (.int x2), some (.int x3), some (.int q11)], [.ref 94], pv_mm s T12)) (by decide +kernel) rfl ?_
            refine pv_e_gr (i := 74) (ci := 6) (j := 34) (b := 115) (pc' := 56) (by decide +kernel) rfl rfl rfl ?_
            refine pv_e_bk (ps := [(56, .iload_n 3, 1)]) (t' := (0, 0, 57, [some (.ref 94), some (.int x1), some (.int x2), some (.int x3), some (.int q11)], [.int x3, .ref 115], pv_mm s T12)) (by decide +kernel) rfl ?_
            obtain ⟨q20, e21, h⟩ := Option.bind_eq_some_iff.mp h
            refine pv_e_rm (pc' := 58) (by decide +kernel) (by decide) rfl e21 rfl ?_
            refine pv_e_bk (ps := [(58, .goto 4, 3)]) (t' := (0, 0, 62, [some (.ref 94), some (.int x1), some (.int x2), some (.int x3), some (.int q11)], [.int q20], pv_mm s T12)) (by decide +kernel) rfl ?_
            obtain rfl := Option.some.inj h
            exact hJ18
        · rw [if_neg c13] at h
          refine pv_e_bk (ps := [(39, .iload 4, 2)]) (t' := (0, 0, 41, [some (.ref 94), some (.int x1), some (.int x2), some (.int x3), some (.int q11)], [.int q11], pv_mm s T12)) (by decide +kernel) rfl ?_
          obtain rfl := Option.some.inj h
          cases hr
          exact pv_e_ri (by decide +kernel)
def f200_beginSo_b2 (v1 : Int32) (v2 : Int32) (v3 : Int32) (v4 : Int32) (T : pv_T) (st : Int32 × Int32) : Option ((Int32 × Int32) ⊕ (Int32 × Int32)) := match st with
  | (v5, v6) =>
    if v1 ≤ v6 then
      some (.inr (v5, v6))
    else
      ((
        if v5 = 0 then
          some (0:Int32)
        else
          (f143_letterOf v4 v6 T).bind fun q9 =>
          (pv_rd T.1 111 6 v6).bind fun q10 =>
          if q9 = q10 then
            some (1:Int32)
          else
            some (0:Int32)) : Option (Int32)).bind fun t4 =>
      some (.inl (t4, v6 + (1:Int32)))
def f200_beginSo_b2_H (xs : Nat → Int32) (L d : Nat) (r : Option Value × pv_M) (s : pv_F) (v1 : Int32) (v2 : Int32) (v3 : Int32) (v4 : Int32) (T : pv_T) (st : Int32 × Int32) : Prop := match st with
  | (v5, v6) => pv_Ev xs L (d + 1) 200 (0, 0, 51, [some (.ref 94), some (.int v1), some (.int v2), some (.int v3), some (.int v4), some (.int v5), some (.int v6)], [], pv_mm s T) r
def f200_beginSo_b2_X (xs : Nat → Int32) (L d : Nat) (r : Option Value × pv_M) (s : pv_F) (v1 : Int32) (v2 : Int32) (v3 : Int32) (v4 : Int32) (T : pv_T) (st : Int32 × Int32) : Prop := match st with
  | (v5, v6) => ∀ z6 : Option Value, pv_Ev xs L (d + 1) 200 (0, 0, 93, [some (.ref 94), some (.int v1), some (.int v2), some (.int v3), some (.int v4), some (.int v5), z6], [], pv_mm s T) r
def f200_beginSo_b1 (v1 : Int32) (v2 : Int32) (T : pv_T) (st : Int32 × Int32) : Option ((Int32 × Int32) ⊕ (Int32 × Int32)) := match st with
  | (v3, v4) =>
    if (T.1 94 8) ≤ v4 then
      some (.inr (v3, v4))
    else
      ((
        if v4 = v2 then
          some (0:Int32)
        else
          (pv_rd T.1 101 7 v4).bind fun q24 =>
          if q24 = (3:Int32) then
            some (0:Int32)
          else
            (f142_lenOf v4 T).bind fun q28 =>
            if q28 < v1 then
              some (0:Int32)
            else
              some (1:Int32)) : Option (Int32)).bind fun t2 =>
      (pv_lq (f200_beginSo_b2 v1 v2 v3 v4 T) 20000 (t2, (0:Int32))).bind fun (w13, w14) =>
      ((
        if w13 = 0 then
          some (0:Int32)
        else
          some ((1:Int32) <<< (v4 &&& 31))) : Option (Int32)).bind fun t15 =>
      some (.inl (v3 ||| t15, v4 + (1:Int32)))
def f200_beginSo_b1_H (xs : Nat → Int32) (L d : Nat) (r : Option Value × pv_M) (s : pv_F) (v1 : Int32) (v2 : Int32) (T : pv_T) (st : Int32 × Int32) : Prop := match st with
  | (v3, v4) => ∀ z5 : Option Value, ∀ z6 : Option Value, pv_Ev xs L (d + 1) 200 (0, 0, 5, [some (.ref 94), some (.int v1), some (.int v2), some (.int v3), some (.int v4), z5, z6], [], pv_mm s T) r
def f200_beginSo_b1_X (xs : Nat → Int32) (L d : Nat) (r : Option Value × pv_M) (s : pv_F) (v1 : Int32) (v2 : Int32) (T : pv_T) (st : Int32 × Int32) : Prop := match st with
  | (v3, v4) => ∀ z4 : Option Value, ∀ z5 : Option Value, ∀ z6 : Option Value, pv_Ev xs L (d + 1) 200 (0, 0, 115, [some (.ref 94), some (.int v1), some (.int v2), some (.int v3), z4, z5, z6], [], pv_mm s T) r
def f200_beginSo (x1 : Int32) (x2 : Int32) (T : pv_T) : Option (Int32) :=
  (pv_lq (f200_beginSo_b1 x1 x2 T) 20000 ((0:Int32), (0:Int32))).bind fun (w30, w31) =>
  some w30
theorem f200_beginSo_b2_ok {xs : Nat → Int32} {L d : Nat} {r : Option Value × pv_M} {s : pv_F} {v1 : Int32} {v2 : Int32} {v3 : Int32} {v4 : Int32} {T : pv_T} (st : Int32 × Int32) (o : (Int32 × Int32) ⊕ (Int32 × Int32)) (h : f200_beginSo_b2 v1 v2 v3 v4 T st = some o) (hK : pv_Kq (f200_beginSo_b2_H xs L d r s v1 v2 v3 v4 T) (f200_beginSo_b2_X xs L d r s v1 v2 v3 v4 T) o) : f200_beginSo_b2_H xs L d r s v1 v2 v3 v4 T st := by
  obtain ⟨v5, v6⟩ := st
  show pv_Ev xs L (d + 1) 200 (0, 0, 51, [some (.ref 94), some (.int v1), some (.int v2), some (.int v3), some (.int v4), some (.int v5), some (.int v6)], [], pv_mm s T) r
  unfold f200_beginSo_b2 at h
  dsimp only at h
  refine pv_e_bk (ps := [(51, .iload 6, 2), (53, .iload_n 1, 1)]) (t' := (0, 0, 54, [some (.ref 94), some (.int v1), some (.int v2), some (.int v3), some (.int v4), some (.int v5), some (.int v6)], [.int v1, .int v6], pv_mm s T)) (by decide +kernel) rfl ?_
  refine pv_e_icmpge (off := 39) (b := 93) (pc' := 57) (by decide +kernel) (by decide +kernel) rfl (fun c3 => ?_) (fun c3 => ?_)
  · rw [if_pos c3] at h
    obtain rfl := Option.some.inj h
    exact hK _
  · rw [if_neg c3] at h
    refine pv_e_bk (ps := [(57, .iload 5, 2)]) (t' := (0, 0, 59, [some (.ref 94), some (.int v1), some (.int v2), some (.int v3), some (.int v4), some (.int v5), some (.int v6)], [.int v5], pv_mm s T)) (by decide +kernel) rfl ?_
    obtain ⟨t4, hv5, h⟩ := Option.bind_eq_some_iff.mp h
    have hJ6 : pv_Ev xs L (d + 1) 200 (0, 0, 85, [some (.ref 94), some (.int v1), some (.int v2), some (.int v3), some (.int v4), some (.int v5), some (.int v6)], [.int t4], pv_mm s T) r := by
      refine pv_e_bk (ps := [(85, .istore 5, 2), (87, .iinc 6 1, 3), (90, .goto (-39), 3)]) (t' := (0, 0, 51, [some (.ref 94), some (.int v1), some (.int v2), some (.int v3), some (.int v4), some (.int t4), some (.int (v6 + (1:Int32)))], [], pv_mm s T)) (by decide +kernel) rfl ?_
      obtain rfl := Option.some.inj h
      exact hK
    clear h
    have h := hv5
    clear hv5
    refine pv_e_ifeq (off := 25) (b := 84) (pc' := 62) (by decide +kernel) (by decide +kernel) rfl (fun c7 => ?_) (fun c7 => ?_)
    · rw [if_pos c7] at h
      refine pv_e_bk (ps := [(84, .iconst 0, 1)]) (t' := (0, 0, 85, [some (.ref 94), some (.int v1), some (.int v2), some (.int v3), some (.int v4), some (.int v5), some (.int v6)], [.int (0:Int32)], pv_mm s T)) (by decide +kernel) rfl ?_
      obtain rfl := Option.some.inj h
      exact hJ6
    · rw [if_neg c7] at h
      refine pv_e_bk (ps := [(62, .aload_n 0, 1), (63, .iload 4, 2), (65, .iload 6, 2)]) (t' := (0, 0, 67, [some (.ref 94), some (.int v1), some (.int v2), some (.int v3), some (.int v4), some (.int v5), some (.int v6)], [.int v6, .int v4, .ref 94], pv_mm s T)) (by decide +kernel) rfl ?_
      obtain ⟨q9, e8, h⟩ := Option.bind_eq_some_iff.mp h
      refine pv_e_cvi (d := d + 0) (i := 145) (z := 143) (np := 2) (ml := 3) (ci := 6) (As := [.int v4, .int v6]) (rs := []) (pc' := 70) (by decide +kernel) rfl rfl rfl rfl (Nat.le_of_ble_eq_true rfl) (Nat.le_of_ble_eq_true rfl) rfl (ee143 (d + 0) v4 v6 e8) ?_
      refine pv_e_bk (ps := [(70, .aload_n 0, 1)]) (t' := (0, 0, 71, [some (.ref 94), some (.int v1), some (.int v2), some (.int v3), some (.int v4), some (.int v5), some (.int v6)], [.ref 94, .int q9], pv_mm s T)) (by decide +kernel) rfl ?_
      refine pv_e_gr (i := 62) (ci := 6) (j := 25) (b := 111) (pc' := 74) (by decide +kernel) rfl rfl rfl ?_
      refine pv_e_bk (ps := [(74, .iload 6, 2)]) (t' := (0, 0, 76, [some (.ref 94), some (.int v1), some (.int v2), some (.int v3), some (.int v4), some (.int v5), some (.int v6)], [.int v6, .ref 111, .int q9], pv_mm s T)) (by decide +kernel) rfl ?_
      obtain ⟨q10, e11, h⟩ := Option.bind_eq_some_iff.mp h
      refine pv_e_rm (pc' := 77) (by decide +kernel) (by decide) rfl e11 rfl ?_
      refine pv_e_icmpne (off := 7) (b := 84) (pc' := 80) (by decide +kernel) (by decide +kernel) rfl (fun c12 => ?_) (fun c12 => ?_)
      · rw [if_pos c12] at h
        refine pv_e_bk (ps := [(80, .iconst 1, 1), (81, .goto 4, 3)]) (t' := (0, 0, 85, [some (.ref 94), some (.int v1), some (.int v2), some (.int v3), some (.int v4), some (.int v5), some (.int v6)], [.int (1:Int32)], pv_mm s T)) (by decide +kernel) rfl ?_
        obtain rfl := Option.some.inj h
        exact hJ6
      · rw [if_neg c12] at h
        refine pv_e_bk (ps := [(84, .iconst 0, 1)]) (t' := (0, 0, 85, [some (.ref 94), some (.int v1), some (.int v2), some (.int v3), some (.int v4), some (.int v5), some (.int v6)], [.int (0:Int32)], pv_mm s T)) (by decide +kernel) rfl ?_
        obtain rfl := Option.some.inj h
        exact hJ6
theorem f200_beginSo_b1_ok {xs : Nat → Int32} {L d : Nat} {r : Option Value × pv_M} {s : pv_F} {v1 : Int32} {v2 : Int32} {T : pv_T} (st : Int32 × Int32) (o : (Int32 × Int32) ⊕ (Int32 × Int32)) (h : f200_beginSo_b1 v1 v2 T st = some o) (hK : pv_Kq (f200_beginSo_b1_H xs L d r s v1 v2 T) (f200_beginSo_b1_X xs L d r s v1 v2 T) o) : f200_beginSo_b1_H xs L d r s v1 v2 T st := by
  obtain ⟨v3, v4⟩ := st
  show ∀ z5 : Option Value, ∀ z6 : Option Value, pv_Ev xs L (d + 1) 200 (0, 0, 5, [some (.ref 94), some (.int v1), some (.int v2), some (.int v3), some (.int v4), z5, z6], [], pv_mm s T) r
  intro z5 z6
  unfold f200_beginSo_b1 at h
  dsimp only at h
  refine pv_e_bk (ps := [(5, .iload 4, 2), (7, .aload_n 0, 1)]) (t' := (0, 0, 8, [some (.ref 94), some (.int v1), some (.int v2), some (.int v3), some (.int v4), z5, z6], [.ref 94, .int v4], pv_mm s T)) (by decide +kernel) rfl ?_
  refine pv_e_gm (i := 136) (ci := 6) (j := 8) (pc' := 11) (by decide +kernel) (by decide) rfl rfl rfl ?_
  refine pv_e_icmpge (off := 104) (b := 115) (pc' := 14) (by decide +kernel) (by decide +kernel) rfl (fun c1 => ?_) (fun c1 => ?_)
  · rw [if_pos c1] at h
    obtain rfl := Option.some.inj h
    exact hK _ _ _
  · rw [if_neg c1] at h
    refine pv_e_bk (ps := [(14, .iload 4, 2), (16, .iload_n 2, 1)]) (t' := (0, 0, 17, [some (.ref 94), some (.int v1), some (.int v2), some (.int v3), some (.int v4), z5, z6], [.int v2, .int v4], pv_mm s T)) (by decide +kernel) rfl ?_
    obtain ⟨t2, hv21, h⟩ := Option.bind_eq_some_iff.mp h
    have hJ22 : pv_Ev xs L (d + 1) 200 (0, 0, 46, [some (.ref 94), some (.int v1), some (.int v2), some (.int v3), some (.int v4), z5, z6], [.int t2], pv_mm s T) r := by
      refine pv_e_bk (ps := [(46, .istore 5, 2), (48, .iconst 0, 1), (49, .istore 6, 2)]) (t' := (0, 0, 51, [some (.ref 94), some (.int v1), some (.int v2), some (.int v3), some (.int v4), some (.int t2), some (.int (0:Int32))], [], pv_mm s T)) (by decide +kernel) rfl ?_
      obtain ⟨⟨w13, w14⟩, e20, h⟩ := Option.bind_eq_some_iff.mp h
      dsimp only at h
      have hx19 : f200_beginSo_b2_X xs L d r s v1 v2 v3 v4 T (w13, w14) := by
        show ∀ z6 : Option Value, pv_Ev xs L (d + 1) 200 (0, 0, 93, [some (.ref 94), some (.int v1), some (.int v2), some (.int v3), some (.int v4), some (.int w13), z6], [], pv_mm s T) r
        intro z6
        refine pv_e_bk (ps := [(93, .iload_n 3, 1), (94, .iload 5, 2)]) (t' := (0, 0, 96, [some (.ref 94), some (.int v1), some (.int v2), some (.int v3), some (.int v4), some (.int w13), z6], [.int w13, .int v3], pv_mm s T)) (by decide +kernel) rfl ?_
        obtain ⟨t15, hv16, h⟩ := Option.bind_eq_some_iff.mp h
        have hJ17 : pv_Ev xs L (d + 1) 200 (0, 0, 107, [some (.ref 94), some (.int v1), some (.int v2), some (.int v3), some (.int v4), some (.int w13), z6], [.int t15, .int v3], pv_mm s T) r := by
          refine pv_e_bk (ps := [(107, .ior, 1), (108, .istore_n 3, 1), (109, .iinc 4 1, 3), (112, .goto (-107), 3)]) (t' := (0, 0, 5, [some (.ref 94), some (.int v1), some (.int v2), some (.int (v3 ||| t15)), some (.int (v4 + (1:Int32))), some (.int w13), z6], [], pv_mm s T)) (by decide +kernel) rfl ?_
          obtain rfl := Option.some.inj h
          exact hK _ _
        clear h
        have h := hv16
        clear hv16
        refine pv_e_ifeq (off := 10) (b := 106) (pc' := 99) (by decide +kernel) (by decide +kernel) rfl (fun c18 => ?_) (fun c18 => ?_)
        · rw [if_pos c18] at h
          refine pv_e_bk (ps := [(106, .iconst 0, 1)]) (t' := (0, 0, 107, [some (.ref 94), some (.int v1), some (.int v2), some (.int v3), some (.int v4), some (.int w13), z6], [.int (0:Int32), .int v3], pv_mm s T)) (by decide +kernel) rfl ?_
          obtain rfl := Option.some.inj h
          exact hJ17
        · rw [if_neg c18] at h
          refine pv_e_bk (ps := [(99, .iconst 1, 1), (100, .iload 4, 2), (102, .ishl, 1), (103, .goto 4, 3)]) (t' := (0, 0, 107, [some (.ref 94), some (.int v1), some (.int v2), some (.int v3), some (.int v4), some (.int w13), z6], [.int ((1:Int32) <<< (v4 &&& 31)), .int v3], pv_mm s T)) (by decide +kernel) rfl ?_
          obtain rfl := Option.some.inj h
          exact hJ17
      exact pv_lq_ok (H := f200_beginSo_b2_H xs L d r s v1 v2 v3 v4 T) (X := f200_beginSo_b2_X xs L d r s v1 v2 v3 v4 T) (f200_beginSo_b2_ok (xs := xs) (L := L) (d := d) (r := r) (s := s) (v1 := v1) (v2 := v2) (v3 := v3) (v4 := v4) (T := T)) 20000 _ _ e20 hx19
    clear h
    have h := hv21
    clear hv21
    refine pv_e_icmpeq (off := 28) (b := 45) (pc' := 20) (by decide +kernel) (by decide +kernel) rfl (fun c23 => ?_) (fun c23 => ?_)
    · rw [if_pos c23] at h
      refine pv_e_bk (ps := [(45, .iconst 0, 1)]) (t' := (0, 0, 46, [some (.ref 94), some (.int v1), some (.int v2), some (.int v3), some (.int v4), z5, z6], [.int (0:Int32)], pv_mm s T)) (by decide +kernel) rfl ?_
      obtain rfl := Option.some.inj h
      exact hJ22
    · rw [if_neg c23] at h
      refine pv_e_bk (ps := [(20, .aload_n 0, 1)]) (t' := (0, 0, 21, [some (.ref 94), some (.int v1), some (.int v2), some (.int v3), some (.int v4), z5, z6], [.ref 94], pv_mm s T)) (by decide +kernel) rfl ?_
      refine pv_e_gr (i := 32) (ci := 6) (j := 11) (b := 101) (pc' := 24) (by decide +kernel) rfl rfl rfl ?_
      refine pv_e_bk (ps := [(24, .iload 4, 2)]) (t' := (0, 0, 26, [some (.ref 94), some (.int v1), some (.int v2), some (.int v3), some (.int v4), z5, z6], [.int v4, .ref 101], pv_mm s T)) (by decide +kernel) rfl ?_
      obtain ⟨q24, e25, h⟩ := Option.bind_eq_some_iff.mp h
      refine pv_e_rm (pc' := 27) (by decide +kernel) (by decide) rfl e25 rfl ?_
      refine pv_e_bk (ps := [(27, .iconst 3, 1)]) (t' := (0, 0, 28, [some (.ref 94), some (.int v1), some (.int v2), some (.int v3), some (.int v4), z5, z6], [.int (3:Int32), .int q24], pv_mm s T)) (by decide +kernel) rfl ?_
      refine pv_e_icmpeq (off := 17) (b := 45) (pc' := 31) (by decide +kernel) (by decide +kernel) rfl (fun c26 => ?_) (fun c26 => ?_)
      · rw [if_pos c26] at h
        refine pv_e_bk (ps := [(45, .iconst 0, 1)]) (t' := (0, 0, 46, [some (.ref 94), some (.int v1), some (.int v2), some (.int v3), some (.int v4), z5, z6], [.int (0:Int32)], pv_mm s T)) (by decide +kernel) rfl ?_
        obtain rfl := Option.some.inj h
        exact hJ22
      · rw [if_neg c26] at h
        refine pv_e_bk (ps := [(31, .aload_n 0, 1), (32, .iload 4, 2)]) (t' := (0, 0, 34, [some (.ref 94), some (.int v1), some (.int v2), some (.int v3), some (.int v4), z5, z6], [.int v4, .ref 94], pv_mm s T)) (by decide +kernel) rfl ?_
        obtain ⟨q28, e27, h⟩ := Option.bind_eq_some_iff.mp h
        refine pv_e_cvi (d := d + 0) (i := 142) (z := 142) (np := 1) (ml := 2) (ci := 6) (As := [.int v4]) (rs := []) (pc' := 37) (by decide +kernel) rfl rfl rfl rfl (Nat.le_of_ble_eq_true rfl) (Nat.le_of_ble_eq_true rfl) rfl (ee142 (d + 0) v4 e27) ?_
        refine pv_e_bk (ps := [(37, .iload_n 1, 1)]) (t' := (0, 0, 38, [some (.ref 94), some (.int v1), some (.int v2), some (.int v3), some (.int v4), z5, z6], [.int v1, .int q28], pv_mm s T)) (by decide +kernel) rfl ?_
        refine pv_e_icmplt (off := 7) (b := 45) (pc' := 41) (by decide +kernel) (by decide +kernel) rfl (fun c29 => ?_) (fun c29 => ?_)
        · rw [if_pos c29] at h
          refine pv_e_bk (ps := [(45, .iconst 0, 1)]) (t' := (0, 0, 46, [some (.ref 94), some (.int v1), some (.int v2), some (.int v3), some (.int v4), z5, z6], [.int (0:Int32)], pv_mm s T)) (by decide +kernel) rfl ?_
          obtain rfl := Option.some.inj h
          exact hJ22
        · rw [if_neg c29] at h
          refine pv_e_bk (ps := [(41, .iconst 1, 1), (42, .goto 4, 3)]) (t' := (0, 0, 46, [some (.ref 94), some (.int v1), some (.int v2), some (.int v3), some (.int v4), z5, z6], [.int (1:Int32)], pv_mm s T)) (by decide +kernel) rfl ?_
          obtain rfl := Option.some.inj h
          exact hJ22
theorem ee200 {xs : Nat → Int32} {L : Nat} (d : Nat) (x1 : Int32) (x2 : Int32) {s : pv_F} {T : pv_T} {q : Int32}  (h : f200_beginSo x1 x2 T = some q) : pv_Ev xs L (d + 1) 200 (0, 0, 0, [some (.ref 94), some (.int x1), some (.int x2), none, none, none, none], [], pv_mm s T) (some (.int q), pv_mm s T) := by
  generalize hr : ((some (.int q), pv_mm s T) : Option Value × pv_M) = r
  unfold f200_beginSo at h
  refine pv_e_bk (ps := [(0, .iconst 0, 1), (1, .istore_n 3, 1), (2, .iconst 0, 1), (3, .istore 4, 2)]) (t' := (0, 0, 5, [some (.ref 94), some (.int x1), some (.int x2), some (.int (0:Int32)), some (.int (0:Int32)), none, none], [], pv_mm s T)) (by decide +kernel) rfl ?_
  obtain ⟨⟨w30, w31⟩, e33, h⟩ := Option.bind_eq_some_iff.mp h
  dsimp only at h
  have hx32 : f200_beginSo_b1_X xs L d r s x1 x2 T (w30, w31) := by
    show ∀ z4 : Option Value, ∀ z5 : Option Value, ∀ z6 : Option Value, pv_Ev xs L (d + 1) 200 (0, 0, 115, [some (.ref 94), some (.int x1), some (.int x2), some (.int w30), z4, z5, z6], [], pv_mm s T) r
    intro z4 z5 z6
    refine pv_e_bk (ps := [(115, .iload_n 3, 1)]) (t' := (0, 0, 116, [some (.ref 94), some (.int x1), some (.int x2), some (.int w30), z4, z5, z6], [.int w30], pv_mm s T)) (by decide +kernel) rfl ?_
    obtain rfl := Option.some.inj h
    cases hr
    exact pv_e_ri (by decide +kernel)
  exact pv_lq_ok (H := f200_beginSo_b1_H xs L d r s x1 x2 T) (X := f200_beginSo_b1_X xs L d r s x1 x2 T) (f200_beginSo_b1_ok (xs := xs) (L := L) (d := d) (r := r) (s := s) (v1 := x1) (v2 := x2) (T := T)) 20000 _ _ e33 hx32 _ _
def f201_crowd (x1 : Int32) (T : pv_T) : Option (Int32 × pv_T) :=
  (f179_askedName x1 T).bind fun (q2, T3) =>
  ((
    if 0 ≤ q2 then
      (f177_haveOne (-9:Int32) T3).bind fun q10 =>
      (f200_beginSo (T3.1 94 26) (-9:Int32) T3).bind fun q12 =>
      (f116_ask q10 q12 T3).bind fun (q14, T15) =>
      some (q14, T15)
    else
      some (q2, T3)) : Option (Int32 × pv_T)).bind fun (t4, T5) =>
  some (t4, T5)
theorem ee201 {xs : Nat → Int32} {L : Nat} (d : Nat) (x1 : Int32) {s : pv_F} {T : pv_T} {q : Int32 × pv_T}  (h : f201_crowd x1 T = some q) : pv_Ev xs L (d + 4) 201 (0, 0, 0, [some (.ref 94), some (.int x1), none], [], pv_mm s T) (some (.int q.1), pv_mm s q.2) := by
  generalize hr : ((some (.int q.1), pv_mm s q.2) : Option Value × pv_M) = r
  unfold f201_crowd at h
  refine pv_e_bk (ps := [(0, .aload_n 0, 1), (1, .iload_n 1, 1)]) (t' := (0, 0, 2, [some (.ref 94), some (.int x1), none], [.int x1, .ref 94], pv_mm s T)) (by decide +kernel) rfl ?_
  obtain ⟨⟨q2, T3⟩, e1, h⟩ := Option.bind_eq_some_iff.mp h
  dsimp only at h
  refine pv_e_cvi (d := d + 3) (i := 231) (z := 179) (np := 1) (ml := 4) (ci := 6) (As := [.int x1]) (rs := []) (pc' := 5) (by decide +kernel) rfl rfl rfl rfl (Nat.le_of_ble_eq_true rfl) (Nat.le_of_ble_eq_true rfl) rfl (ee179 (d + 0) x1 e1) ?_
  refine pv_e_bk (ps := [(5, .istore_n 2, 1), (6, .iload_n 2, 1)]) (t' := (0, 0, 7, [some (.ref 94), some (.int x1), some (.int q2)], [.int q2], pv_mm s T3)) (by decide +kernel) rfl ?_
  obtain ⟨⟨t4, T5⟩, hv6, h⟩ := Option.bind_eq_some_iff.mp h
  dsimp only at h
  have hJ7 : pv_Ev xs L (d + 4) 201 (0, 0, 34, [some (.ref 94), some (.int x1), some (.int q2)], [.int t4], pv_mm s T5) r := by
    obtain rfl := Option.some.inj h
    cases hr
    exact pv_e_ri (by decide +kernel)
  clear h
  have h := hv6
  clear hv6
  refine pv_e_ifge (off := 7) (b := 14) (pc' := 10) (by decide +kernel) (by decide +kernel) rfl (fun c8 => ?_) (fun c8 => ?_)
  · rw [if_pos c8] at h
    refine pv_e_bk (ps := [(14, .aload_n 0, 1), (15, .aload_n 0, 1), (16, .bipush (-9), 2)]) (t' := (0, 0, 18, [some (.ref 94), some (.int x1), some (.int q2)], [.int (-9:Int32), .ref 94, .ref 94], pv_mm s T3)) (by decide +kernel) rfl ?_
    obtain ⟨q10, e9, h⟩ := Option.bind_eq_some_iff.mp h
    refine pv_e_cvi (d := d + 3) (i := 228) (z := 177) (np := 1) (ml := 6) (ci := 6) (As := [.int (-9:Int32)]) (rs := [.ref 94]) (pc' := 21) (by decide +kernel) rfl rfl rfl rfl (Nat.le_of_ble_eq_true rfl) (Nat.le_of_ble_eq_true rfl) rfl (ee177 (d + 2) (-9:Int32) e9) ?_
    refine pv_e_bk (ps := [(21, .aload_n 0, 1), (22, .aload_n 0, 1)]) (t' := (0, 0, 23, [some (.ref 94), some (.int x1), some (.int q2)], [.ref 94, .ref 94, .int q10, .ref 94], pv_mm s T3)) (by decide +kernel) rfl ?_
    refine pv_e_gm (i := 225) (ci := 6) (j := 26) (pc' := 26) (by decide +kernel) (by decide) rfl rfl rfl ?_
    refine pv_e_bk (ps := [(26, .bipush (-9), 2)]) (t' := (0, 0, 28, [some (.ref 94), some (.int x1), some (.int q2)], [.int (-9:Int32), .int (T3.1 94 26), .ref 94, .int q10, .ref 94], pv_mm s T3)) (by decide +kernel) rfl ?_
    obtain ⟨q12, e11, h⟩ := Option.bind_eq_some_iff.mp h
    refine pv_e_cvi (d := d + 3) (i := 288) (z := 200) (np := 2) (ml := 7) (ci := 6) (As := [.int (T3.1 94 26), .int (-9:Int32)]) (rs := [.int q10, .ref 94]) (pc' := 31) (by decide +kernel) rfl rfl rfl rfl (Nat.le_of_ble_eq_true rfl) (Nat.le_of_ble_eq_true rfl) rfl (ee200 (d + 2) (T3.1 94 26) (-9:Int32) e11) ?_
    obtain ⟨⟨q14, T15⟩, e13, h⟩ := Option.bind_eq_some_iff.mp h
    dsimp only at h
    refine pv_e_cvi (d := d + 3) (i := 109) (z := 116) (np := 2) (ml := 3) (ci := 6) (As := [.int q10, .int q12]) (rs := []) (pc' := 34) (by decide +kernel) rfl rfl rfl rfl (Nat.le_of_ble_eq_true rfl) (Nat.le_of_ble_eq_true rfl) rfl (ee116 (d + 3) q10 q12 e13) ?_
    cases h
    exact hJ7
  · rw [if_neg c8] at h
    refine pv_e_bk (ps := [(10, .iload_n 2, 1), (11, .goto 23, 3)]) (t' := (0, 0, 34, [some (.ref 94), some (.int x1), some (.int q2)], [.int q2], pv_mm s T3)) (by decide +kernel) rfl ?_
    cases h
    exact hJ7
def f202_shortest_b1 (v1 : Int32) (st : Int32 × pv_T) : Option ((Int32 × pv_T) ⊕ (Int32 × pv_T)) := match st with
  | (v2, T) =>
    (f142_lenOf v1 T).bind fun q8 =>
    if q8 ≤ v2 then
      some (.inr (v2, T))
    else
      (f143_letterOf v1 v2 T).bind fun q11 =>
      (pv_wm T 111 6 v2 q11).bind fun T12 =>
      some (.inl (v2 + (1:Int32), T12))
def f202_shortest_b1_H (xs : Nat → Int32) (L d : Nat) (r : Option Value × pv_M) (s : pv_F) (v1 : Int32) (st : Int32 × pv_T) : Prop := match st with
  | (v2, T) => pv_Ev xs L (d + 2) 202 (0, 0, 25, [some (.ref 94), some (.int v1), some (.int v2)], [], pv_mm s T) r
def f202_shortest_b1_X (xs : Nat → Int32) (L d : Nat) (r : Option Value × pv_M) (s : pv_F) (v1 : Int32) (st : Int32 × pv_T) : Prop := match st with
  | (v2, T) => ∀ z2 : Option Value, pv_Ev xs L (d + 2) 202 (0, 0, 52, [some (.ref 94), some (.int v1), z2], [], pv_mm s T) r
def f202_shortest_b2 (v1 : Int32) (T : pv_T) (st : Int32) : Option (Int32 ⊕ (Int32 ⊕ (Int32 × pv_T))) := match st with
  | v2 =>
    (f142_lenOf v1 T).bind fun q17 =>
    if q17 < v2 then
      some (.inr (.inl v2))
    else
      (f200_beginSo v2 v1 T).bind fun q20 =>
      if q20 = 0 then
        some (.inr (.inr (v2, T)))
      else
        some (.inl (v2 + (1:Int32)))
def f202_shortest_b2_H (xs : Nat → Int32) (L d : Nat) (r : Option Value × pv_M) (s : pv_F) (v1 : Int32) (T : pv_T) (st : Int32) : Prop := match st with
  | v2 => pv_Ev xs L (d + 2) 202 (0, 0, 54, [some (.ref 94), some (.int v1), some (.int v2)], [], pv_mm s T) r
def f202_shortest_b2_X (xs : Nat → Int32) (L d : Nat) (r : Option Value × pv_M) (s : pv_F) (v1 : Int32) (T : pv_T) (st : Int32) : Prop := match st with
  | v2 => ∀ z2 : Option Value, pv_Ev xs L (d + 2) 202 (0, 0, 80, [some (.ref 94), some (.int v1), z2], [], pv_mm s T) r
def f202_shortest (x1 : Int32) (T : pv_T) : Option (Int32 × pv_T) :=
  (f140_isOne x1 T).bind fun q2 =>
  if q2 = 0 then
    some ((-1:Int32), T)
  else
    (pv_rd T.1 101 7 x1).bind fun q4 =>
    if q4 = (3:Int32) then
      some ((-4:Int32), T)
    else
      (pv_lq (f202_shortest_b1 x1) 20000 ((0:Int32), T)).bind fun (w14, T15) =>
      (pv_lp (f202_shortest_b2 x1 T15) 20000 (1:Int32)).bind fun o25 => match o25 with
        | .inl w22 =>
          some ((-9:Int32), T15)
        | .inr q => some q
theorem f202_shortest_b1_ok {xs : Nat → Int32} {L d : Nat} {r : Option Value × pv_M} {s : pv_F} {v1 : Int32} (st : Int32 × pv_T) (o : (Int32 × pv_T) ⊕ (Int32 × pv_T)) (h : f202_shortest_b1 v1 st = some o) (hK : pv_Kq (f202_shortest_b1_H xs L d r s v1) (f202_shortest_b1_X xs L d r s v1) o) : f202_shortest_b1_H xs L d r s v1 st := by
  obtain ⟨v2, T⟩ := st
  show pv_Ev xs L (d + 2) 202 (0, 0, 25, [some (.ref 94), some (.int v1), some (.int v2)], [], pv_mm s T) r
  unfold f202_shortest_b1 at h
  dsimp only at h
  refine pv_e_bk (ps := [(25, .iload_n 2, 1), (26, .aload_n 0, 1), (27, .iload_n 1, 1)]) (t' := (0, 0, 28, [some (.ref 94), some (.int v1), some (.int v2)], [.int v1, .ref 94, .int v2], pv_mm s T)) (by decide +kernel) rfl ?_
  obtain ⟨q8, e7, h⟩ := Option.bind_eq_some_iff.mp h
  refine pv_e_cvi (d := d + 1) (i := 142) (z := 142) (np := 1) (ml := 2) (ci := 6) (As := [.int v1]) (rs := [.int v2]) (pc' := 31) (by decide +kernel) rfl rfl rfl rfl (Nat.le_of_ble_eq_true rfl) (Nat.le_of_ble_eq_true rfl) rfl (ee142 (d + 1) v1 e7) ?_
  refine pv_e_icmpge (off := 21) (b := 52) (pc' := 34) (by decide +kernel) (by decide +kernel) rfl (fun c9 => ?_) (fun c9 => ?_)
  · rw [if_pos c9] at h
    obtain rfl := Option.some.inj h
    exact hK _
  · rw [if_neg c9] at h
    refine pv_e_bk (ps := [(34, .aload_n 0, 1)]) (t' := (0, 0, 35, [some (.ref 94), some (.int v1), some (.int v2)], [.ref 94], pv_mm s T)) (by decide +kernel) rfl ?_
    refine pv_e_gr (i := 62) (ci := 6) (j := 25) (b := 111) (pc' := 38) (by decide +kernel) rfl rfl rfl ?_
    refine pv_e_bk (ps := [(38, .iload_n 2, 1), (39, .aload_n 0, 1), (40, .iload_n 1, 1), (41, .iload_n 2, 1)]) (t' := (0, 0, 42, [some (.ref 94), some (.int v1), some (.int v2)], [.int v2, .int v1, .ref 94, .int v2, .ref 111], pv_mm s T)) (by decide +kernel) rfl ?_
    obtain ⟨q11, e10, h⟩ := Option.bind_eq_some_iff.mp h
    refine pv_e_cvi (d := d + 1) (i := 145) (z := 143) (np := 2) (ml := 3) (ci := 6) (As := [.int v1, .int v2]) (rs := [.int v2, .ref 111]) (pc' := 45) (by decide +kernel) rfl rfl rfl rfl (Nat.le_of_ble_eq_true rfl) (Nat.le_of_ble_eq_true rfl) rfl (ee143 (d + 1) v1 v2 e10) ?_
    obtain ⟨T12, e13, h⟩ := Option.bind_eq_some_iff.mp h
    refine pv_e_wm (pc' := 46) (by decide +kernel) (by decide) rfl e13 rfl ?_
    refine pv_e_bk (ps := [(46, .iinc 2 1, 3), (49, .goto (-24), 3)]) (t' := (0, 0, 25, [some (.ref 94), some (.int v1), some (.int (v2 + (1:Int32)))], [], pv_mm s T12)) (by decide +kernel) rfl ?_
    obtain rfl := Option.some.inj h
    exact hK
theorem f202_shortest_b2_ok {xs : Nat → Int32} {L d : Nat} {r : Option Value × pv_M} {s : pv_F} {v1 : Int32} {T : pv_T} (st : Int32) (o : Int32 ⊕ (Int32 ⊕ (Int32 × pv_T))) (h : f202_shortest_b2 v1 T st = some o) (hK : pv_Kp (f202_shortest_b2_H xs L d r s v1 T) (f202_shortest_b2_X xs L d r s v1 T) (fun q => (some (.int q.1), pv_mm s q.2) = r) o) : f202_shortest_b2_H xs L d r s v1 T st := by
  obtain ⟨v2, rfl⟩ : ∃ z, z = st := ⟨st, rfl⟩
  show pv_Ev xs L (d + 2) 202 (0, 0, 54, [some (.ref 94), some (.int v1), some (.int v2)], [], pv_mm s T) r
  unfold f202_shortest_b2 at h
  dsimp only at h
  refine pv_e_bk (ps := [(54, .iload_n 2, 1), (55, .aload_n 0, 1), (56, .iload_n 1, 1)]) (t' := (0, 0, 57, [some (.ref 94), some (.int v1), some (.int v2)], [.int v1, .ref 94, .int v2], pv_mm s T)) (by decide +kernel) rfl ?_
  obtain ⟨q17, e16, h⟩ := Option.bind_eq_some_iff.mp h
  refine pv_e_cvi (d := d + 1) (i := 142) (z := 142) (np := 1) (ml := 2) (ci := 6) (As := [.int v1]) (rs := [.int v2]) (pc' := 60) (by decide +kernel) rfl rfl rfl rfl (Nat.le_of_ble_eq_true rfl) (Nat.le_of_ble_eq_true rfl) rfl (ee142 (d + 1) v1 e16) ?_
  refine pv_e_icmpgt (off := 20) (b := 80) (pc' := 63) (by decide +kernel) (by decide +kernel) rfl (fun c18 => ?_) (fun c18 => ?_)
  · rw [if_pos c18] at h
    obtain rfl := Option.some.inj h
    exact hK _
  · rw [if_neg c18] at h
    refine pv_e_bk (ps := [(63, .aload_n 0, 1), (64, .iload_n 2, 1), (65, .iload_n 1, 1)]) (t' := (0, 0, 66, [some (.ref 94), some (.int v1), some (.int v2)], [.int v1, .int v2, .ref 94], pv_mm s T)) (by decide +kernel) rfl ?_
    obtain ⟨q20, e19, h⟩ := Option.bind_eq_some_iff.mp h
    refine pv_e_cvi (d := d + 1) (i := 288) (z := 200) (np := 2) (ml := 7) (ci := 6) (As := [.int v2, .int v1]) (rs := []) (pc' := 69) (by decide +kernel) rfl rfl rfl rfl (Nat.le_of_ble_eq_true rfl) (Nat.le_of_ble_eq_true rfl) rfl (ee200 (d + 0) v2 v1 e19) ?_
    refine pv_e_ifne (off := 5) (b := 74) (pc' := 72) (by decide +kernel) (by decide +kernel) rfl (fun c21 => ?_) (fun c21 => ?_)
    · rw [if_pos c21] at h
      refine pv_e_bk (ps := [(72, .iload_n 2, 1)]) (t' := (0, 0, 73, [some (.ref 94), some (.int v1), some (.int v2)], [.int v2], pv_mm s T)) (by decide +kernel) rfl ?_
      obtain rfl := Option.some.inj h
      cases hK
      exact pv_e_ri (by decide +kernel)
    · rw [if_neg c21] at h
      refine pv_e_bk (ps := [(74, .iinc 2 1, 3), (77, .goto (-23), 3)]) (t' := (0, 0, 54, [some (.ref 94), some (.int v1), some (.int (v2 + (1:Int32)))], [], pv_mm s T)) (by decide +kernel) rfl ?_
      obtain rfl := Option.some.inj h
      exact hK
theorem ee202 {xs : Nat → Int32} {L : Nat} (d : Nat) (x1 : Int32) {s : pv_F} {T : pv_T} {q : Int32 × pv_T}  (h : f202_shortest x1 T = some q) : pv_Ev xs L (d + 2) 202 (0, 0, 0, [some (.ref 94), some (.int x1), none], [], pv_mm s T) (some (.int q.1), pv_mm s q.2) := by
  generalize hr : ((some (.int q.1), pv_mm s q.2) : Option Value × pv_M) = r
  unfold f202_shortest at h
  refine pv_e_bk (ps := [(0, .aload_n 0, 1), (1, .iload_n 1, 1)]) (t' := (0, 0, 2, [some (.ref 94), some (.int x1), none], [.int x1, .ref 94], pv_mm s T)) (by decide +kernel) rfl ?_
  obtain ⟨q2, e1, h⟩ := Option.bind_eq_some_iff.mp h
  refine pv_e_cvi (d := d + 1) (i := 152) (z := 140) (np := 1) (ml := 2) (ci := 6) (As := [.int x1]) (rs := []) (pc' := 5) (by decide +kernel) rfl rfl rfl rfl (Nat.le_of_ble_eq_true rfl) (Nat.le_of_ble_eq_true rfl) rfl (ee140 (d + 0) x1 e1) ?_
  refine pv_e_ifne (off := 5) (b := 10) (pc' := 8) (by decide +kernel) (by decide +kernel) rfl (fun c3 => ?_) (fun c3 => ?_)
  · rw [if_pos c3] at h
    refine pv_e_bk (ps := [(8, .iconst (-1), 1)]) (t' := (0, 0, 9, [some (.ref 94), some (.int x1), none], [.int (-1:Int32)], pv_mm s T)) (by decide +kernel) rfl ?_
    obtain rfl := Option.some.inj h
    cases hr
    exact pv_e_ri (by decide +kernel)
  · rw [if_neg c3] at h
    refine pv_e_bk (ps := [(10, .aload_n 0, 1)]) (t' := (0, 0, 11, [some (.ref 94), some (.int x1), none], [.ref 94], pv_mm s T)) (by decide +kernel) rfl ?_
    refine pv_e_gr (i := 32) (ci := 6) (j := 11) (b := 101) (pc' := 14) (by decide +kernel) rfl rfl rfl ?_
    refine pv_e_bk (ps := [(14, .iload_n 1, 1)]) (t' := (0, 0, 15, [some (.ref 94), some (.int x1), none], [.int x1, .ref 101], pv_mm s T)) (by decide +kernel) rfl ?_
    obtain ⟨q4, e5, h⟩ := Option.bind_eq_some_iff.mp h
    refine pv_e_rm (pc' := 16) (by decide +kernel) (by decide) rfl e5 rfl ?_
    refine pv_e_bk (ps := [(16, .iconst 3, 1)]) (t' := (0, 0, 17, [some (.ref 94), some (.int x1), none], [.int (3:Int32), .int q4], pv_mm s T)) (by decide +kernel) rfl ?_
    refine pv_e_icmpne (off := 6) (b := 23) (pc' := 20) (by decide +kernel) (by decide +kernel) rfl (fun c6 => ?_) (fun c6 => ?_)
    · rw [if_pos c6] at h
      refine pv_e_bk (ps := [(20, .bipush (-4), 2)]) (t' := (0, 0, 22, [some (.ref 94), some (.int x1), none], [.int (-4:Int32)], pv_mm s T)) (by decide +kernel) rfl ?_
      obtain rfl := Option.some.inj h
      cases hr
      exact pv_e_ri (by decide +kernel)
    · rw [if_neg c6] at h
      refine pv_e_bk (ps := [(23, .iconst 0, 1), (24, .istore_n 2, 1)]) (t' := (0, 0, 25, [some (.ref 94), some (.int x1), some (.int (0:Int32))], [], pv_mm s T)) (by decide +kernel) rfl ?_
      obtain ⟨⟨w14, T15⟩, e27, h⟩ := Option.bind_eq_some_iff.mp h
      dsimp only at h
      have hx26 : f202_shortest_b1_X xs L d r s x1 (w14, T15) := by
        show ∀ z2 : Option Value, pv_Ev xs L (d + 2) 202 (0, 0, 52, [some (.ref 94), some (.int x1), z2], [], pv_mm s T15) r
        intro z2
        refine pv_e_bk (ps := [(52, .iconst 1, 1), (53, .istore_n 2, 1)]) (t' := (0, 0, 54, [some (.ref 94), some (.int x1), some (.int (1:Int32))], [], pv_mm s T15)) (by decide +kernel) rfl ?_
        obtain ⟨o25, e24, h⟩ := Option.bind_eq_some_iff.mp h
        refine pv_lp_ok (H := f202_shortest_b2_H xs L d r s x1 T15) (X := f202_shortest_b2_X xs L d r s x1 T15) (Z := (fun q => (some (.int q.1), pv_mm s q.2) = r)) (f202_shortest_b2_ok (xs := xs) (L := L) (d := d) (r := r) (s := s) (v1 := x1) (T := T15)) 20000 _ _ e24 ?_
        rcases o25 with w22 | q
        · dsimp only at h ⊢
          show ∀ z2 : Option Value, pv_Ev xs L (d + 2) 202 (0, 0, 80, [some (.ref 94), some (.int x1), z2], [], pv_mm s T15) r
          intro z2
          refine pv_e_bk (ps := [(80, .bipush (-9), 2)]) (t' := (0, 0, 82, [some (.ref 94), some (.int x1), z2], [.int (-9:Int32)], pv_mm s T15)) (by decide +kernel) rfl ?_
          obtain rfl := Option.some.inj h
          cases hr
          exact pv_e_ri (by decide +kernel)
        · dsimp only at h ⊢
          obtain rfl := Option.some.inj h
          exact hr
      exact pv_lq_ok (H := f202_shortest_b1_H xs L d r s x1) (X := f202_shortest_b1_X xs L d r s x1) (f202_shortest_b1_ok (xs := xs) (L := L) (d := d) (r := r) (s := s) (v1 := x1)) 20000 _ _ e27 hx26
def f203_days_b1 (v1 : Int32) (st : Int64 × Int32 × Int32 × pv_T) : Option ((Int64 × Int32 × Int32 × pv_T) ⊕ (Int64 × Int32 × Int32 × pv_T)) := match st with
  | (v3, v5, v6, T) =>
    if v1 ≤ v6 then
      some (.inr (v3, v5, v6, T))
    else
      (pv_lrm ((48271:Int64) * v3) (2147483647:Int64)).bind fun q10 =>
      (pv_lrm q10 ((T.1 94 8).toInt64)).bind fun q12 =>
      (pv_ldv q10 (64:Int64)).bind fun q14 =>
      (pv_lrm q14 ((T.1 94 8).toInt64)).bind fun q16 =>
      (f152_mayCall q12.toInt32 q16.toInt32 T).bind fun q19 =>
      ((
        if q19 = 0 then
          some (v5, T)
        else
          (f158_note T).bind fun T26 =>
          (f157_doCall q12.toInt32 q16.toInt32 T26).bind fun (q28, T29) =>
          some (v5 + (1:Int32), T29)) : Option (Int32 × pv_T)).bind fun (v20, T21) =>
      some (.inl (q10, v20, v6 + (1:Int32), T21))
def f203_days_b1_H (xs : Nat → Int32) (L d : Nat) (r : Option Value × pv_M) (s : pv_F) (v1 : Int32) (v2 : Int32) (st : Int64 × Int32 × Int32 × pv_T) : Prop := match st with
  | (v3, v5, v6, T) => ∀ z7 : Option Value, ∀ z8 : Option Value, pv_Ev xs L (d + 5) 203 (0, 0, 57, [some (.ref 94), some (.int v1), some (.int v2), some (.long v3), none, some (.int v5), some (.int v6), z7, z8], [], pv_mm s T) r
def f203_days_b1_X (xs : Nat → Int32) (L d : Nat) (r : Option Value × pv_M) (s : pv_F) (v1 : Int32) (v2 : Int32) (st : Int64 × Int32 × Int32 × pv_T) : Prop := match st with
  | (v3, v5, v6, T) => ∀ z3 : Option Value, ∀ z4 : Option Value, ∀ z6 : Option Value, ∀ z7 : Option Value, ∀ z8 : Option Value, pv_Ev xs L (d + 5) 203 (0, 0, 130, [some (.ref 94), some (.int v1), some (.int v2), z3, z4, some (.int v5), z6, z7, z8], [], pv_mm s T) r
def f203_days (x1 : Int32) (x2 : Int32) (T : pv_T) : Option (Int32 × pv_T) :=
  (f114_in x1 (1:Int32) (60:Int32)).bind fun q2 =>
  if q2 = 0 then
    some ((-1:Int32), T)
  else
    (f114_in x2 (1:Int32) (2147483646:Int32)).bind fun q5 =>
    if q5 = 0 then
      some ((-1:Int32), T)
    else
      if (2:Int32) ≤ (T.1 94 8) then
        if ((T.1 94 18) + x1) ≤ (60:Int32) then
          (pv_lq (f203_days_b1 x1) 20000 (x2.toInt64, (0:Int32), (0:Int32), T)).bind fun (w30, w31, w32, T33) =>
          some (w31, T33)
        else
          some ((-2:Int32), T)
      else
        some ((-4:Int32), T)
theorem f203_days_b1_ok {xs : Nat → Int32} {L d : Nat} {r : Option Value × pv_M} {s : pv_F} {v1 : Int32} {v2 : Int32} (st : Int64 × Int32 × Int32 × pv_T) (o : (Int64 × Int32 × Int32 × pv_T) ⊕ (Int64 × Int32 × Int32 × pv_T)) (h : f203_days_b1 v1 st = some o) (hK : pv_Kq (f203_days_b1_H xs L d r s v1 v2) (f203_days_b1_X xs L d r s v1 v2) o) : f203_days_b1_H xs L d r s v1 v2 st := by
  obtain ⟨v3, v5, v6, T⟩ := st
  show ∀ z7 : Option Value, ∀ z8 : Option Value, pv_Ev xs L (d + 5) 203 (0, 0, 57, [some (.ref 94), some (.int v1), some (.int v2), some (.long v3), none, some (.int v5), some (.int v6), z7, z8], [], pv_mm s T) r
  intro z7 z8
  unfold f203_days_b1 at h
  dsimp only at h
  refine pv_e_bk (ps := [(57, .iload 6, 2), (59, .iload_n 1, 1)]) (t' := (0, 0, 60, [some (.ref 94), some (.int v1), some (.int v2), some (.long v3), none, some (.int v5), some (.int v6), z7, z8], [.int v1, .int v6], pv_mm s T)) (by decide +kernel) rfl ?_
  refine pv_e_icmpge (off := 70) (b := 130) (pc' := 63) (by decide +kernel) (by decide +kernel) rfl (fun c9 => ?_) (fun c9 => ?_)
  · rw [if_pos c9] at h
    obtain rfl := Option.some.inj h
    exact hK _ _ _ _ _
  · rw [if_neg c9] at h
    refine pv_e_bk (ps := [(63, .ldc2_w 292, 3), (66, .lload_n 3, 1), (67, .lmul, 1), (68, .ldc2_w 294, 3)]) (t' := (0, 0, 71, [some (.ref 94), some (.int v1), some (.int v2), some (.long v3), none, some (.int v5), some (.int v6), z7, z8], [.long (2147483647:Int64), .long ((48271:Int64) * v3)], pv_mm s T)) (by decide +kernel) rfl ?_
    obtain ⟨q10, e11, h⟩ := Option.bind_eq_some_iff.mp h
    refine pv_e_lrm (pc' := 72) (by decide +kernel) e11 rfl ?_
    refine pv_e_bk (ps := [(72, .lstore_n 3, 1), (73, .lload_n 3, 1), (74, .aload_n 0, 1)]) (t' := (0, 0, 75, [some (.ref 94), some (.int v1), some (.int v2), some (.long q10), none, some (.int v5), some (.int v6), z7, z8], [.ref 94, .long q10], pv_mm s T)) (by decide +kernel) rfl ?_
    refine pv_e_gm (i := 136) (ci := 6) (j := 8) (pc' := 78) (by decide +kernel) (by decide) rfl rfl rfl ?_
    refine pv_e_bk (ps := [(78, .i2l, 1)]) (t' := (0, 0, 79, [some (.ref 94), some (.int v1), some (.int v2), some (.long q10), none, some (.int v5), some (.int v6), z7, z8], [.long ((T.1 94 8).toInt64), .long q10], pv_mm s T)) (by decide +kernel) rfl ?_
    obtain ⟨q12, e13, h⟩ := Option.bind_eq_some_iff.mp h
    refine pv_e_lrm (pc' := 80) (by decide +kernel) e13 rfl ?_
    refine pv_e_bk (ps := [(80, .l2i, 1), (81, .istore 7, 2), (83, .lload_n 3, 1), (84, .ldc2_w 296, 3)]) (t' := (0, 0, 87, [some (.ref 94), some (.int v1), some (.int v2), some (.long q10), none, some (.int v5), some (.int v6), some (.int q12.toInt32), z8], [.long (64:Int64), .long q10], pv_mm s T)) (by decide +kernel) rfl ?_
    obtain ⟨q14, e15, h⟩ := Option.bind_eq_some_iff.mp h
    refine pv_e_ldv (pc' := 88) (by decide +kernel) e15 rfl ?_
    refine pv_e_bk (ps := [(88, .aload_n 0, 1)]) (t' := (0, 0, 89, [some (.ref 94), some (.int v1), some (.int v2), some (.long q10), none, some (.int v5), some (.int v6), some (.int q12.toInt32), z8], [.ref 94, .long q14], pv_mm s T)) (by decide +kernel) rfl ?_
    refine pv_e_gm (i := 136) (ci := 6) (j := 8) (pc' := 92) (by decide +kernel) (by decide) rfl rfl rfl ?_
    refine pv_e_bk (ps := [(92, .i2l, 1)]) (t' := (0, 0, 93, [some (.ref 94), some (.int v1), some (.int v2), some (.long q10), none, some (.int v5), some (.int v6), some (.int q12.toInt32), z8], [.long ((T.1 94 8).toInt64), .long q14], pv_mm s T)) (by decide +kernel) rfl ?_
    obtain ⟨q16, e17, h⟩ := Option.bind_eq_some_iff.mp h
    refine pv_e_lrm (pc' := 94) (by decide +kernel) e17 rfl ?_
    refine pv_e_bk (ps := [(94, .l2i, 1), (95, .istore 8, 2), (97, .aload_n 0, 1), (98, .iload 7, 2), (100, .iload 8, 2)]) (t' := (0, 0, 102, [some (.ref 94), some (.int v1), some (.int v2), some (.long q10), none, some (.int v5), some (.int v6), some (.int q12.toInt32), some (.int q16.toInt32)], [.int q16.toInt32, .int q12.toInt32, .ref 94], pv_mm s T)) (by decide +kernel) rfl ?_
    obtain ⟨q19, e18, h⟩ := Option.bind_eq_some_iff.mp h
    refine pv_e_cvi (d := d + 4) (i := 161) (z := 152) (np := 2) (ml := 3) (ci := 6) (As := [.int q12.toInt32, .int q16.toInt32]) (rs := []) (pc' := 105) (by decide +kernel) rfl rfl rfl rfl (Nat.le_of_ble_eq_true rfl) (Nat.le_of_ble_eq_true rfl) rfl (ee152 (d + 3) q12.toInt32 q16.toInt32 e18) ?_
    obtain ⟨⟨v20, T21⟩, hv22, h⟩ := Option.bind_eq_some_iff.mp h
    dsimp only at h
    have hJ23 : pv_Ev xs L (d + 5) 203 (0, 0, 124, [some (.ref 94), some (.int v1), some (.int v2), some (.long q10), none, some (.int v20), some (.int v6), some (.int q12.toInt32), some (.int q16.toInt32)], [], pv_mm s T21) r := by
      refine pv_e_bk (ps := [(124, .iinc 6 1, 3), (127, .goto (-70), 3)]) (t' := (0, 0, 57, [some (.ref 94), some (.int v1), some (.int v2), some (.long q10), none, some (.int v20), some (.int (v6 + (1:Int32))), some (.int q12.toInt32), some (.int q16.toInt32)], [], pv_mm s T21)) (by decide +kernel) rfl ?_
      obtain rfl := Option.some.inj h
      exact hK _ _
    clear h
    have h := hv22
    clear hv22
    refine pv_e_ifeq (off := 19) (b := 124) (pc' := 108) (by decide +kernel) (by decide +kernel) rfl (fun c24 => ?_) (fun c24 => ?_)
    · rw [if_pos c24] at h
      cases h
      exact hJ23
    · rw [if_neg c24] at h
      refine pv_e_bk (ps := [(108, .aload_n 0, 1)]) (t' := (0, 0, 109, [some (.ref 94), some (.int v1), some (.int v2), some (.long q10), none, some (.int v5), some (.int v6), some (.int q12.toInt32), some (.int q16.toInt32)], [.ref 94], pv_mm s T)) (by decide +kernel) rfl ?_
      obtain ⟨T26, e25, h⟩ := Option.bind_eq_some_iff.mp h
      refine pv_e_cvv (d := d + 4) (i := 196) (z := 158) (np := 0) (ml := 2) (ci := 6) (As := []) (rs := []) (pc' := 112) (by decide +kernel) rfl rfl rfl rfl (Nat.le_of_ble_eq_true rfl) (Nat.le_of_ble_eq_true rfl) rfl (ee158 (d + 4) e25) ?_
      refine pv_e_bk (ps := [(112, .aload_n 0, 1), (113, .iload 7, 2), (115, .iload 8, 2)]) (t' := (0, 0, 117, [some (.ref 94), some (.int v1), some (.int v2), some (.long q10), none, some (.int v5), some (.int v6), some (.int q12.toInt32), some (.int q16.toInt32)], [.int q16.toInt32, .int q12.toInt32, .ref 94], pv_mm s T26)) (by decide +kernel) rfl ?_
      obtain ⟨⟨q28, T29⟩, e27, h⟩ := Option.bind_eq_some_iff.mp h
      dsimp only at h
      refine pv_e_cvi (d := d + 4) (i := 199) (z := 157) (np := 2) (ml := 5) (ci := 6) (As := [.int q12.toInt32, .int q16.toInt32]) (rs := []) (pc' := 120) (by decide +kernel) rfl rfl rfl rfl (Nat.le_of_ble_eq_true rfl) (Nat.le_of_ble_eq_true rfl) rfl (ee157 (d + 0) q12.toInt32 q16.toInt32 e27) ?_
      refine pv_e_bk (ps := [(120, .pop, 1), (121, .iinc 5 1, 3)]) (t' := (0, 0, 124, [some (.ref 94), some (.int v1), some (.int v2), some (.long q10), none, some (.int (v5 + (1:Int32))), some (.int v6), some (.int q12.toInt32), some (.int q16.toInt32)], [], pv_mm s T29)) (by decide +kernel) rfl ?_
      cases h
      exact hJ23
theorem ee203 {xs : Nat → Int32} {L : Nat} (d : Nat) (x1 : Int32) (x2 : Int32) {s : pv_F} {T : pv_T} {q : Int32 × pv_T}  (h : f203_days x1 x2 T = some q) : pv_Ev xs L (d + 5) 203 (0, 0, 0, [some (.ref 94), some (.int x1), some (.int x2), none, none, none, none, none, none], [], pv_mm s T) (some (.int q.1), pv_mm s q.2) := by
  generalize hr : ((some (.int q.1), pv_mm s q.2) : Option Value × pv_M) = r
  unfold f203_days at h
  refine pv_e_bk (ps := [(0, .iload_n 1, 1), (1, .iconst 1, 1), (2, .bipush 60, 2)]) (t' := (0, 0, 4, [some (.ref 94), some (.int x1), some (.int x2), none, none, none, none, none, none], [.int (60:Int32), .int (1:Int32), .int x1], pv_mm s T)) (by decide +kernel) rfl ?_
  obtain ⟨q2, e1, h⟩ := Option.bind_eq_some_iff.mp h
  refine pv_e_csi (d := d + 4) (i := 83) (z := 114) (np := 3) (ml := 3) (As := [.int x1, .int (1:Int32), .int (60:Int32)]) (rs := []) (pc' := 7) (by decide +kernel) rfl rfl rfl (Nat.le_of_ble_eq_true rfl) (Nat.le_of_ble_eq_true rfl) rfl (ee114 (d + 4) x1 (1:Int32) (60:Int32) e1) ?_
  refine pv_e_ifeq (off := 14) (b := 21) (pc' := 10) (by decide +kernel) (by decide +kernel) rfl (fun c3 => ?_) (fun c3 => ?_)
  · rw [if_pos c3] at h
    refine pv_e_bk (ps := [(21, .iconst (-1), 1)]) (t' := (0, 0, 22, [some (.ref 94), some (.int x1), some (.int x2), none, none, none, none, none, none], [.int (-1:Int32)], pv_mm s T)) (by decide +kernel) rfl ?_
    obtain rfl := Option.some.inj h
    cases hr
    exact pv_e_ri (by decide +kernel)
  · rw [if_neg c3] at h
    refine pv_e_bk (ps := [(10, .iload_n 2, 1), (11, .iconst 1, 1), (12, .ldc_w 291, 3)]) (t' := (0, 0, 15, [some (.ref 94), some (.int x1), some (.int x2), none, none, none, none, none, none], [.int (2147483646:Int32), .int (1:Int32), .int x2], pv_mm s T)) (by decide +kernel) rfl ?_
    obtain ⟨q5, e4, h⟩ := Option.bind_eq_some_iff.mp h
    refine pv_e_csi (d := d + 4) (i := 83) (z := 114) (np := 3) (ml := 3) (As := [.int x2, .int (1:Int32), .int (2147483646:Int32)]) (rs := []) (pc' := 18) (by decide +kernel) rfl rfl rfl (Nat.le_of_ble_eq_true rfl) (Nat.le_of_ble_eq_true rfl) rfl (ee114 (d + 4) x2 (1:Int32) (2147483646:Int32) e4) ?_
    refine pv_e_ifne (off := 5) (b := 23) (pc' := 21) (by decide +kernel) (by decide +kernel) rfl (fun c6 => ?_) (fun c6 => ?_)
    · rw [if_pos c6] at h
      refine pv_e_bk (ps := [(21, .iconst (-1), 1)]) (t' := (0, 0, 22, [some (.ref 94), some (.int x1), some (.int x2), none, none, none, none, none, none], [.int (-1:Int32)], pv_mm s T)) (by decide +kernel) rfl ?_
      obtain rfl := Option.some.inj h
      cases hr
      exact pv_e_ri (by decide +kernel)
    · rw [if_neg c6] at h
      refine pv_e_bk (ps := [(23, .aload_n 0, 1)]) (t' := (0, 0, 24, [some (.ref 94), some (.int x1), some (.int x2), none, none, none, none, none, none], [.ref 94], pv_mm s T)) (by decide +kernel) rfl ?_
      refine pv_e_gm (i := 136) (ci := 6) (j := 8) (pc' := 27) (by decide +kernel) (by decide) rfl rfl rfl ?_
      refine pv_e_bk (ps := [(27, .iconst 2, 1)]) (t' := (0, 0, 28, [some (.ref 94), some (.int x1), some (.int x2), none, none, none, none, none, none], [.int (2:Int32), .int (T.1 94 8)], pv_mm s T)) (by decide +kernel) rfl ?_
      refine pv_e_icmpge (off := 6) (b := 34) (pc' := 31) (by decide +kernel) (by decide +kernel) rfl (fun c7 => ?_) (fun c7 => ?_)
      · rw [if_pos c7] at h
        refine pv_e_bk (ps := [(34, .aload_n 0, 1)]) (t' := (0, 0, 35, [some (.ref 94), some (.int x1), some (.int x2), none, none, none, none, none, none], [.ref 94], pv_mm s T)) (by decide +kernel) rfl ?_
        refine pv_e_gm (i := 139) (ci := 6) (j := 18) (pc' := 38) (by decide +kernel) (by decide) rfl rfl rfl ?_
        refine pv_e_bk (ps := [(38, .iload_n 1, 1), (39, .iadd, 1), (40, .bipush 60, 2)]) (t' := (0, 0, 42, [some (.ref 94), some (.int x1), some (.int x2), none, none, none, none, none, none], [.int (60:Int32), .int ((T.1 94 18) + x1)], pv_mm s T)) (by decide +kernel) rfl ?_
        refine pv_e_icmple (off := 6) (b := 48) (pc' := 45) (by decide +kernel) (by decide +kernel) rfl (fun c8 => ?_) (fun c8 => ?_)
        · rw [if_pos c8] at h
          refine pv_e_bk (ps := [(48, .iload_n 2, 1), (49, .i2l, 1), (50, .lstore_n 3, 1), (51, .iconst 0, 1), (52, .istore 5, 2), (54, .iconst 0, 1), (55, .istore 6, 2)]) (t' := (0, 0, 57, [some (.ref 94), some (.int x1), some (.int x2), some (.long x2.toInt64), none, some (.int (0:Int32)), some (.int (0:Int32)), none, none], [], pv_mm s T)) (by decide +kernel) rfl ?_
          obtain ⟨⟨w30, w31, w32, T33⟩, e35, h⟩ := Option.bind_eq_some_iff.mp h
          dsimp only at h
          have hx34 : f203_days_b1_X xs L d r s x1 x2 (w30, w31, w32, T33) := by
            show ∀ z3 : Option Value, ∀ z4 : Option Value, ∀ z6 : Option Value, ∀ z7 : Option Value, ∀ z8 : Option Value, pv_Ev xs L (d + 5) 203 (0, 0, 130, [some (.ref 94), some (.int x1), some (.int x2), z3, z4, some (.int w31), z6, z7, z8], [], pv_mm s T33) r
            intro z3 z4 z6 z7 z8
            refine pv_e_bk (ps := [(130, .iload 5, 2)]) (t' := (0, 0, 132, [some (.ref 94), some (.int x1), some (.int x2), z3, z4, some (.int w31), z6, z7, z8], [.int w31], pv_mm s T33)) (by decide +kernel) rfl ?_
            obtain rfl := Option.some.inj h
            cases hr
            exact pv_e_ri (by decide +kernel)
          exact pv_lq_ok (H := f203_days_b1_H xs L d r s x1 x2) (X := f203_days_b1_X xs L d r s x1 x2) (f203_days_b1_ok (xs := xs) (L := L) (d := d) (r := r) (s := s) (v1 := x1) (v2 := x2)) 20000 _ _ e35 hx34 _ _
        · rw [if_neg c8] at h
          refine pv_e_bk (ps := [(45, .bipush (-2), 2)]) (t' := (0, 0, 47, [some (.ref 94), some (.int x1), some (.int x2), none, none, none, none, none, none], [.int (-2:Int32)], pv_mm s T)) (by decide +kernel) rfl ?_
          obtain rfl := Option.some.inj h
          cases hr
          exact pv_e_ri (by decide +kernel)
      · rw [if_neg c7] at h
        refine pv_e_bk (ps := [(31, .bipush (-4), 2)]) (t' := (0, 0, 33, [some (.ref 94), some (.int x1), some (.int x2), none, none, none, none, none, none], [.int (-4:Int32)], pv_mm s T)) (by decide +kernel) rfl ?_
        obtain rfl := Option.some.inj h
        cases hr
        exact pv_e_ri (by decide +kernel)
def f204_asked (T : pv_T) : Option (Int32) :=
  some (T.1 94 2)
theorem ee204 {xs : Nat → Int32} {L : Nat} (d : Nat)  {s : pv_F} {T : pv_T} {q : Int32}  (h : f204_asked T = some q) : pv_Ev xs L (d + 0) 204 (0, 0, 0, [some (.ref 94)], [], pv_mm s T) (some (.int q), pv_mm s T) := by
  generalize hr : ((some (.int q), pv_mm s T) : Option Value × pv_M) = r
  unfold f204_asked at h
  refine pv_e_bk (ps := [(0, .aload_n 0, 1)]) (t' := (0, 0, 1, [some (.ref 94)], [.ref 94], pv_mm s T)) (by decide +kernel) rfl ?_
  refine pv_e_gm (i := 80) (ci := 6) (j := 2) (pc' := 4) (by decide +kernel) (by decide) rfl rfl rfl ?_
  obtain rfl := Option.some.inj h
  cases hr
  exact pv_e_ri (by decide +kernel)
def f205_sumOf_b1 (v1 : Int32) (T : pv_T) (st : Int32 × Int32) : Option ((Int32 × Int32) ⊕ (Int32 × Int32)) := match st with
  | (v2, v3) =>
    if (T.1 94 8) ≤ v3 then
      some (.inr (v2, v3))
    else
      (pv_rd T.1 105 78 (v1 + v3)).bind fun q2 =>
      some (.inl (v2 + q2, v3 + (1:Int32)))
def f205_sumOf_b1_H (xs : Nat → Int32) (L d : Nat) (r : Option Value × pv_M) (s : pv_F) (v1 : Int32) (T : pv_T) (st : Int32 × Int32) : Prop := match st with
  | (v2, v3) => pv_Ev xs L (d + 0) 205 (0, 0, 4, [some (.ref 94), some (.int v1), some (.int v2), some (.int v3)], [], pv_mm s T) r
def f205_sumOf_b1_X (xs : Nat → Int32) (L d : Nat) (r : Option Value × pv_M) (s : pv_F) (v1 : Int32) (T : pv_T) (st : Int32 × Int32) : Prop := match st with
  | (v2, v3) => ∀ z3 : Option Value, pv_Ev xs L (d + 0) 205 (0, 0, 29, [some (.ref 94), some (.int v1), some (.int v2), z3], [], pv_mm s T) r
def f205_sumOf (x1 : Int32) (T : pv_T) : Option (Int32) :=
  (pv_lq (f205_sumOf_b1 x1 T) 20000 ((0:Int32), (0:Int32))).bind fun (w4, w5) =>
  some w4
theorem f205_sumOf_b1_ok {xs : Nat → Int32} {L d : Nat} {r : Option Value × pv_M} {s : pv_F} {v1 : Int32} {T : pv_T} (st : Int32 × Int32) (o : (Int32 × Int32) ⊕ (Int32 × Int32)) (h : f205_sumOf_b1 v1 T st = some o) (hK : pv_Kq (f205_sumOf_b1_H xs L d r s v1 T) (f205_sumOf_b1_X xs L d r s v1 T) o) : f205_sumOf_b1_H xs L d r s v1 T st := by
  obtain ⟨v2, v3⟩ := st
  show pv_Ev xs L (d + 0) 205 (0, 0, 4, [some (.ref 94), some (.int v1), some (.int v2), some (.int v3)], [], pv_mm s T) r
  unfold f205_sumOf_b1 at h
  dsimp only at h
  refine pv_e_bk (ps := [(4, .iload_n 3, 1), (5, .aload_n 0, 1)]) (t' := (0, 0, 6, [some (.ref 94), some (.int v1), some (.int v2), some (.int v3)], [.ref 94, .int v3], pv_mm s T)) (by decide +kernel) rfl ?_
  refine pv_e_gm (i := 136) (ci := 6) (j := 8) (pc' := 9) (by decide +kernel) (by decide) rfl rfl rfl ?_
  refine pv_e_icmpge (off := 20) (b := 29) (pc' := 12) (by decide +kernel) (by decide +kernel) rfl (fun c1 => ?_) (fun c1 => ?_)
  · rw [if_pos c1] at h
    obtain rfl := Option.some.inj h
    exact hK _
  · rw [if_neg c1] at h
    refine pv_e_bk (ps := [(12, .iload_n 2, 1), (13, .aload_n 0, 1)]) (t' := (0, 0, 14, [some (.ref 94), some (.int v1), some (.int v2), some (.int v3)], [.ref 94, .int v2], pv_mm s T)) (by decide +kernel) rfl ?_
    refine pv_e_gr (i := 44) (ci := 6) (j := 17) (b := 105) (pc' := 17) (by decide +kernel) rfl rfl rfl ?_
    refine pv_e_bk (ps := [(17, .iload_n 1, 1), (18, .iload_n 3, 1), (19, .iadd, 1)]) (t' := (0, 0, 20, [some (.ref 94), some (.int v1), some (.int v2), some (.int v3)], [.int (v1 + v3), .ref 105, .int v2], pv_mm s T)) (by decide +kernel) rfl ?_
    obtain ⟨q2, e3, h⟩ := Option.bind_eq_some_iff.mp h
    refine pv_e_rm (pc' := 21) (by decide +kernel) (by decide) rfl e3 rfl ?_
    refine pv_e_bk (ps := [(21, .iadd, 1), (22, .istore_n 2, 1), (23, .iinc 3 1, 3), (26, .goto (-22), 3)]) (t' := (0, 0, 4, [some (.ref 94), some (.int v1), some (.int (v2 + q2)), some (.int (v3 + (1:Int32)))], [], pv_mm s T)) (by decide +kernel) rfl ?_
    obtain rfl := Option.some.inj h
    exact hK
theorem ee205 {xs : Nat → Int32} {L : Nat} (d : Nat) (x1 : Int32) {s : pv_F} {T : pv_T} {q : Int32}  (h : f205_sumOf x1 T = some q) : pv_Ev xs L (d + 0) 205 (0, 0, 0, [some (.ref 94), some (.int x1), none, none], [], pv_mm s T) (some (.int q), pv_mm s T) := by
  generalize hr : ((some (.int q), pv_mm s T) : Option Value × pv_M) = r
  unfold f205_sumOf at h
  refine pv_e_bk (ps := [(0, .iconst 0, 1), (1, .istore_n 2, 1), (2, .iconst 0, 1), (3, .istore_n 3, 1)]) (t' := (0, 0, 4, [some (.ref 94), some (.int x1), some (.int (0:Int32)), some (.int (0:Int32))], [], pv_mm s T)) (by decide +kernel) rfl ?_
  obtain ⟨⟨w4, w5⟩, e7, h⟩ := Option.bind_eq_some_iff.mp h
  dsimp only at h
  have hx6 : f205_sumOf_b1_X xs L d r s x1 T (w4, w5) := by
    show ∀ z3 : Option Value, pv_Ev xs L (d + 0) 205 (0, 0, 29, [some (.ref 94), some (.int x1), some (.int w4), z3], [], pv_mm s T) r
    intro z3
    refine pv_e_bk (ps := [(29, .iload_n 2, 1)]) (t' := (0, 0, 30, [some (.ref 94), some (.int x1), some (.int w4), z3], [.int w4], pv_mm s T)) (by decide +kernel) rfl ?_
    obtain rfl := Option.some.inj h
    cases hr
    exact pv_e_ri (by decide +kernel)
  exact pv_lq_ok (H := f205_sumOf_b1_H xs L d r s x1 T) (X := f205_sumOf_b1_X xs L d r s x1 T) (f205_sumOf_b1_ok (xs := xs) (L := L) (d := d) (r := r) (s := s) (v1 := x1) (T := T)) 20000 _ _ e7 hx6
