-- printed by wip/whole/gen/parts.py: methods as functions over the ints of the memory, and that the pure machine runs so
def f185_judge (x1 : Int32) (T : pv_T) : Option (Int32 × pv_T) :=
  (f182_askedCalls x1 (40:Int32) T).bind fun (q2, T3) =>
  if 0 ≤ q2 then
    (f167_putAside T3).bind fun T6 =>
    (f183_missed T6).bind fun q8 =>
    (f184_callOn x1 T6).bind fun (q10, T11) =>
    (f183_missed T11).bind fun q13 =>
    (f168_comeBack T11).bind fun T15 =>
    (f115_ask (q13 - q8) q10 T15).bind fun (q17, T18) =>
    some (q17, T18)
  else
    some (q2, T3)
theorem ee185 {xs : Nat → Int32} {L : Nat} (d : Nat) (x1 : Int32) {s : pv_F} {T : pv_T} {q : Int32 × pv_T}  (h : f185_judge x1 T = some q) : pv_Ev xs L (d + 6) 185 (0, 0, 0, [some (.ref 94), some (.int x1), none, none, none, none], [], pv_mm s T) (some (.int q.1), pv_mm s q.2) := by
  generalize hr : ((some (.int q.1), pv_mm s q.2) : Option Value × pv_M) = r
  unfold f185_judge at h
  refine pv_e_bk (ps := [(0, .aload_n 0, 1), (1, .iload_n 1, 1), (2, .bipush 40, 2)]) (t' := (0, 0, 4, [some (.ref 94), some (.int x1), none, none, none, none], [.int (40:Int32), .int x1, .ref 94], pv_mm s T)) (by decide +kernel) rfl ?_
  obtain ⟨⟨q2, T3⟩, e1, h⟩ := Option.bind_eq_some_iff.mp h
  dsimp only at h
  refine pv_e_cvi (d := d + 5) (i := 240) (z := 182) (np := 2) (ml := 5) (ci := 6) (As := [.int x1, .int (40:Int32)]) (rs := []) (pc' := 7) (by decide +kernel) rfl rfl rfl rfl (Nat.le_of_ble_eq_true rfl) (Nat.le_of_ble_eq_true rfl) rfl (ee182 (d + 2) x1 (40:Int32) e1) ?_
  refine pv_e_bk (ps := [(7, .istore_n 2, 1), (8, .iload_n 2, 1)]) (t' := (0, 0, 9, [some (.ref 94), some (.int x1), some (.int q2), none, none, none], [.int q2], pv_mm s T3)) (by decide +kernel) rfl ?_
  refine pv_e_ifge (off := 5) (b := 14) (pc' := 12) (by decide +kernel) (by decide +kernel) rfl (fun c4 => ?_) (fun c4 => ?_)
  · rw [if_pos c4] at h
    refine pv_e_bk (ps := [(14, .aload_n 0, 1)]) (t' := (0, 0, 15, [some (.ref 94), some (.int x1), some (.int q2), none, none, none], [.ref 94], pv_mm s T3)) (by decide +kernel) rfl ?_
    obtain ⟨T6, e5, h⟩ := Option.bind_eq_some_iff.mp h
    refine pv_e_cvv (d := d + 5) (i := 206) (z := 167) (np := 0) (ml := 1) (ci := 6) (As := []) (rs := []) (pc' := 18) (by decide +kernel) rfl rfl rfl rfl (Nat.le_of_ble_eq_true rfl) (Nat.le_of_ble_eq_true rfl) rfl (ee167 (d + 4) e5) ?_
    refine pv_e_bk (ps := [(18, .aload_n 0, 1)]) (t' := (0, 0, 19, [some (.ref 94), some (.int x1), some (.int q2), none, none, none], [.ref 94], pv_mm s T6)) (by decide +kernel) rfl ?_
    obtain ⟨q8, e7, h⟩ := Option.bind_eq_some_iff.mp h
    refine pv_e_cvi (d := d + 5) (i := 243) (z := 183) (np := 0) (ml := 3) (ci := 6) (As := []) (rs := []) (pc' := 22) (by decide +kernel) rfl rfl rfl rfl (Nat.le_of_ble_eq_true rfl) (Nat.le_of_ble_eq_true rfl) rfl (ee183 (d + 5) e7) ?_
    refine pv_e_bk (ps := [(22, .istore_n 3, 1), (23, .aload_n 0, 1), (24, .iload_n 1, 1)]) (t' := (0, 0, 25, [some (.ref 94), some (.int x1), some (.int q2), some (.int q8), none, none], [.int x1, .ref 94], pv_mm s T6)) (by decide +kernel) rfl ?_
    obtain ⟨⟨q10, T11⟩, e9, h⟩ := Option.bind_eq_some_iff.mp h
    dsimp only at h
    refine pv_e_cvi (d := d + 5) (i := 246) (z := 184) (np := 1) (ml := 3) (ci := 6) (As := [.int x1]) (rs := []) (pc' := 28) (by decide +kernel) rfl rfl rfl rfl (Nat.le_of_ble_eq_true rfl) (Nat.le_of_ble_eq_true rfl) rfl (ee184 (d + 0) x1 e9) ?_
    refine pv_e_bk (ps := [(28, .istore 4, 2), (30, .aload_n 0, 1)]) (t' := (0, 0, 31, [some (.ref 94), some (.int x1), some (.int q2), some (.int q8), some (.int q10), none], [.ref 94], pv_mm s T11)) (by decide +kernel) rfl ?_
    obtain ⟨q13, e12, h⟩ := Option.bind_eq_some_iff.mp h
    refine pv_e_cvi (d := d + 5) (i := 243) (z := 183) (np := 0) (ml := 3) (ci := 6) (As := []) (rs := []) (pc' := 34) (by decide +kernel) rfl rfl rfl rfl (Nat.le_of_ble_eq_true rfl) (Nat.le_of_ble_eq_true rfl) rfl (ee183 (d + 5) e12) ?_
    refine pv_e_bk (ps := [(34, .iload_n 3, 1), (35, .isub, 1), (36, .istore 5, 2), (38, .aload_n 0, 1)]) (t' := (0, 0, 39, [some (.ref 94), some (.int x1), some (.int q2), some (.int q8), some (.int q10), some (.int (q13 - q8))], [.ref 94], pv_mm s T11)) (by decide +kernel) rfl ?_
    obtain ⟨T15, e14, h⟩ := Option.bind_eq_some_iff.mp h
    refine pv_e_cvv (d := d + 5) (i := 209) (z := 168) (np := 0) (ml := 1) (ci := 6) (As := []) (rs := []) (pc' := 42) (by decide +kernel) rfl rfl rfl rfl (Nat.le_of_ble_eq_true rfl) (Nat.le_of_ble_eq_true rfl) rfl (ee168 (d + 4) e14) ?_
    refine pv_e_bk (ps := [(42, .aload_n 0, 1), (43, .iload 5, 2), (45, .iload 4, 2)]) (t' := (0, 0, 47, [some (.ref 94), some (.int x1), some (.int q2), some (.int q8), some (.int q10), some (.int (q13 - q8))], [.int q10, .int (q13 - q8), .ref 94], pv_mm s T15)) (by decide +kernel) rfl ?_
    obtain ⟨⟨q17, T18⟩, e16, h⟩ := Option.bind_eq_some_iff.mp h
    dsimp only at h
    refine pv_e_cvi (d := d + 5) (i := 109) (z := 115) (np := 2) (ml := 3) (ci := 6) (As := [.int (q13 - q8), .int q10]) (rs := []) (pc' := 50) (by decide +kernel) rfl rfl rfl rfl (Nat.le_of_ble_eq_true rfl) (Nat.le_of_ble_eq_true rfl) rfl (ee115 (d + 5) (q13 - q8) q10 e16) ?_
    obtain rfl := Option.some.inj h
    cases hr
    exact pv_e_ri (by decide +kernel)
  · rw [if_neg c4] at h
    refine pv_e_bk (ps := [(12, .iload_n 2, 1)]) (t' := (0, 0, 13, [some (.ref 94), some (.int x1), some (.int q2), none, none, none], [.int q2], pv_mm s T3)) (by decide +kernel) rfl ?_
    obtain rfl := Option.some.inj h
    cases hr
    exact pv_e_ri (by decide +kernel)
def f186_meetLaid_b1 (v1 : Int32) (st : Int32 × pv_T) : Option ((Int32 × pv_T) ⊕ (Int32 × pv_T)) := match st with
  | (v3, T) =>
    if v1 ≤ v3 then
      some (.inr (v3, T))
    else
      (pv_rd T.1 113 6 v3).bind fun q10 =>
      (pv_wm T 114 6 v3 q10).bind fun T12 =>
      some (.inl (v3 + (1:Int32), T12))
def f186_meetLaid_b1_H (xs : Nat → Int32) (L d : Nat) (r : Option Value × pv_M) (s : pv_F) (v1 : Int32) (v2 : Int32) (st : Int32 × pv_T) : Prop := match st with
  | (v3, T) => pv_Ev xs L (d + 1) 186 (0, 0, 25, [some (.ref 94), some (.int v1), some (.int v2), some (.int v3)], [], pv_mm s T) r
def f186_meetLaid_b1_X (xs : Nat → Int32) (L d : Nat) (r : Option Value × pv_M) (s : pv_F) (v1 : Int32) (v2 : Int32) (st : Int32 × pv_T) : Prop := match st with
  | (v3, T) => ∀ z3 : Option Value, pv_Ev xs L (d + 1) 186 (0, 0, 48, [some (.ref 94), some (.int v1), some (.int v2), z3], [], pv_mm s T) r
def f186_meetLaid (x1 : Int32) (T : pv_T) : Option (pv_T) :=
  (f183_missed T).bind fun q2 =>
  ((
    if (T.1 94 30) ≤ (q2 - (T.1 94 31)) then
      some T
    else
      (pv_pm T 94 30 (q2 - (T.1 94 31))).bind fun T7 =>
      (pv_lq (f186_meetLaid_b1 x1) 20000 ((0:Int32), T7)).bind fun (w14, T15) =>
      some T15) : Option (pv_T)).bind fun T3 =>
  some T3
theorem f186_meetLaid_b1_ok {xs : Nat → Int32} {L d : Nat} {r : Option Value × pv_M} {s : pv_F} {v1 : Int32} {v2 : Int32} (st : Int32 × pv_T) (o : (Int32 × pv_T) ⊕ (Int32 × pv_T)) (h : f186_meetLaid_b1 v1 st = some o) (hK : pv_Kq (f186_meetLaid_b1_H xs L d r s v1 v2) (f186_meetLaid_b1_X xs L d r s v1 v2) o) : f186_meetLaid_b1_H xs L d r s v1 v2 st := by
  obtain ⟨v3, T⟩ := st
  show pv_Ev xs L (d + 1) 186 (0, 0, 25, [some (.ref 94), some (.int v1), some (.int v2), some (.int v3)], [], pv_mm s T) r
  unfold f186_meetLaid_b1 at h
  dsimp only at h
  refine pv_e_bk (ps := [(25, .iload_n 3, 1), (26, .iload_n 1, 1)]) (t' := (0, 0, 27, [some (.ref 94), some (.int v1), some (.int v2), some (.int v3)], [.int v1, .int v3], pv_mm s T)) (by decide +kernel) rfl ?_
  refine pv_e_icmpge (off := 21) (b := 48) (pc' := 30) (by decide +kernel) (by decide +kernel) rfl (fun c9 => ?_) (fun c9 => ?_)
  · rw [if_pos c9] at h
    obtain rfl := Option.some.inj h
    exact hK _
  · rw [if_neg c9] at h
    refine pv_e_bk (ps := [(30, .aload_n 0, 1)]) (t' := (0, 0, 31, [some (.ref 94), some (.int v1), some (.int v2), some (.int v3)], [.ref 94], pv_mm s T)) (by decide +kernel) rfl ?_
    refine pv_e_gr (i := 71) (ci := 6) (j := 29) (b := 114) (pc' := 34) (by decide +kernel) rfl rfl rfl ?_
    refine pv_e_bk (ps := [(34, .iload_n 3, 1), (35, .aload_n 0, 1)]) (t' := (0, 0, 36, [some (.ref 94), some (.int v1), some (.int v2), some (.int v3)], [.ref 94, .int v3, .ref 114], pv_mm s T)) (by decide +kernel) rfl ?_
    refine pv_e_gr (i := 68) (ci := 6) (j := 28) (b := 113) (pc' := 39) (by decide +kernel) rfl rfl rfl ?_
    refine pv_e_bk (ps := [(39, .iload_n 3, 1)]) (t' := (0, 0, 40, [some (.ref 94), some (.int v1), some (.int v2), some (.int v3)], [.int v3, .ref 113, .int v3, .ref 114], pv_mm s T)) (by decide +kernel) rfl ?_
    obtain ⟨q10, e11, h⟩ := Option.bind_eq_some_iff.mp h
    refine pv_e_rm (pc' := 41) (by decide +kernel) (by decide) rfl e11 rfl ?_
    obtain ⟨T12, e13, h⟩ := Option.bind_eq_some_iff.mp h
    refine pv_e_wm (pc' := 42) (by decide +kernel) (by decide) rfl e13 rfl ?_
    refine pv_e_bk (ps := [(42, .iinc 3 1, 3), (45, .goto (-20), 3)]) (t' := (0, 0, 25, [some (.ref 94), some (.int v1), some (.int v2), some (.int (v3 + (1:Int32)))], [], pv_mm s T12)) (by decide +kernel) rfl ?_
    obtain rfl := Option.some.inj h
    exact hK
theorem ee186 {xs : Nat → Int32} {L : Nat} (d : Nat) (x1 : Int32) {s : pv_F} {T : pv_T} {q : pv_T}  (h : f186_meetLaid x1 T = some q) : pv_Ev xs L (d + 1) 186 (0, 0, 0, [some (.ref 94), some (.int x1), none, none], [], pv_mm s T) (none, pv_mm s q) := by
  generalize hr : ((none, pv_mm s q) : Option Value × pv_M) = r
  unfold f186_meetLaid at h
  refine pv_e_bk (ps := [(0, .aload_n 0, 1)]) (t' := (0, 0, 1, [some (.ref 94), some (.int x1), none, none], [.ref 94], pv_mm s T)) (by decide +kernel) rfl ?_
  obtain ⟨q2, e1, h⟩ := Option.bind_eq_some_iff.mp h
  refine pv_e_cvi (d := d + 0) (i := 243) (z := 183) (np := 0) (ml := 3) (ci := 6) (As := []) (rs := []) (pc' := 4) (by decide +kernel) rfl rfl rfl rfl (Nat.le_of_ble_eq_true rfl) (Nat.le_of_ble_eq_true rfl) rfl (ee183 (d + 0) e1) ?_
  refine pv_e_bk (ps := [(4, .aload_n 0, 1)]) (t' := (0, 0, 5, [some (.ref 94), some (.int x1), none, none], [.ref 94, .int q2], pv_mm s T)) (by decide +kernel) rfl ?_
  refine pv_e_gm (i := 249) (ci := 6) (j := 31) (pc' := 8) (by decide +kernel) (by decide) rfl rfl rfl ?_
  refine pv_e_bk (ps := [(8, .isub, 1), (9, .istore_n 2, 1), (10, .iload_n 2, 1), (11, .aload_n 0, 1)]) (t' := (0, 0, 12, [some (.ref 94), some (.int x1), some (.int (q2 - (T.1 94 31))), none], [.ref 94, .int (q2 - (T.1 94 31))], pv_mm s T)) (by decide +kernel) rfl ?_
  refine pv_e_gm (i := 252) (ci := 6) (j := 30) (pc' := 15) (by decide +kernel) (by decide) rfl rfl rfl ?_
  obtain ⟨T3, hv4, h⟩ := Option.bind_eq_some_iff.mp h
  have hJ5 : ∀ z3 : Option Value, pv_Ev xs L (d + 1) 186 (0, 0, 48, [some (.ref 94), some (.int x1), some (.int (q2 - (T.1 94 31))), z3], [], pv_mm s T3) r := by
    intro z3
    obtain rfl := Option.some.inj h
    cases hr
    exact pv_e_rv (by decide +kernel)
  clear h
  have h := hv4
  clear hv4
  refine pv_e_icmpge (off := 33) (b := 48) (pc' := 18) (by decide +kernel) (by decide +kernel) rfl (fun c6 => ?_) (fun c6 => ?_)
  · rw [if_pos c6] at h
    obtain rfl := Option.some.inj h
    exact hJ5 _
  · rw [if_neg c6] at h
    refine pv_e_bk (ps := [(18, .aload_n 0, 1), (19, .iload_n 2, 1)]) (t' := (0, 0, 20, [some (.ref 94), some (.int x1), some (.int (q2 - (T.1 94 31))), none], [.int (q2 - (T.1 94 31)), .ref 94], pv_mm s T)) (by decide +kernel) rfl ?_
    obtain ⟨T7, e8, h⟩ := Option.bind_eq_some_iff.mp h
    refine pv_e_pms (i := 252) (ci := 6) (j := 30) (pc' := 23) (by decide +kernel) rfl rfl (by decide) rfl rfl e8 rfl ?_
    refine pv_e_bk (ps := [(23, .iconst 0, 1), (24, .istore_n 3, 1)]) (t' := (0, 0, 25, [some (.ref 94), some (.int x1), some (.int (q2 - (T.1 94 31))), some (.int (0:Int32))], [], pv_mm s T7)) (by decide +kernel) rfl ?_
    obtain ⟨⟨w14, T15⟩, e17, h⟩ := Option.bind_eq_some_iff.mp h
    dsimp only at h
    have hx16 : f186_meetLaid_b1_X xs L d r s x1 (q2 - (T.1 94 31)) (w14, T15) := by
      show ∀ z3 : Option Value, pv_Ev xs L (d + 1) 186 (0, 0, 48, [some (.ref 94), some (.int x1), some (.int (q2 - (T.1 94 31))), z3], [], pv_mm s T15) r
      intro z3
      obtain rfl := Option.some.inj h
      exact hJ5 _
    exact pv_lq_ok (H := f186_meetLaid_b1_H xs L d r s x1 (q2 - (T.1 94 31))) (X := f186_meetLaid_b1_X xs L d r s x1 (q2 - (T.1 94 31))) (f186_meetLaid_b1_ok (xs := xs) (L := L) (d := d) (r := r) (s := s) (v1 := x1) (v2 := (q2 - (T.1 94 31)))) 20000 _ _ e17 hx16
def f187_orderOn_b1 (rec : Int32 → Int32 → Int32 → pv_T → Option (pv_T)) (v1 : Int32) (v2 : Int32) (v3 : Int32) (st : Int32 × pv_T) : Option ((Int32 × pv_T) ⊕ (Int32 × pv_T)) := match st with
  | (v4, T) =>
    (pv_rd T.1 96 6 v1).bind fun q8 =>
    if q8 ≤ v4 then
      some (.inr (v4, T))
    else
      (f122_rowAt v1 v4 T).bind fun q12 =>
      (f116_has v3 v4).bind fun q14 =>
      ((
        if q14 = 0 then
          some T
        else
          (pv_dv q12 (100:Int32)).bind fun q19 =>
          (pv_rmd q12 (100:Int32)).bind fun q21 =>
          (f151_mayCall q19 q21 T).bind fun q24 =>
          if q24 = 0 then
            some T
          else
            (pv_wm T 113 6 v2 v4).bind fun T26 =>
            (pv_dv q12 (100:Int32)).bind fun q28 =>
            (pv_rmd q12 (100:Int32)).bind fun q30 =>
            (f156_doCall q28 q30 T26).bind fun (q33, T34) =>
            (rec v1 (v2 + (1:Int32)) (v3 &&& (((1:Int32) <<< (v4 &&& 31)) ^^^ (-1:Int32))) T34).bind fun T36 =>
            (f161_copies 112 ((78:Int32) * v2) 105 (0:Int32) T36).bind fun T38 =>
            some T38) : Option (pv_T)).bind fun T15 =>
      some (.inl (v4 + (1:Int32), T15))
def f187_orderOn_b1_H (xs : Nat → Int32) (L d : Nat) (r : Option Value × pv_M) (s : pv_F) (v1 : Int32) (v2 : Int32) (v3 : Int32) (st : Int32 × pv_T) : Prop := match st with
  | (v4, T) => ∀ z5 : Option Value, pv_Ev xs L (d + 6) 187 (0, 0, 35, [some (.ref 94), some (.int v1), some (.int v2), some (.int v3), some (.int v4), z5], [], pv_mm s T) r
def f187_orderOn_b1_X (xs : Nat → Int32) (L d : Nat) (r : Option Value × pv_M) (s : pv_F) (v1 : Int32) (v2 : Int32) (v3 : Int32) (st : Int32 × pv_T) : Prop := match st with
  | (v4, T) => ∀ z4 : Option Value, ∀ z5 : Option Value, pv_Ev xs L (d + 6) 187 (0, 0, 142, [some (.ref 94), some (.int v1), some (.int v2), some (.int v3), z4, z5], [], pv_mm s T) r
def f187_orderOn_s (rec : Int32 → Int32 → Int32 → pv_T → Option (pv_T)) (x1 : Int32) (x2 : Int32) (x3 : Int32) (T : pv_T) : Option (pv_T) :=
  (pv_rd T.1 96 6 x1).bind fun q1 =>
  if x2 = q1 then
    (f186_meetLaid x2 T).bind fun T5 =>
    some T5
  else
    (f161_copies 105 (0:Int32) 112 ((78:Int32) * x2) T).bind fun T7 =>
    (pv_lq (f187_orderOn_b1 rec x1 x2 x3) 20000 ((0:Int32), T7)).bind fun (w39, T40) =>
    some T40
def f187_orderOn : Nat → Int32 → Int32 → Int32 → pv_T → Option (pv_T)
  | 0 => fun _ _ _ _ => none
  | n + 1 => fun x1 x2 x3 T => f187_orderOn_s (f187_orderOn n) x1 x2 x3 T
theorem f187_orderOn_b1_ok {xs : Nat → Int32} {L d : Nat} {r : Option Value × pv_M} {rec : Int32 → Int32 → Int32 → pv_T → Option (pv_T)} {s : pv_F} {v1 : Int32} {v2 : Int32} {v3 : Int32} (hrec : ∀ (x1 : Int32) (x2 : Int32) (x3 : Int32) (T : pv_T) (q : pv_T), rec x1 x2 x3 T = some q → pv_Ev xs L (d + 5) 187 (0, 0, 0, [some (.ref 94), some (.int x1), some (.int x2), some (.int x3), none, none], [], pv_mm s T) (none, pv_mm s q)) (st : Int32 × pv_T) (o : (Int32 × pv_T) ⊕ (Int32 × pv_T)) (h : f187_orderOn_b1 rec v1 v2 v3 st = some o) (hK : pv_Kq (f187_orderOn_b1_H xs L d r s v1 v2 v3) (f187_orderOn_b1_X xs L d r s v1 v2 v3) o) : f187_orderOn_b1_H xs L d r s v1 v2 v3 st := by
  obtain ⟨v4, T⟩ := st
  show ∀ z5 : Option Value, pv_Ev xs L (d + 6) 187 (0, 0, 35, [some (.ref 94), some (.int v1), some (.int v2), some (.int v3), some (.int v4), z5], [], pv_mm s T) r
  intro z5
  unfold f187_orderOn_b1 at h
  dsimp only at h
  refine pv_e_bk (ps := [(35, .iload 4, 2), (37, .aload_n 0, 1)]) (t' := (0, 0, 38, [some (.ref 94), some (.int v1), some (.int v2), some (.int v3), some (.int v4), z5], [.ref 94, .int v4], pv_mm s T)) (by decide +kernel) rfl ?_
  refine pv_e_gr (i := 13) (ci := 6) (j := 3) (b := 96) (pc' := 41) (by decide +kernel) rfl rfl rfl ?_
  refine pv_e_bk (ps := [(41, .iload_n 1, 1)]) (t' := (0, 0, 42, [some (.ref 94), some (.int v1), some (.int v2), some (.int v3), some (.int v4), z5], [.int v1, .ref 96, .int v4], pv_mm s T)) (by decide +kernel) rfl ?_
  obtain ⟨q8, e9, h⟩ := Option.bind_eq_some_iff.mp h
  refine pv_e_rm (pc' := 43) (by decide +kernel) (by decide) rfl e9 rfl ?_
  refine pv_e_icmpge (off := 99) (b := 142) (pc' := 46) (by decide +kernel) (by decide +kernel) rfl (fun c10 => ?_) (fun c10 => ?_)
  · rw [if_pos c10] at h
    obtain rfl := Option.some.inj h
    exact hK _ _
  · rw [if_neg c10] at h
    refine pv_e_bk (ps := [(46, .aload_n 0, 1), (47, .iload_n 1, 1), (48, .iload 4, 2)]) (t' := (0, 0, 50, [some (.ref 94), some (.int v1), some (.int v2), some (.int v3), some (.int v4), z5], [.int v4, .int v1, .ref 94], pv_mm s T)) (by decide +kernel) rfl ?_
    obtain ⟨q12, e11, h⟩ := Option.bind_eq_some_iff.mp h
    refine pv_e_cvi (d := d + 5) (i := 105) (z := 122) (np := 2) (ml := 3) (ci := 6) (As := [.int v1, .int v4]) (rs := []) (pc' := 53) (by decide +kernel) rfl rfl rfl rfl (Nat.le_of_ble_eq_true rfl) (Nat.le_of_ble_eq_true rfl) rfl (ee122 (d + 5) v1 v4 e11) ?_
    refine pv_e_bk (ps := [(53, .istore 5, 2), (55, .iload_n 3, 1), (56, .iload 4, 2)]) (t' := (0, 0, 58, [some (.ref 94), some (.int v1), some (.int v2), some (.int v3), some (.int v4), some (.int q12)], [.int v4, .int v3], pv_mm s T)) (by decide +kernel) rfl ?_
    obtain ⟨q14, e13, h⟩ := Option.bind_eq_some_iff.mp h
    refine pv_e_csi (d := d + 5) (i := 186) (z := 116) (np := 2) (ml := 2) (As := [.int v3, .int v4]) (rs := []) (pc' := 61) (by decide +kernel) rfl rfl rfl (Nat.le_of_ble_eq_true rfl) (Nat.le_of_ble_eq_true rfl) rfl (ee116 (d + 5) v3 v4 e13) ?_
    obtain ⟨T15, hv16, h⟩ := Option.bind_eq_some_iff.mp h
    have hJ17 : pv_Ev xs L (d + 6) 187 (0, 0, 136, [some (.ref 94), some (.int v1), some (.int v2), some (.int v3), some (.int v4), some (.int q12)], [], pv_mm s T15) r := by
      refine pv_e_bk (ps := [(136, .iinc 4 1, 3), (139, .goto (-104), 3)]) (t' := (0, 0, 35, [some (.ref 94), some (.int v1), some (.int v2), some (.int v3), some (.int (v4 + (1:Int32))), some (.int q12)], [], pv_mm s T15)) (by decide +kernel) rfl ?_
      obtain rfl := Option.some.inj h
      exact hK _
    clear h
    have h := hv16
    clear hv16
    refine pv_e_ifeq (off := 75) (b := 136) (pc' := 64) (by decide +kernel) (by decide +kernel) rfl (fun c18 => ?_) (fun c18 => ?_)
    · rw [if_pos c18] at h
      obtain rfl := Option.some.inj h
      exact hJ17
    · rw [if_neg c18] at h
      refine pv_e_bk (ps := [(64, .aload_n 0, 1), (65, .iload 5, 2), (67, .bipush 100, 2)]) (t' := (0, 0, 69, [some (.ref 94), some (.int v1), some (.int v2), some (.int v3), some (.int v4), some (.int q12)], [.int (100:Int32), .int q12, .ref 94], pv_mm s T)) (by decide +kernel) rfl ?_
      obtain ⟨q19, e20, h⟩ := Option.bind_eq_some_iff.mp h
      refine pv_e_dv (pc' := 70) (by decide +kernel) e20 rfl ?_
      refine pv_e_bk (ps := [(70, .iload 5, 2), (72, .bipush 100, 2)]) (t' := (0, 0, 74, [some (.ref 94), some (.int v1), some (.int v2), some (.int v3), some (.int v4), some (.int q12)], [.int (100:Int32), .int q12, .int q19, .ref 94], pv_mm s T)) (by decide +kernel) rfl ?_
      obtain ⟨q21, e22, h⟩ := Option.bind_eq_some_iff.mp h
      refine pv_e_rm_ (pc' := 75) (by decide +kernel) e22 rfl ?_
      obtain ⟨q24, e23, h⟩ := Option.bind_eq_some_iff.mp h
      refine pv_e_cvi (d := d + 5) (i := 161) (z := 151) (np := 2) (ml := 3) (ci := 6) (As := [.int q19, .int q21]) (rs := []) (pc' := 78) (by decide +kernel) rfl rfl rfl rfl (Nat.le_of_ble_eq_true rfl) (Nat.le_of_ble_eq_true rfl) rfl (ee151 (d + 4) q19 q21 e23) ?_
      refine pv_e_ifeq (off := 58) (b := 136) (pc' := 81) (by decide +kernel) (by decide +kernel) rfl (fun c25 => ?_) (fun c25 => ?_)
      · rw [if_pos c25] at h
        obtain rfl := Option.some.inj h
        exact hJ17
      · rw [if_neg c25] at h
        refine pv_e_bk (ps := [(81, .aload_n 0, 1)]) (t' := (0, 0, 82, [some (.ref 94), some (.int v1), some (.int v2), some (.int v3), some (.int v4), some (.int q12)], [.ref 94], pv_mm s T)) (by decide +kernel) rfl ?_
        refine pv_e_gr (i := 68) (ci := 6) (j := 28) (b := 113) (pc' := 85) (by decide +kernel) rfl rfl rfl ?_
        refine pv_e_bk (ps := [(85, .iload_n 2, 1), (86, .iload 4, 2)]) (t' := (0, 0, 88, [some (.ref 94), some (.int v1), some (.int v2), some (.int v3), some (.int v4), some (.int q12)], [.int v4, .int v2, .ref 113], pv_mm s T)) (by decide +kernel) rfl ?_
        obtain ⟨T26, e27, h⟩ := Option.bind_eq_some_iff.mp h
        refine pv_e_wm (pc' := 89) (by decide +kernel) (by decide) rfl e27 rfl ?_
        refine pv_e_bk (ps := [(89, .aload_n 0, 1), (90, .iload 5, 2), (92, .bipush 100, 2)]) (t' := (0, 0, 94, [some (.ref 94), some (.int v1), some (.int v2), some (.int v3), some (.int v4), some (.int q12)], [.int (100:Int32), .int q12, .ref 94], pv_mm s T26)) (by decide +kernel) rfl ?_
        obtain ⟨q28, e29, h⟩ := Option.bind_eq_some_iff.mp h
        refine pv_e_dv (pc' := 95) (by decide +kernel) e29 rfl ?_
        refine pv_e_bk (ps := [(95, .iload 5, 2), (97, .bipush 100, 2)]) (t' := (0, 0, 99, [some (.ref 94), some (.int v1), some (.int v2), some (.int v3), some (.int v4), some (.int q12)], [.int (100:Int32), .int q12, .int q28, .ref 94], pv_mm s T26)) (by decide +kernel) rfl ?_
        obtain ⟨q30, e31, h⟩ := Option.bind_eq_some_iff.mp h
        refine pv_e_rm_ (pc' := 100) (by decide +kernel) e31 rfl ?_
        obtain ⟨⟨q33, T34⟩, e32, h⟩ := Option.bind_eq_some_iff.mp h
        dsimp only at h
        refine pv_e_cvi (d := d + 5) (i := 199) (z := 156) (np := 2) (ml := 5) (ci := 6) (As := [.int q28, .int q30]) (rs := []) (pc' := 103) (by decide +kernel) rfl rfl rfl rfl (Nat.le_of_ble_eq_true rfl) (Nat.le_of_ble_eq_true rfl) rfl (ee156 (d + 1) q28 q30 e32) ?_
        refine pv_e_bk (ps := [(103, .pop, 1), (104, .aload_n 0, 1), (105, .iload_n 1, 1), (106, .iload_n 2, 1), (107, .iconst 1, 1), (108, .iadd, 1), (109, .iload_n 3, 1), (110, .iconst 1, 1), (111, .iload 4, 2), (113, .ishl, 1), (114, .iconst (-1), 1), (115, .ixor, 1), (116, .iand, 1)]) (t' := (0, 0, 117, [some (.ref 94), some (.int v1), some (.int v2), some (.int v3), some (.int v4), some (.int q12)], [.int (v3 &&& (((1:Int32) <<< (v4 &&& 31)) ^^^ (-1:Int32))), .int (v2 + (1:Int32)), .int v1, .ref 94], pv_mm s T34)) (by decide +kernel) rfl ?_
        obtain ⟨T36, e35, h⟩ := Option.bind_eq_some_iff.mp h
        refine pv_e_cvv (d := d + 5) (i := 258) (z := 187) (np := 3) (ml := 6) (ci := 6) (As := [.int v1, .int (v2 + (1:Int32)), .int (v3 &&& (((1:Int32) <<< (v4 &&& 31)) ^^^ (-1:Int32)))]) (rs := []) (pc' := 120) (by decide +kernel) rfl rfl rfl rfl (Nat.le_of_ble_eq_true rfl) (Nat.le_of_ble_eq_true rfl) rfl (hrec v1 (v2 + (1:Int32)) (v3 &&& (((1:Int32) <<< (v4 &&& 31)) ^^^ (-1:Int32))) T34 _ e35) ?_
        refine pv_e_bk (ps := [(120, .aload_n 0, 1)]) (t' := (0, 0, 121, [some (.ref 94), some (.int v1), some (.int v2), some (.int v3), some (.int v4), some (.int q12)], [.ref 94], pv_mm s T36)) (by decide +kernel) rfl ?_
        refine pv_e_gr (i := 65) (ci := 6) (j := 27) (b := 112) (pc' := 124) (by decide +kernel) rfl rfl rfl ?_
        refine pv_e_bk (ps := [(124, .bipush 78, 2), (126, .iload_n 2, 1), (127, .imul, 1), (128, .aload_n 0, 1)]) (t' := (0, 0, 129, [some (.ref 94), some (.int v1), some (.int v2), some (.int v3), some (.int v4), some (.int q12)], [.ref 94, .int ((78:Int32) * v2), .ref 112], pv_mm s T36)) (by decide +kernel) rfl ?_
        refine pv_e_gr (i := 44) (ci := 6) (j := 17) (b := 105) (pc' := 132) (by decide +kernel) rfl rfl rfl ?_
        refine pv_e_bk (ps := [(132, .iconst 0, 1)]) (t' := (0, 0, 133, [some (.ref 94), some (.int v1), some (.int v2), some (.int v3), some (.int v4), some (.int q12)], [.int (0:Int32), .ref 105, .int ((78:Int32) * v2), .ref 112], pv_mm s T36)) (by decide +kernel) rfl ?_
        obtain ⟨T38, e37, h⟩ := Option.bind_eq_some_iff.mp h
        refine pv_e_csv (d := d + 5) (i := 202) (z := 161) (np := 4) (ml := 5) (As := [.ref 112, .int ((78:Int32) * v2), .ref 105, .int (0:Int32)]) (rs := []) (pc' := 136) (by decide +kernel) rfl rfl rfl (Nat.le_of_ble_eq_true rfl) (Nat.le_of_ble_eq_true rfl) rfl (ee161 (d + 5) 112 ((78:Int32) * v2) 105 (0:Int32) (by decide) (by decide) e37) ?_
        obtain rfl := Option.some.inj h
        exact hJ17
theorem ee187_s {xs : Nat → Int32} {L d : Nat} {rec : Int32 → Int32 → Int32 → pv_T → Option (pv_T)} {x1 : Int32} {x2 : Int32} {x3 : Int32} {s : pv_F} {T : pv_T} {q : pv_T} (hrec : ∀ (x1 : Int32) (x2 : Int32) (x3 : Int32) (T : pv_T) (q : pv_T), rec x1 x2 x3 T = some q → pv_Ev xs L (d + 5) 187 (0, 0, 0, [some (.ref 94), some (.int x1), some (.int x2), some (.int x3), none, none], [], pv_mm s T) (none, pv_mm s q))  (h : f187_orderOn_s rec x1 x2 x3 T = some q) : pv_Ev xs L (d + 6) 187 (0, 0, 0, [some (.ref 94), some (.int x1), some (.int x2), some (.int x3), none, none], [], pv_mm s T) (none, pv_mm s q) := by
  generalize hr : ((none, pv_mm s q) : Option Value × pv_M) = r
  unfold f187_orderOn_s at h
  refine pv_e_bk (ps := [(0, .iload_n 2, 1), (1, .aload_n 0, 1)]) (t' := (0, 0, 2, [some (.ref 94), some (.int x1), some (.int x2), some (.int x3), none, none], [.ref 94, .int x2], pv_mm s T)) (by decide +kernel) rfl ?_
  refine pv_e_gr (i := 13) (ci := 6) (j := 3) (b := 96) (pc' := 5) (by decide +kernel) rfl rfl rfl ?_
  refine pv_e_bk (ps := [(5, .iload_n 1, 1)]) (t' := (0, 0, 6, [some (.ref 94), some (.int x1), some (.int x2), some (.int x3), none, none], [.int x1, .ref 96, .int x2], pv_mm s T)) (by decide +kernel) rfl ?_
  obtain ⟨q1, e2, h⟩ := Option.bind_eq_some_iff.mp h
  refine pv_e_rm (pc' := 7) (by decide +kernel) (by decide) rfl e2 rfl ?_
  refine pv_e_icmpne (off := 9) (b := 16) (pc' := 10) (by decide +kernel) (by decide +kernel) rfl (fun c3 => ?_) (fun c3 => ?_)
  · rw [if_pos c3] at h
    refine pv_e_bk (ps := [(10, .aload_n 0, 1), (11, .iload_n 2, 1)]) (t' := (0, 0, 12, [some (.ref 94), some (.int x1), some (.int x2), some (.int x3), none, none], [.int x2, .ref 94], pv_mm s T)) (by decide +kernel) rfl ?_
    obtain ⟨T5, e4, h⟩ := Option.bind_eq_some_iff.mp h
    refine pv_e_cvv (d := d + 5) (i := 255) (z := 186) (np := 1) (ml := 4) (ci := 6) (As := [.int x2]) (rs := []) (pc' := 15) (by decide +kernel) rfl rfl rfl rfl (Nat.le_of_ble_eq_true rfl) (Nat.le_of_ble_eq_true rfl) rfl (ee186 (d + 4) x2 e4) ?_
    obtain rfl := Option.some.inj h
    cases hr
    exact pv_e_rv (by decide +kernel)
  · rw [if_neg c3] at h
    refine pv_e_bk (ps := [(16, .aload_n 0, 1)]) (t' := (0, 0, 17, [some (.ref 94), some (.int x1), some (.int x2), some (.int x3), none, none], [.ref 94], pv_mm s T)) (by decide +kernel) rfl ?_
    refine pv_e_gr (i := 44) (ci := 6) (j := 17) (b := 105) (pc' := 20) (by decide +kernel) rfl rfl rfl ?_
    refine pv_e_bk (ps := [(20, .iconst 0, 1), (21, .aload_n 0, 1)]) (t' := (0, 0, 22, [some (.ref 94), some (.int x1), some (.int x2), some (.int x3), none, none], [.ref 94, .int (0:Int32), .ref 105], pv_mm s T)) (by decide +kernel) rfl ?_
    refine pv_e_gr (i := 65) (ci := 6) (j := 27) (b := 112) (pc' := 25) (by decide +kernel) rfl rfl rfl ?_
    refine pv_e_bk (ps := [(25, .bipush 78, 2), (27, .iload_n 2, 1), (28, .imul, 1)]) (t' := (0, 0, 29, [some (.ref 94), some (.int x1), some (.int x2), some (.int x3), none, none], [.int ((78:Int32) * x2), .ref 112, .int (0:Int32), .ref 105], pv_mm s T)) (by decide +kernel) rfl ?_
    obtain ⟨T7, e6, h⟩ := Option.bind_eq_some_iff.mp h
    refine pv_e_csv (d := d + 5) (i := 202) (z := 161) (np := 4) (ml := 5) (As := [.ref 105, .int (0:Int32), .ref 112, .int ((78:Int32) * x2)]) (rs := []) (pc' := 32) (by decide +kernel) rfl rfl rfl (Nat.le_of_ble_eq_true rfl) (Nat.le_of_ble_eq_true rfl) rfl (ee161 (d + 5) 105 (0:Int32) 112 ((78:Int32) * x2) (by decide) (by decide) e6) ?_
    refine pv_e_bk (ps := [(32, .iconst 0, 1), (33, .istore 4, 2)]) (t' := (0, 0, 35, [some (.ref 94), some (.int x1), some (.int x2), some (.int x3), some (.int (0:Int32)), none], [], pv_mm s T7)) (by decide +kernel) rfl ?_
    obtain ⟨⟨w39, T40⟩, e42, h⟩ := Option.bind_eq_some_iff.mp h
    dsimp only at h
    have hx41 : f187_orderOn_b1_X xs L d r s x1 x2 x3 (w39, T40) := by
      show ∀ z4 : Option Value, ∀ z5 : Option Value, pv_Ev xs L (d + 6) 187 (0, 0, 142, [some (.ref 94), some (.int x1), some (.int x2), some (.int x3), z4, z5], [], pv_mm s T40) r
      intro z4 z5
      obtain rfl := Option.some.inj h
      cases hr
      exact pv_e_rv (by decide +kernel)
    exact pv_lq_ok (H := f187_orderOn_b1_H xs L d r s x1 x2 x3) (X := f187_orderOn_b1_X xs L d r s x1 x2 x3) (f187_orderOn_b1_ok (xs := xs) (L := L) (d := d) (r := r) (s := s) (v1 := x1) (v2 := x2) (v3 := x3) hrec) 20000 _ _ e42 hx41 _
theorem ee187 {xs : Nat → Int32} {L : Nat} (d : Nat) : ∀ (n : Nat) (x1 : Int32) (x2 : Int32) (x3 : Int32) {s : pv_F} {T : pv_T} {q : pv_T}  (h : f187_orderOn n x1 x2 x3 T = some q), pv_Ev xs L (d + n + 5) 187 (0, 0, 0, [some (.ref 94), some (.int x1), some (.int x2), some (.int x3), none, none], [], pv_mm s T) (none, pv_mm s q) := by
  intro n
  induction n with
  | zero => intros; next h => cases h
  | succ n ih =>
    intro x1 x2 x3 s T q h
    exact ee187_s (d := d + n) (fun x1 x2 x3 T q h => ih x1 x2 x3 h)  h
def f188_layBest_b1 (v1 : Int32) (v2 : Int32) (st : Int32 × pv_T) : Option ((Int32 × pv_T) ⊕ (Int32 × pv_T)) := match st with
  | (v3, T) =>
    if v2 ≤ v3 then
      some (.inr (v3, T))
    else
      (pv_rd T.1 114 6 v3).bind fun q6 =>
      (f123_setRow v1 v3 q6 T).bind fun T9 =>
      some (.inl (v3 + (1:Int32), T9))
def f188_layBest_b1_H (xs : Nat → Int32) (L d : Nat) (r : Option Value × pv_M) (s : pv_F) (v1 : Int32) (v2 : Int32) (st : Int32 × pv_T) : Prop := match st with
  | (v3, T) => pv_Ev xs L (d + 3) 188 (0, 0, 22, [some (.ref 94), some (.int v1), some (.int v2), some (.int v3)], [], pv_mm s T) r
def f188_layBest_b1_X (xs : Nat → Int32) (L d : Nat) (r : Option Value × pv_M) (s : pv_F) (v1 : Int32) (v2 : Int32) (st : Int32 × pv_T) : Prop := match st with
  | (v3, T) => ∀ z3 : Option Value, pv_Ev xs L (d + 3) 188 (0, 0, 45, [some (.ref 94), some (.int v1), some (.int v2), z3], [], pv_mm s T) r
def f188_layBest (x1 : Int32) (x2 : Int32) (T : pv_T) : Option (Int32 × pv_T) :=
  if (T.1 94 30) = (1048576:Int32) then
    some ((-9:Int32), T)
  else
    (f124_row x1 x2 T).bind fun (q3, T4) =>
    (pv_lq (f188_layBest_b1 x1 x2) 20000 ((0:Int32), T4)).bind fun (w10, T11) =>
    some (T11.1 94 30, T11)
theorem f188_layBest_b1_ok {xs : Nat → Int32} {L d : Nat} {r : Option Value × pv_M} {s : pv_F} {v1 : Int32} {v2 : Int32} (st : Int32 × pv_T) (o : (Int32 × pv_T) ⊕ (Int32 × pv_T)) (h : f188_layBest_b1 v1 v2 st = some o) (hK : pv_Kq (f188_layBest_b1_H xs L d r s v1 v2) (f188_layBest_b1_X xs L d r s v1 v2) o) : f188_layBest_b1_H xs L d r s v1 v2 st := by
  obtain ⟨v3, T⟩ := st
  show pv_Ev xs L (d + 3) 188 (0, 0, 22, [some (.ref 94), some (.int v1), some (.int v2), some (.int v3)], [], pv_mm s T) r
  unfold f188_layBest_b1 at h
  dsimp only at h
  refine pv_e_bk (ps := [(22, .iload_n 3, 1), (23, .iload_n 2, 1)]) (t' := (0, 0, 24, [some (.ref 94), some (.int v1), some (.int v2), some (.int v3)], [.int v2, .int v3], pv_mm s T)) (by decide +kernel) rfl ?_
  refine pv_e_icmpge (off := 21) (b := 45) (pc' := 27) (by decide +kernel) (by decide +kernel) rfl (fun c5 => ?_) (fun c5 => ?_)
  · rw [if_pos c5] at h
    obtain rfl := Option.some.inj h
    exact hK _
  · rw [if_neg c5] at h
    refine pv_e_bk (ps := [(27, .aload_n 0, 1), (28, .iload_n 1, 1), (29, .iload_n 3, 1), (30, .aload_n 0, 1)]) (t' := (0, 0, 31, [some (.ref 94), some (.int v1), some (.int v2), some (.int v3)], [.ref 94, .int v3, .int v1, .ref 94], pv_mm s T)) (by decide +kernel) rfl ?_
    refine pv_e_gr (i := 71) (ci := 6) (j := 29) (b := 114) (pc' := 34) (by decide +kernel) rfl rfl rfl ?_
    refine pv_e_bk (ps := [(34, .iload_n 3, 1)]) (t' := (0, 0, 35, [some (.ref 94), some (.int v1), some (.int v2), some (.int v3)], [.int v3, .ref 114, .int v3, .int v1, .ref 94], pv_mm s T)) (by decide +kernel) rfl ?_
    obtain ⟨q6, e7, h⟩ := Option.bind_eq_some_iff.mp h
    refine pv_e_rm (pc' := 36) (by decide +kernel) (by decide) rfl e7 rfl ?_
    obtain ⟨T9, e8, h⟩ := Option.bind_eq_some_iff.mp h
    refine pv_e_cvv (d := d + 2) (i := 98) (z := 123) (np := 3) (ml := 4) (ci := 6) (As := [.int v1, .int v3, .int q6]) (rs := []) (pc' := 39) (by decide +kernel) rfl rfl rfl rfl (Nat.le_of_ble_eq_true rfl) (Nat.le_of_ble_eq_true rfl) rfl (ee123 (d + 2) v1 v3 q6 e8) ?_
    refine pv_e_bk (ps := [(39, .iinc 3 1, 3), (42, .goto (-20), 3)]) (t' := (0, 0, 22, [some (.ref 94), some (.int v1), some (.int v2), some (.int (v3 + (1:Int32)))], [], pv_mm s T9)) (by decide +kernel) rfl ?_
    obtain rfl := Option.some.inj h
    exact hK
theorem ee188 {xs : Nat → Int32} {L : Nat} (d : Nat) (x1 : Int32) (x2 : Int32) {s : pv_F} {T : pv_T} {q : Int32 × pv_T}  (h : f188_layBest x1 x2 T = some q) : pv_Ev xs L (d + 3) 188 (0, 0, 0, [some (.ref 94), some (.int x1), some (.int x2), none], [], pv_mm s T) (some (.int q.1), pv_mm s q.2) := by
  generalize hr : ((some (.int q.1), pv_mm s q.2) : Option Value × pv_M) = r
  unfold f188_layBest at h
  refine pv_e_bk (ps := [(0, .aload_n 0, 1)]) (t' := (0, 0, 1, [some (.ref 94), some (.int x1), some (.int x2), none], [.ref 94], pv_mm s T)) (by decide +kernel) rfl ?_
  refine pv_e_gm (i := 252) (ci := 6) (j := 30) (pc' := 4) (by decide +kernel) (by decide) rfl rfl rfl ?_
  refine pv_e_bk (ps := [(4, .ldc_w 261, 3)]) (t' := (0, 0, 7, [some (.ref 94), some (.int x1), some (.int x2), none], [.int (1048576:Int32), .int (T.1 94 30)], pv_mm s T)) (by decide +kernel) rfl ?_
  refine pv_e_icmpne (off := 6) (b := 13) (pc' := 10) (by decide +kernel) (by decide +kernel) rfl (fun c1 => ?_) (fun c1 => ?_)
  · rw [if_pos c1] at h
    refine pv_e_bk (ps := [(10, .bipush (-9), 2)]) (t' := (0, 0, 12, [some (.ref 94), some (.int x1), some (.int x2), none], [.int (-9:Int32)], pv_mm s T)) (by decide +kernel) rfl ?_
    obtain rfl := Option.some.inj h
    cases hr
    exact pv_e_ri (by decide +kernel)
  · rw [if_neg c1] at h
    refine pv_e_bk (ps := [(13, .aload_n 0, 1), (14, .iload_n 1, 1), (15, .iload_n 2, 1)]) (t' := (0, 0, 16, [some (.ref 94), some (.int x1), some (.int x2), none], [.int x2, .int x1, .ref 94], pv_mm s T)) (by decide +kernel) rfl ?_
    obtain ⟨⟨q3, T4⟩, e2, h⟩ := Option.bind_eq_some_iff.mp h
    dsimp only at h
    refine pv_e_cvi (d := d + 2) (i := 262) (z := 124) (np := 2) (ml := 4) (ci := 6) (As := [.int x1, .int x2]) (rs := []) (pc' := 19) (by decide +kernel) rfl rfl rfl rfl (Nat.le_of_ble_eq_true rfl) (Nat.le_of_ble_eq_true rfl) rfl (ee124 (d + 0) x1 x2 e2) ?_
    refine pv_e_bk (ps := [(19, .pop, 1), (20, .iconst 0, 1), (21, .istore_n 3, 1)]) (t' := (0, 0, 22, [some (.ref 94), some (.int x1), some (.int x2), some (.int (0:Int32))], [], pv_mm s T4)) (by decide +kernel) rfl ?_
    obtain ⟨⟨w10, T11⟩, e13, h⟩ := Option.bind_eq_some_iff.mp h
    dsimp only at h
    have hx12 : f188_layBest_b1_X xs L d r s x1 x2 (w10, T11) := by
      show ∀ z3 : Option Value, pv_Ev xs L (d + 3) 188 (0, 0, 45, [some (.ref 94), some (.int x1), some (.int x2), z3], [], pv_mm s T11) r
      intro z3
      refine pv_e_bk (ps := [(45, .aload_n 0, 1)]) (t' := (0, 0, 46, [some (.ref 94), some (.int x1), some (.int x2), z3], [.ref 94], pv_mm s T11)) (by decide +kernel) rfl ?_
      refine pv_e_gm (i := 252) (ci := 6) (j := 30) (pc' := 49) (by decide +kernel) (by decide) rfl rfl rfl ?_
      obtain rfl := Option.some.inj h
      cases hr
      exact pv_e_ri (by decide +kernel)
    exact pv_lq_ok (H := f188_layBest_b1_H xs L d r s x1 x2) (X := f188_layBest_b1_X xs L d r s x1 x2) (f188_layBest_b1_ok (xs := xs) (L := L) (d := d) (r := r) (s := s) (v1 := x1) (v2 := x2)) 20000 _ _ e13 hx12
def f189_order (x1 : Int32) (x2 : Int32) (T : pv_T) : Option (Int32 × pv_T) :=
  (f118_isRow x2).bind fun q2 =>
  if q2 = 0 then
    some ((-1:Int32), T)
  else
    (f182_askedCalls x1 (6:Int32) T).bind fun (q5, T6) =>
    if 0 ≤ q5 then
      (pv_pm T6 94 30 (1048576:Int32)).bind fun T8 =>
      (f183_missed T8).bind fun q11 =>
      (pv_pm T8 94 31 q11).bind fun T12 =>
      (pv_rd T12.1 96 6 x1).bind fun q14 =>
      (f187_orderOn 8 x1 (0:Int32) (((1:Int32) <<< (q14 &&& 31)) - (1:Int32)) T12).bind fun T17 =>
      (pv_rd T17.1 96 6 x1).bind fun q18 =>
      (f188_layBest x2 q18 T17).bind fun (q21, T22) =>
      some (q21, T22)
    else
      some (q5, T6)
theorem ee189 {xs : Nat → Int32} {L : Nat} (d : Nat) (x1 : Int32) (x2 : Int32) {s : pv_F} {T : pv_T} {q : Int32 × pv_T}  (h : f189_order x1 x2 T = some q) : pv_Ev xs L (d + 14) 189 (0, 0, 0, [some (.ref 94), some (.int x1), some (.int x2), none], [], pv_mm s T) (some (.int q.1), pv_mm s q.2) := by
  generalize hr : ((some (.int q.1), pv_mm s q.2) : Option Value × pv_M) = r
  unfold f189_order at h
  refine pv_e_bk (ps := [(0, .iload_n 2, 1)]) (t' := (0, 0, 1, [some (.ref 94), some (.int x1), some (.int x2), none], [.int x2], pv_mm s T)) (by decide +kernel) rfl ?_
  obtain ⟨q2, e1, h⟩ := Option.bind_eq_some_iff.mp h
  refine pv_e_csi (d := d + 13) (i := 87) (z := 118) (np := 1) (ml := 1) (As := [.int x2]) (rs := []) (pc' := 4) (by decide +kernel) rfl rfl rfl (Nat.le_of_ble_eq_true rfl) (Nat.le_of_ble_eq_true rfl) rfl (ee118 (d + 12) x2 e1) ?_
  refine pv_e_ifne (off := 5) (b := 9) (pc' := 7) (by decide +kernel) (by decide +kernel) rfl (fun c3 => ?_) (fun c3 => ?_)
  · rw [if_pos c3] at h
    refine pv_e_bk (ps := [(7, .iconst (-1), 1)]) (t' := (0, 0, 8, [some (.ref 94), some (.int x1), some (.int x2), none], [.int (-1:Int32)], pv_mm s T)) (by decide +kernel) rfl ?_
    obtain rfl := Option.some.inj h
    cases hr
    exact pv_e_ri (by decide +kernel)
  · rw [if_neg c3] at h
    refine pv_e_bk (ps := [(9, .aload_n 0, 1), (10, .iload_n 1, 1), (11, .bipush 6, 2)]) (t' := (0, 0, 13, [some (.ref 94), some (.int x1), some (.int x2), none], [.int (6:Int32), .int x1, .ref 94], pv_mm s T)) (by decide +kernel) rfl ?_
    obtain ⟨⟨q5, T6⟩, e4, h⟩ := Option.bind_eq_some_iff.mp h
    dsimp only at h
    refine pv_e_cvi (d := d + 13) (i := 240) (z := 182) (np := 2) (ml := 5) (ci := 6) (As := [.int x1, .int (6:Int32)]) (rs := []) (pc' := 16) (by decide +kernel) rfl rfl rfl rfl (Nat.le_of_ble_eq_true rfl) (Nat.le_of_ble_eq_true rfl) rfl (ee182 (d + 10) x1 (6:Int32) e4) ?_
    refine pv_e_bk (ps := [(16, .istore_n 3, 1), (17, .iload_n 3, 1)]) (t' := (0, 0, 18, [some (.ref 94), some (.int x1), some (.int x2), some (.int q5)], [.int q5], pv_mm s T6)) (by decide +kernel) rfl ?_
    refine pv_e_ifge (off := 5) (b := 23) (pc' := 21) (by decide +kernel) (by decide +kernel) rfl (fun c7 => ?_) (fun c7 => ?_)
    · rw [if_pos c7] at h
      refine pv_e_bk (ps := [(23, .aload_n 0, 1), (24, .ldc_w 261, 3)]) (t' := (0, 0, 27, [some (.ref 94), some (.int x1), some (.int x2), some (.int q5)], [.int (1048576:Int32), .ref 94], pv_mm s T6)) (by decide +kernel) rfl ?_
      obtain ⟨T8, e9, h⟩ := Option.bind_eq_some_iff.mp h
      refine pv_e_pms (i := 252) (ci := 6) (j := 30) (pc' := 30) (by decide +kernel) rfl rfl (by decide) rfl rfl e9 rfl ?_
      refine pv_e_bk (ps := [(30, .aload_n 0, 1), (31, .aload_n 0, 1)]) (t' := (0, 0, 32, [some (.ref 94), some (.int x1), some (.int x2), some (.int q5)], [.ref 94, .ref 94], pv_mm s T8)) (by decide +kernel) rfl ?_
      obtain ⟨q11, e10, h⟩ := Option.bind_eq_some_iff.mp h
      refine pv_e_cvi (d := d + 13) (i := 243) (z := 183) (np := 0) (ml := 3) (ci := 6) (As := []) (rs := [.ref 94]) (pc' := 35) (by decide +kernel) rfl rfl rfl rfl (Nat.le_of_ble_eq_true rfl) (Nat.le_of_ble_eq_true rfl) rfl (ee183 (d + 13) e10) ?_
      obtain ⟨T12, e13, h⟩ := Option.bind_eq_some_iff.mp h
      refine pv_e_pms (i := 249) (ci := 6) (j := 31) (pc' := 38) (by decide +kernel) rfl rfl (by decide) rfl rfl e13 rfl ?_
      refine pv_e_bk (ps := [(38, .aload_n 0, 1), (39, .iload_n 1, 1), (40, .iconst 0, 1), (41, .iconst 1, 1), (42, .aload_n 0, 1)]) (t' := (0, 0, 43, [some (.ref 94), some (.int x1), some (.int x2), some (.int q5)], [.ref 94, .int (1:Int32), .int (0:Int32), .int x1, .ref 94], pv_mm s T12)) (by decide +kernel) rfl ?_
      refine pv_e_gr (i := 13) (ci := 6) (j := 3) (b := 96) (pc' := 46) (by decide +kernel) rfl rfl rfl ?_
      refine pv_e_bk (ps := [(46, .iload_n 1, 1)]) (t' := (0, 0, 47, [some (.ref 94), some (.int x1), some (.int x2), some (.int q5)], [.int x1, .ref 96, .int (1:Int32), .int (0:Int32), .int x1, .ref 94], pv_mm s T12)) (by decide +kernel) rfl ?_
      obtain ⟨q14, e15, h⟩ := Option.bind_eq_some_iff.mp h
      refine pv_e_rm (pc' := 48) (by decide +kernel) (by decide) rfl e15 rfl ?_
      refine pv_e_bk (ps := [(48, .ishl, 1), (49, .iconst 1, 1), (50, .isub, 1)]) (t' := (0, 0, 51, [some (.ref 94), some (.int x1), some (.int x2), some (.int q5)], [.int (((1:Int32) <<< (q14 &&& 31)) - (1:Int32)), .int (0:Int32), .int x1, .ref 94], pv_mm s T12)) (by decide +kernel) rfl ?_
      obtain ⟨T17, e16, h⟩ := Option.bind_eq_some_iff.mp h
      refine pv_e_cvv (d := d + 13) (i := 258) (z := 187) (np := 3) (ml := 6) (ci := 6) (As := [.int x1, .int (0:Int32), .int (((1:Int32) <<< (q14 &&& 31)) - (1:Int32))]) (rs := []) (pc' := 54) (by decide +kernel) rfl rfl rfl rfl (Nat.le_of_ble_eq_true rfl) (Nat.le_of_ble_eq_true rfl) rfl (ee187 (d + 0) 8 x1 (0:Int32) (((1:Int32) <<< (q14 &&& 31)) - (1:Int32)) e16) ?_
      refine pv_e_bk (ps := [(54, .aload_n 0, 1), (55, .iload_n 2, 1), (56, .aload_n 0, 1)]) (t' := (0, 0, 57, [some (.ref 94), some (.int x1), some (.int x2), some (.int q5)], [.ref 94, .int x2, .ref 94], pv_mm s T17)) (by decide +kernel) rfl ?_
      refine pv_e_gr (i := 13) (ci := 6) (j := 3) (b := 96) (pc' := 60) (by decide +kernel) rfl rfl rfl ?_
      refine pv_e_bk (ps := [(60, .iload_n 1, 1)]) (t' := (0, 0, 61, [some (.ref 94), some (.int x1), some (.int x2), some (.int q5)], [.int x1, .ref 96, .int x2, .ref 94], pv_mm s T17)) (by decide +kernel) rfl ?_
      obtain ⟨q18, e19, h⟩ := Option.bind_eq_some_iff.mp h
      refine pv_e_rm (pc' := 62) (by decide +kernel) (by decide) rfl e19 rfl ?_
      obtain ⟨⟨q21, T22⟩, e20, h⟩ := Option.bind_eq_some_iff.mp h
      dsimp only at h
      refine pv_e_cvi (d := d + 13) (i := 265) (z := 188) (np := 2) (ml := 4) (ci := 6) (As := [.int x2, .int q18]) (rs := []) (pc' := 65) (by decide +kernel) rfl rfl rfl rfl (Nat.le_of_ble_eq_true rfl) (Nat.le_of_ble_eq_true rfl) rfl (ee188 (d + 10) x2 q18 e20) ?_
      obtain rfl := Option.some.inj h
      cases hr
      exact pv_e_ri (by decide +kernel)
    · rw [if_neg c7] at h
      refine pv_e_bk (ps := [(21, .iload_n 3, 1)]) (t' := (0, 0, 22, [some (.ref 94), some (.int x1), some (.int x2), some (.int q5)], [.int q5], pv_mm s T6)) (by decide +kernel) rfl ?_
      obtain rfl := Option.some.inj h
      cases hr
      exact pv_e_ri (by decide +kernel)
def f190_callersOn_b1 (rec : Int32 → Int32 → pv_T → Option (pv_T)) (v1 : Int32) (v2 : Int32) (st : Int32 × pv_T) : Option ((Int32 × pv_T) ⊕ (Int32 × pv_T)) := match st with
  | (v3, T) =>
    if (T.1 94 8) ≤ v3 then
      some (.inr (v3, T))
    else
      (f122_rowAt v1 v2 T).bind fun q10 =>
      (f151_mayCall v3 q10 T).bind fun q12 =>
      ((
        if q12 = 0 then
          some T
        else
          (pv_wm T 113 6 v2 v3).bind fun T17 =>
          (f122_rowAt v1 v2 T17).bind fun q20 =>
          (f156_doCall v3 q20 T17).bind fun (q22, T23) =>
          (rec v1 (v2 + (1:Int32)) T23).bind fun T25 =>
          (f161_copies 112 ((78:Int32) * v2) 105 (0:Int32) T25).bind fun T27 =>
          some T27) : Option (pv_T)).bind fun T13 =>
      some (.inl (v3 + (1:Int32), T13))
def f190_callersOn_b1_H (xs : Nat → Int32) (L d : Nat) (r : Option Value × pv_M) (s : pv_F) (v1 : Int32) (v2 : Int32) (st : Int32 × pv_T) : Prop := match st with
  | (v3, T) => pv_Ev xs L (d + 6) 190 (0, 0, 34, [some (.ref 94), some (.int v1), some (.int v2), some (.int v3)], [], pv_mm s T) r
def f190_callersOn_b1_X (xs : Nat → Int32) (L d : Nat) (r : Option Value × pv_M) (s : pv_F) (v1 : Int32) (v2 : Int32) (st : Int32 × pv_T) : Prop := match st with
  | (v3, T) => ∀ z3 : Option Value, pv_Ev xs L (d + 6) 190 (0, 0, 105, [some (.ref 94), some (.int v1), some (.int v2), z3], [], pv_mm s T) r
def f190_callersOn_s (rec : Int32 → Int32 → pv_T → Option (pv_T)) (x1 : Int32) (x2 : Int32) (T : pv_T) : Option (pv_T) :=
  (pv_rd T.1 96 6 x1).bind fun q1 =>
  if x2 = q1 then
    (f186_meetLaid x2 T).bind fun T5 =>
    some T5
  else
    (f161_copies 105 (0:Int32) 112 ((78:Int32) * x2) T).bind fun T7 =>
    (pv_lq (f190_callersOn_b1 rec x1 x2) 20000 ((0:Int32), T7)).bind fun (w28, T29) =>
    some T29
def f190_callersOn : Nat → Int32 → Int32 → pv_T → Option (pv_T)
  | 0 => fun _ _ _ => none
  | n + 1 => fun x1 x2 T => f190_callersOn_s (f190_callersOn n) x1 x2 T
theorem f190_callersOn_b1_ok {xs : Nat → Int32} {L d : Nat} {r : Option Value × pv_M} {rec : Int32 → Int32 → pv_T → Option (pv_T)} {s : pv_F} {v1 : Int32} {v2 : Int32} (hrec : ∀ (x1 : Int32) (x2 : Int32) (T : pv_T) (q : pv_T), rec x1 x2 T = some q → pv_Ev xs L (d + 5) 190 (0, 0, 0, [some (.ref 94), some (.int x1), some (.int x2), none], [], pv_mm s T) (none, pv_mm s q)) (st : Int32 × pv_T) (o : (Int32 × pv_T) ⊕ (Int32 × pv_T)) (h : f190_callersOn_b1 rec v1 v2 st = some o) (hK : pv_Kq (f190_callersOn_b1_H xs L d r s v1 v2) (f190_callersOn_b1_X xs L d r s v1 v2) o) : f190_callersOn_b1_H xs L d r s v1 v2 st := by
  obtain ⟨v3, T⟩ := st
  show pv_Ev xs L (d + 6) 190 (0, 0, 34, [some (.ref 94), some (.int v1), some (.int v2), some (.int v3)], [], pv_mm s T) r
  unfold f190_callersOn_b1 at h
  dsimp only at h
  refine pv_e_bk (ps := [(34, .iload_n 3, 1), (35, .aload_n 0, 1)]) (t' := (0, 0, 36, [some (.ref 94), some (.int v1), some (.int v2), some (.int v3)], [.ref 94, .int v3], pv_mm s T)) (by decide +kernel) rfl ?_
  refine pv_e_gm (i := 136) (ci := 6) (j := 8) (pc' := 39) (by decide +kernel) (by decide) rfl rfl rfl ?_
  refine pv_e_icmpge (off := 66) (b := 105) (pc' := 42) (by decide +kernel) (by decide +kernel) rfl (fun c8 => ?_) (fun c8 => ?_)
  · rw [if_pos c8] at h
    obtain rfl := Option.some.inj h
    exact hK _
  · rw [if_neg c8] at h
    refine pv_e_bk (ps := [(42, .aload_n 0, 1), (43, .iload_n 3, 1), (44, .aload_n 0, 1), (45, .iload_n 1, 1), (46, .iload_n 2, 1)]) (t' := (0, 0, 47, [some (.ref 94), some (.int v1), some (.int v2), some (.int v3)], [.int v2, .int v1, .ref 94, .int v3, .ref 94], pv_mm s T)) (by decide +kernel) rfl ?_
    obtain ⟨q10, e9, h⟩ := Option.bind_eq_some_iff.mp h
    refine pv_e_cvi (d := d + 5) (i := 105) (z := 122) (np := 2) (ml := 3) (ci := 6) (As := [.int v1, .int v2]) (rs := [.int v3, .ref 94]) (pc' := 50) (by decide +kernel) rfl rfl rfl rfl (Nat.le_of_ble_eq_true rfl) (Nat.le_of_ble_eq_true rfl) rfl (ee122 (d + 5) v1 v2 e9) ?_
    obtain ⟨q12, e11, h⟩ := Option.bind_eq_some_iff.mp h
    refine pv_e_cvi (d := d + 5) (i := 161) (z := 151) (np := 2) (ml := 3) (ci := 6) (As := [.int v3, .int q10]) (rs := []) (pc' := 53) (by decide +kernel) rfl rfl rfl rfl (Nat.le_of_ble_eq_true rfl) (Nat.le_of_ble_eq_true rfl) rfl (ee151 (d + 4) v3 q10 e11) ?_
    obtain ⟨T13, hv14, h⟩ := Option.bind_eq_some_iff.mp h
    have hJ15 : pv_Ev xs L (d + 6) 190 (0, 0, 99, [some (.ref 94), some (.int v1), some (.int v2), some (.int v3)], [], pv_mm s T13) r := by
      refine pv_e_bk (ps := [(99, .iinc 3 1, 3), (102, .goto (-68), 3)]) (t' := (0, 0, 34, [some (.ref 94), some (.int v1), some (.int v2), some (.int (v3 + (1:Int32)))], [], pv_mm s T13)) (by decide +kernel) rfl ?_
      obtain rfl := Option.some.inj h
      exact hK
    clear h
    have h := hv14
    clear hv14
    refine pv_e_ifeq (off := 46) (b := 99) (pc' := 56) (by decide +kernel) (by decide +kernel) rfl (fun c16 => ?_) (fun c16 => ?_)
    · rw [if_pos c16] at h
      obtain rfl := Option.some.inj h
      exact hJ15
    · rw [if_neg c16] at h
      refine pv_e_bk (ps := [(56, .aload_n 0, 1)]) (t' := (0, 0, 57, [some (.ref 94), some (.int v1), some (.int v2), some (.int v3)], [.ref 94], pv_mm s T)) (by decide +kernel) rfl ?_
      refine pv_e_gr (i := 68) (ci := 6) (j := 28) (b := 113) (pc' := 60) (by decide +kernel) rfl rfl rfl ?_
      refine pv_e_bk (ps := [(60, .iload_n 2, 1), (61, .iload_n 3, 1)]) (t' := (0, 0, 62, [some (.ref 94), some (.int v1), some (.int v2), some (.int v3)], [.int v3, .int v2, .ref 113], pv_mm s T)) (by decide +kernel) rfl ?_
      obtain ⟨T17, e18, h⟩ := Option.bind_eq_some_iff.mp h
      refine pv_e_wm (pc' := 63) (by decide +kernel) (by decide) rfl e18 rfl ?_
      refine pv_e_bk (ps := [(63, .aload_n 0, 1), (64, .iload_n 3, 1), (65, .aload_n 0, 1), (66, .iload_n 1, 1), (67, .iload_n 2, 1)]) (t' := (0, 0, 68, [some (.ref 94), some (.int v1), some (.int v2), some (.int v3)], [.int v2, .int v1, .ref 94, .int v3, .ref 94], pv_mm s T17)) (by decide +kernel) rfl ?_
      obtain ⟨q20, e19, h⟩ := Option.bind_eq_some_iff.mp h
      refine pv_e_cvi (d := d + 5) (i := 105) (z := 122) (np := 2) (ml := 3) (ci := 6) (As := [.int v1, .int v2]) (rs := [.int v3, .ref 94]) (pc' := 71) (by decide +kernel) rfl rfl rfl rfl (Nat.le_of_ble_eq_true rfl) (Nat.le_of_ble_eq_true rfl) rfl (ee122 (d + 5) v1 v2 e19) ?_
      obtain ⟨⟨q22, T23⟩, e21, h⟩ := Option.bind_eq_some_iff.mp h
      dsimp only at h
      refine pv_e_cvi (d := d + 5) (i := 199) (z := 156) (np := 2) (ml := 5) (ci := 6) (As := [.int v3, .int q20]) (rs := []) (pc' := 74) (by decide +kernel) rfl rfl rfl rfl (Nat.le_of_ble_eq_true rfl) (Nat.le_of_ble_eq_true rfl) rfl (ee156 (d + 1) v3 q20 e21) ?_
      refine pv_e_bk (ps := [(74, .pop, 1), (75, .aload_n 0, 1), (76, .iload_n 1, 1), (77, .iload_n 2, 1), (78, .iconst 1, 1), (79, .iadd, 1)]) (t' := (0, 0, 80, [some (.ref 94), some (.int v1), some (.int v2), some (.int v3)], [.int (v2 + (1:Int32)), .int v1, .ref 94], pv_mm s T23)) (by decide +kernel) rfl ?_
      obtain ⟨T25, e24, h⟩ := Option.bind_eq_some_iff.mp h
      refine pv_e_cvv (d := d + 5) (i := 268) (z := 190) (np := 2) (ml := 4) (ci := 6) (As := [.int v1, .int (v2 + (1:Int32))]) (rs := []) (pc' := 83) (by decide +kernel) rfl rfl rfl rfl (Nat.le_of_ble_eq_true rfl) (Nat.le_of_ble_eq_true rfl) rfl (hrec v1 (v2 + (1:Int32)) T23 _ e24) ?_
      refine pv_e_bk (ps := [(83, .aload_n 0, 1)]) (t' := (0, 0, 84, [some (.ref 94), some (.int v1), some (.int v2), some (.int v3)], [.ref 94], pv_mm s T25)) (by decide +kernel) rfl ?_
      refine pv_e_gr (i := 65) (ci := 6) (j := 27) (b := 112) (pc' := 87) (by decide +kernel) rfl rfl rfl ?_
      refine pv_e_bk (ps := [(87, .bipush 78, 2), (89, .iload_n 2, 1), (90, .imul, 1), (91, .aload_n 0, 1)]) (t' := (0, 0, 92, [some (.ref 94), some (.int v1), some (.int v2), some (.int v3)], [.ref 94, .int ((78:Int32) * v2), .ref 112], pv_mm s T25)) (by decide +kernel) rfl ?_
      refine pv_e_gr (i := 44) (ci := 6) (j := 17) (b := 105) (pc' := 95) (by decide +kernel) rfl rfl rfl ?_
      refine pv_e_bk (ps := [(95, .iconst 0, 1)]) (t' := (0, 0, 96, [some (.ref 94), some (.int v1), some (.int v2), some (.int v3)], [.int (0:Int32), .ref 105, .int ((78:Int32) * v2), .ref 112], pv_mm s T25)) (by decide +kernel) rfl ?_
      obtain ⟨T27, e26, h⟩ := Option.bind_eq_some_iff.mp h
      refine pv_e_csv (d := d + 5) (i := 202) (z := 161) (np := 4) (ml := 5) (As := [.ref 112, .int ((78:Int32) * v2), .ref 105, .int (0:Int32)]) (rs := []) (pc' := 99) (by decide +kernel) rfl rfl rfl (Nat.le_of_ble_eq_true rfl) (Nat.le_of_ble_eq_true rfl) rfl (ee161 (d + 5) 112 ((78:Int32) * v2) 105 (0:Int32) (by decide) (by decide) e26) ?_
      obtain rfl := Option.some.inj h
      exact hJ15
theorem ee190_s {xs : Nat → Int32} {L d : Nat} {rec : Int32 → Int32 → pv_T → Option (pv_T)} {x1 : Int32} {x2 : Int32} {s : pv_F} {T : pv_T} {q : pv_T} (hrec : ∀ (x1 : Int32) (x2 : Int32) (T : pv_T) (q : pv_T), rec x1 x2 T = some q → pv_Ev xs L (d + 5) 190 (0, 0, 0, [some (.ref 94), some (.int x1), some (.int x2), none], [], pv_mm s T) (none, pv_mm s q))  (h : f190_callersOn_s rec x1 x2 T = some q) : pv_Ev xs L (d + 6) 190 (0, 0, 0, [some (.ref 94), some (.int x1), some (.int x2), none], [], pv_mm s T) (none, pv_mm s q) := by
  generalize hr : ((none, pv_mm s q) : Option Value × pv_M) = r
  unfold f190_callersOn_s at h
  refine pv_e_bk (ps := [(0, .iload_n 2, 1), (1, .aload_n 0, 1)]) (t' := (0, 0, 2, [some (.ref 94), some (.int x1), some (.int x2), none], [.ref 94, .int x2], pv_mm s T)) (by decide +kernel) rfl ?_
  refine pv_e_gr (i := 13) (ci := 6) (j := 3) (b := 96) (pc' := 5) (by decide +kernel) rfl rfl rfl ?_
  refine pv_e_bk (ps := [(5, .iload_n 1, 1)]) (t' := (0, 0, 6, [some (.ref 94), some (.int x1), some (.int x2), none], [.int x1, .ref 96, .int x2], pv_mm s T)) (by decide +kernel) rfl ?_
  obtain ⟨q1, e2, h⟩ := Option.bind_eq_some_iff.mp h
  refine pv_e_rm (pc' := 7) (by decide +kernel) (by decide) rfl e2 rfl ?_
  refine pv_e_icmpne (off := 9) (b := 16) (pc' := 10) (by decide +kernel) (by decide +kernel) rfl (fun c3 => ?_) (fun c3 => ?_)
  · rw [if_pos c3] at h
    refine pv_e_bk (ps := [(10, .aload_n 0, 1), (11, .iload_n 2, 1)]) (t' := (0, 0, 12, [some (.ref 94), some (.int x1), some (.int x2), none], [.int x2, .ref 94], pv_mm s T)) (by decide +kernel) rfl ?_
    obtain ⟨T5, e4, h⟩ := Option.bind_eq_some_iff.mp h
    refine pv_e_cvv (d := d + 5) (i := 255) (z := 186) (np := 1) (ml := 4) (ci := 6) (As := [.int x2]) (rs := []) (pc' := 15) (by decide +kernel) rfl rfl rfl rfl (Nat.le_of_ble_eq_true rfl) (Nat.le_of_ble_eq_true rfl) rfl (ee186 (d + 4) x2 e4) ?_
    obtain rfl := Option.some.inj h
    cases hr
    exact pv_e_rv (by decide +kernel)
  · rw [if_neg c3] at h
    refine pv_e_bk (ps := [(16, .aload_n 0, 1)]) (t' := (0, 0, 17, [some (.ref 94), some (.int x1), some (.int x2), none], [.ref 94], pv_mm s T)) (by decide +kernel) rfl ?_
    refine pv_e_gr (i := 44) (ci := 6) (j := 17) (b := 105) (pc' := 20) (by decide +kernel) rfl rfl rfl ?_
    refine pv_e_bk (ps := [(20, .iconst 0, 1), (21, .aload_n 0, 1)]) (t' := (0, 0, 22, [some (.ref 94), some (.int x1), some (.int x2), none], [.ref 94, .int (0:Int32), .ref 105], pv_mm s T)) (by decide +kernel) rfl ?_
    refine pv_e_gr (i := 65) (ci := 6) (j := 27) (b := 112) (pc' := 25) (by decide +kernel) rfl rfl rfl ?_
    refine pv_e_bk (ps := [(25, .bipush 78, 2), (27, .iload_n 2, 1), (28, .imul, 1)]) (t' := (0, 0, 29, [some (.ref 94), some (.int x1), some (.int x2), none], [.int ((78:Int32) * x2), .ref 112, .int (0:Int32), .ref 105], pv_mm s T)) (by decide +kernel) rfl ?_
    obtain ⟨T7, e6, h⟩ := Option.bind_eq_some_iff.mp h
    refine pv_e_csv (d := d + 5) (i := 202) (z := 161) (np := 4) (ml := 5) (As := [.ref 105, .int (0:Int32), .ref 112, .int ((78:Int32) * x2)]) (rs := []) (pc' := 32) (by decide +kernel) rfl rfl rfl (Nat.le_of_ble_eq_true rfl) (Nat.le_of_ble_eq_true rfl) rfl (ee161 (d + 5) 105 (0:Int32) 112 ((78:Int32) * x2) (by decide) (by decide) e6) ?_
    refine pv_e_bk (ps := [(32, .iconst 0, 1), (33, .istore_n 3, 1)]) (t' := (0, 0, 34, [some (.ref 94), some (.int x1), some (.int x2), some (.int (0:Int32))], [], pv_mm s T7)) (by decide +kernel) rfl ?_
    obtain ⟨⟨w28, T29⟩, e31, h⟩ := Option.bind_eq_some_iff.mp h
    dsimp only at h
    have hx30 : f190_callersOn_b1_X xs L d r s x1 x2 (w28, T29) := by
      show ∀ z3 : Option Value, pv_Ev xs L (d + 6) 190 (0, 0, 105, [some (.ref 94), some (.int x1), some (.int x2), z3], [], pv_mm s T29) r
      intro z3
      obtain rfl := Option.some.inj h
      cases hr
      exact pv_e_rv (by decide +kernel)
    exact pv_lq_ok (H := f190_callersOn_b1_H xs L d r s x1 x2) (X := f190_callersOn_b1_X xs L d r s x1 x2) (f190_callersOn_b1_ok (xs := xs) (L := L) (d := d) (r := r) (s := s) (v1 := x1) (v2 := x2) hrec) 20000 _ _ e31 hx30
theorem ee190 {xs : Nat → Int32} {L : Nat} (d : Nat) : ∀ (n : Nat) (x1 : Int32) (x2 : Int32) {s : pv_F} {T : pv_T} {q : pv_T}  (h : f190_callersOn n x1 x2 T = some q), pv_Ev xs L (d + n + 5) 190 (0, 0, 0, [some (.ref 94), some (.int x1), some (.int x2), none], [], pv_mm s T) (none, pv_mm s q) := by
  intro n
  induction n with
  | zero => intros; next h => cases h
  | succ n ih =>
    intro x1 x2 s T q h
    exact ee190_s (d := d + n) (fun x1 x2 T q h => ih x1 x2 h)  h
