-- printed by wip/whole/gen/parts.py: methods as functions over the ints of the memory, and that the pure machine runs so
def f108_callsFinding_b1 (v1 : Nat) (s : pv_F) (st : Int32) : Option (Int32 ⊕ (Int32 ⊕ Int32)) := match st with
  | v4 =>
    if (s v1 2) ≤ v4 then
      some (.inr (.inl v4))
    else
      (pv_rd s (v1 + 1) (pv_an (v1 + 1)) v4).bind fun q5 =>
      (pv_dv q5 (100:Int32)).bind fun q7 =>
      (pv_rd s (v1 + 1) (pv_an (v1 + 1)) v4).bind fun q9 =>
      (pv_rmd q9 (100:Int32)).bind fun q11 =>
      (f103_isPair q7 q11 s).bind fun q14 =>
      if q14 = 0 then
        some (.inr (.inr (3:Int32)))
      else
        some (.inl (v4 + (1:Int32)))
def f108_callsFinding_b1_H (xs : Nat → Int32) (L d : Nat) (r : Option Value × pv_M) (T : pv_T) (v1 : Nat) (s : pv_F) (v2 : Int32) (v3 : Int32) (st : Int32) : Prop := match st with
  | v4 => pv_Ev xs L (d + 2) 108 (0, 0, 18, [some (.ref 0), some (.ref v1), some (.int v2), some (.int v3), some (.int v4)], [], pv_mm s T) r
def f108_callsFinding_b1_X (xs : Nat → Int32) (L d : Nat) (r : Option Value × pv_M) (T : pv_T) (v1 : Nat) (s : pv_F) (v2 : Int32) (v3 : Int32) (st : Int32) : Prop := match st with
  | v4 => ∀ z4 : Option Value, pv_Ev xs L (d + 2) 108 (0, 0, 62, [some (.ref 0), some (.ref v1), some (.int v2), some (.int v3), z4], [], pv_mm s T) r
def f108_callsFinding (x1 : Nat) (x2 : Int32) (s : pv_F) : Option (Int32) :=
  (f107_numbersFinding x1 x2 (700:Int32) s).bind fun q2 =>
  if q2 = 0 then
    (pv_lp (f108_callsFinding_b1 x1 s) 20000 (0:Int32)).bind fun o19 => match o19 with
      | .inl w16 =>
        some (0:Int32)
      | .inr q => some q
  else
    some q2
theorem f108_callsFinding_b1_ok {xs : Nat → Int32} {L d : Nat} {r : Option Value × pv_M} {T : pv_T} {v1 : Nat} {s : pv_F} {v2 : Int32} {v3 : Int32} (g1 : v1 ∈ pv_rows) (st : Int32) (o : Int32 ⊕ (Int32 ⊕ Int32)) (h : f108_callsFinding_b1 v1 s st = some o) (hK : pv_Kp (f108_callsFinding_b1_H xs L d r T v1 s v2 v3) (f108_callsFinding_b1_X xs L d r T v1 s v2 v3) (fun q => (some (.int q), pv_mm s T) = r) o) : f108_callsFinding_b1_H xs L d r T v1 s v2 v3 st := by
  obtain ⟨v4, rfl⟩ : ∃ z, z = st := ⟨st, rfl⟩
  show pv_Ev xs L (d + 2) 108 (0, 0, 18, [some (.ref 0), some (.ref v1), some (.int v2), some (.int v3), some (.int v4)], [], pv_mm s T) r
  unfold f108_callsFinding_b1 at h
  dsimp only at h
  refine pv_e_bk (ps := [(18, .iload 4, 2), (20, .aload_n 1, 1)]) (t' := (0, 0, 21, [some (.ref 0), some (.ref v1), some (.int v2), some (.int v3), some (.int v4)], [.ref v1, .int v4], pv_mm s T)) (by decide +kernel) rfl ?_
  refine pv_e_gc (i := 92) (ci := 2) (j := 2) (pc' := 24) (by decide +kernel) (by have := (rw_ g1).2.2; omega) (rw_ g1).1 rfl rfl ?_
  refine pv_e_icmpge (off := 38) (b := 62) (pc' := 27) (by decide +kernel) (by decide +kernel) rfl (fun c4 => ?_) (fun c4 => ?_)
  · rw [if_pos c4] at h
    obtain rfl := Option.some.inj h
    exact hK _
  · rw [if_neg c4] at h
    refine pv_e_bk (ps := [(27, .aload_n 0, 1), (28, .aload_n 1, 1)]) (t' := (0, 0, 29, [some (.ref 0), some (.ref v1), some (.int v2), some (.int v3), some (.int v4)], [.ref v1, .ref 0], pv_mm s T)) (by decide +kernel) rfl ?_
    refine pv_e_gr (i := 75) (ci := 2) (j := 0) (b := v1 + 1) (pc' := 32) (by decide +kernel) (rw_ g1).1 rfl rfl ?_
    refine pv_e_bk (ps := [(32, .iload 4, 2)]) (t' := (0, 0, 34, [some (.ref 0), some (.ref v1), some (.int v2), some (.int v3), some (.int v4)], [.int v4, .ref (v1 + 1), .ref 0], pv_mm s T)) (by decide +kernel) rfl ?_
    obtain ⟨q5, e6, h⟩ := Option.bind_eq_some_iff.mp h
    refine pv_e_rc (pc' := 35) (by decide +kernel) (rw_ g1).2.2 (rw_ g1).2.1 e6 rfl ?_
    refine pv_e_bk (ps := [(35, .bipush 100, 2)]) (t' := (0, 0, 37, [some (.ref 0), some (.ref v1), some (.int v2), some (.int v3), some (.int v4)], [.int (100:Int32), .int q5, .ref 0], pv_mm s T)) (by decide +kernel) rfl ?_
    obtain ⟨q7, e8, h⟩ := Option.bind_eq_some_iff.mp h
    refine pv_e_dv (pc' := 38) (by decide +kernel) e8 rfl ?_
    refine pv_e_bk (ps := [(38, .aload_n 1, 1)]) (t' := (0, 0, 39, [some (.ref 0), some (.ref v1), some (.int v2), some (.int v3), some (.int v4)], [.ref v1, .int q7, .ref 0], pv_mm s T)) (by decide +kernel) rfl ?_
    refine pv_e_gr (i := 75) (ci := 2) (j := 0) (b := v1 + 1) (pc' := 42) (by decide +kernel) (rw_ g1).1 rfl rfl ?_
    refine pv_e_bk (ps := [(42, .iload 4, 2)]) (t' := (0, 0, 44, [some (.ref 0), some (.ref v1), some (.int v2), some (.int v3), some (.int v4)], [.int v4, .ref (v1 + 1), .int q7, .ref 0], pv_mm s T)) (by decide +kernel) rfl ?_
    obtain ⟨q9, e10, h⟩ := Option.bind_eq_some_iff.mp h
    refine pv_e_rc (pc' := 45) (by decide +kernel) (rw_ g1).2.2 (rw_ g1).2.1 e10 rfl ?_
    refine pv_e_bk (ps := [(45, .bipush 100, 2)]) (t' := (0, 0, 47, [some (.ref 0), some (.ref v1), some (.int v2), some (.int v3), some (.int v4)], [.int (100:Int32), .int q9, .int q7, .ref 0], pv_mm s T)) (by decide +kernel) rfl ?_
    obtain ⟨q11, e12, h⟩ := Option.bind_eq_some_iff.mp h
    refine pv_e_rm_ (pc' := 48) (by decide +kernel) e12 rfl ?_
    obtain ⟨q14, e13, h⟩ := Option.bind_eq_some_iff.mp h
    refine pv_e_cvi (d := d + 1) (i := 150) (z := 103) (np := 2) (ml := 3) (ci := 5) (As := [.int q7, .int q11]) (rs := []) (pc' := 51) (by decide +kernel) rfl rfl rfl rfl (Nat.le_of_ble_eq_true rfl) (Nat.le_of_ble_eq_true rfl) rfl (ee103 (d + 0) q7 q11 e13) ?_
    refine pv_e_ifne (off := 5) (b := 56) (pc' := 54) (by decide +kernel) (by decide +kernel) rfl (fun c15 => ?_) (fun c15 => ?_)
    · rw [if_pos c15] at h
      refine pv_e_bk (ps := [(54, .iconst 3, 1)]) (t' := (0, 0, 55, [some (.ref 0), some (.ref v1), some (.int v2), some (.int v3), some (.int v4)], [.int (3:Int32)], pv_mm s T)) (by decide +kernel) rfl ?_
      obtain rfl := Option.some.inj h
      cases hK
      exact pv_e_ri (by decide +kernel)
    · rw [if_neg c15] at h
      refine pv_e_bk (ps := [(56, .iinc 4 1, 3), (59, .goto (-41), 3)]) (t' := (0, 0, 18, [some (.ref 0), some (.ref v1), some (.int v2), some (.int v3), some (.int (v4 + (1:Int32)))], [], pv_mm s T)) (by decide +kernel) rfl ?_
      obtain rfl := Option.some.inj h
      exact hK
theorem ee108 {xs : Nat → Int32} {L : Nat} (d : Nat) (x1 : Nat) (x2 : Int32) {s : pv_F} {T : pv_T} {q : Int32} (g1 : x1 ∈ pv_rows) (h : f108_callsFinding x1 x2 s = some q) : pv_Ev xs L (d + 2) 108 (0, 0, 0, [some (.ref 0), some (.ref x1), some (.int x2), none, none], [], pv_mm s T) (some (.int q), pv_mm s T) := by
  generalize hr : ((some (.int q), pv_mm s T) : Option Value × pv_M) = r
  unfold f108_callsFinding at h
  refine pv_e_bk (ps := [(0, .aload_n 1, 1), (1, .iload_n 2, 1), (2, .sipush 700, 3)]) (t' := (0, 0, 5, [some (.ref 0), some (.ref x1), some (.int x2), none, none], [.int (700:Int32), .int x2, .ref x1], pv_mm s T)) (by decide +kernel) rfl ?_
  obtain ⟨q2, e1, h⟩ := Option.bind_eq_some_iff.mp h
  refine pv_e_csi (d := d + 1) (i := 249) (z := 107) (np := 3) (ml := 4) (As := [.ref x1, .int x2, .int (700:Int32)]) (rs := []) (pc' := 8) (by decide +kernel) rfl rfl rfl (Nat.le_of_ble_eq_true rfl) (Nat.le_of_ble_eq_true rfl) rfl (ee107 (d + 1) x1 x2 (700:Int32) g1 e1) ?_
  refine pv_e_bk (ps := [(8, .istore_n 3, 1), (9, .iload_n 3, 1)]) (t' := (0, 0, 10, [some (.ref 0), some (.ref x1), some (.int x2), some (.int q2), none], [.int q2], pv_mm s T)) (by decide +kernel) rfl ?_
  refine pv_e_ifeq (off := 5) (b := 15) (pc' := 13) (by decide +kernel) (by decide +kernel) rfl (fun c3 => ?_) (fun c3 => ?_)
  · rw [if_pos c3] at h
    refine pv_e_bk (ps := [(15, .iconst 0, 1), (16, .istore 4, 2)]) (t' := (0, 0, 18, [some (.ref 0), some (.ref x1), some (.int x2), some (.int q2), some (.int (0:Int32))], [], pv_mm s T)) (by decide +kernel) rfl ?_
    obtain ⟨o19, e18, h⟩ := Option.bind_eq_some_iff.mp h
    refine pv_lp_ok (H := f108_callsFinding_b1_H xs L d r T x1 s x2 q2) (X := f108_callsFinding_b1_X xs L d r T x1 s x2 q2) (Z := (fun q => (some (.int q), pv_mm s T) = r)) (f108_callsFinding_b1_ok (xs := xs) (L := L) (d := d) (r := r) (T := T) (v1 := x1) (s := s) (v2 := x2) (v3 := q2) g1) 20000 _ _ e18 ?_
    rcases o19 with w16 | q
    · dsimp only at h ⊢
      show ∀ z4 : Option Value, pv_Ev xs L (d + 2) 108 (0, 0, 62, [some (.ref 0), some (.ref x1), some (.int x2), some (.int q2), z4], [], pv_mm s T) r
      intro z4
      refine pv_e_bk (ps := [(62, .iconst 0, 1)]) (t' := (0, 0, 63, [some (.ref 0), some (.ref x1), some (.int x2), some (.int q2), z4], [.int (0:Int32)], pv_mm s T)) (by decide +kernel) rfl ?_
      obtain rfl := Option.some.inj h
      cases hr
      exact pv_e_ri (by decide +kernel)
    · dsimp only at h ⊢
      obtain rfl := Option.some.inj h
      exact hr
  · rw [if_neg c3] at h
    refine pv_e_bk (ps := [(13, .iload_n 3, 1)]) (t' := (0, 0, 14, [some (.ref 0), some (.ref x1), some (.int x2), some (.int q2), none], [.int q2], pv_mm s T)) (by decide +kernel) rfl ?_
    obtain rfl := Option.some.inj h
    cases hr
    exact pv_e_ri (by decide +kernel)
def f82_judge (x1 : Int32) (s : pv_F) : Option (Int32 × pv_F) :=
  (f99_isRow x1).bind fun q2 =>
  if q2 = 0 then
    some ((-1:Int32), s)
  else
    (pv_ra 1 6 x1).bind fun o4 =>
    (f108_callsFinding o4 (40:Int32) s).bind fun q8 =>
    if q8 = 0 then
      (f33_from 8 (s 0 6) s).bind fun s12 =>
      (pv_ra 1 6 x1).bind fun o13 =>
      (f34_judgeCalls o13 s12).bind fun (q17, s18) =>
      (pv_pf s18 0 8 (s18 40 5)).bind fun s19 =>
      some (q17, s19)
    else
      (f104_find q8 s).bind fun (q22, s23) =>
      some (q22, s23)
theorem ee82 {xs : Nat → Int32} {L : Nat} (d : Nat) (x1 : Int32) {s : pv_F} {T : pv_T} {q : Int32 × pv_F}  (h : f82_judge x1 s = some q) : pv_Ev xs L (d + 5) 82 (0, 0, 0, [some (.ref 0), some (.int x1), none, none], [], pv_mm s T) (some (.int q.1), pv_mm q.2 T) := by
  generalize hr : ((some (.int q.1), pv_mm q.2 T) : Option Value × pv_M) = r
  unfold f82_judge at h
  refine pv_e_bk (ps := [(0, .iload_n 1, 1)]) (t' := (0, 0, 1, [some (.ref 0), some (.int x1), none, none], [.int x1], pv_mm s T)) (by decide +kernel) rfl ?_
  obtain ⟨q2, e1, h⟩ := Option.bind_eq_some_iff.mp h
  refine pv_e_csi (d := d + 4) (i := 59) (z := 99) (np := 1) (ml := 1) (As := [.int x1]) (rs := []) (pc' := 4) (by decide +kernel) rfl rfl rfl (Nat.le_of_ble_eq_true rfl) (Nat.le_of_ble_eq_true rfl) rfl (ee99 (d + 4) x1 e1) ?_
  refine pv_e_ifne (off := 5) (b := 9) (pc' := 7) (by decide +kernel) (by decide +kernel) rfl (fun c3 => ?_) (fun c3 => ?_)
  · rw [if_pos c3] at h
    refine pv_e_bk (ps := [(7, .iconst (-1), 1)]) (t' := (0, 0, 8, [some (.ref 0), some (.int x1), none, none], [.int (-1:Int32)], pv_mm s T)) (by decide +kernel) rfl ?_
    obtain rfl := Option.some.inj h
    cases hr
    exact pv_e_ri (by decide +kernel)
  · rw [if_neg c3] at h
    refine pv_e_bk (ps := [(9, .aload_n 0, 1), (10, .aload_n 0, 1)]) (t' := (0, 0, 11, [some (.ref 0), some (.int x1), none, none], [.ref 0, .ref 0], pv_mm s T)) (by decide +kernel) rfl ?_
    refine pv_e_gr (i := 11) (ci := 5) (j := 0) (b := 1) (pc' := 14) (by decide +kernel) rfl rfl rfl ?_
    refine pv_e_bk (ps := [(14, .iload_n 1, 1)]) (t' := (0, 0, 15, [some (.ref 0), some (.int x1), none, none], [.int x1, .ref 1, .ref 0], pv_mm s T)) (by decide +kernel) rfl ?_
    obtain ⟨o4, e5, h⟩ := Option.bind_eq_some_iff.mp h
    have g6 := ra_rows e5
    refine pv_e_ra (zz := 6) (pc' := 16) (by decide +kernel) rfl (by decide) e5 rfl ?_
    refine pv_e_bk (ps := [(16, .bipush 40, 2)]) (t' := (0, 0, 18, [some (.ref 0), some (.int x1), none, none], [.int (40:Int32), .ref o4, .ref 0], pv_mm s T)) (by decide +kernel) rfl ?_
    obtain ⟨q8, e7, h⟩ := Option.bind_eq_some_iff.mp h
    refine pv_e_cvi (d := d + 4) (i := 233) (z := 108) (np := 2) (ml := 5) (ci := 5) (As := [.ref o4, .int (40:Int32)]) (rs := []) (pc' := 21) (by decide +kernel) rfl rfl rfl rfl (Nat.le_of_ble_eq_true rfl) (Nat.le_of_ble_eq_true rfl) rfl (ee108 (d + 2) o4 (40:Int32) g6 e7) ?_
    refine pv_e_bk (ps := [(21, .istore_n 2, 1), (22, .iload_n 2, 1)]) (t' := (0, 0, 23, [some (.ref 0), some (.int x1), some (.int q8), none], [.int q8], pv_mm s T)) (by decide +kernel) rfl ?_
    refine pv_e_ifeq (off := 9) (b := 32) (pc' := 26) (by decide +kernel) (by decide +kernel) rfl (fun c9 => ?_) (fun c9 => ?_)
    · rw [if_pos c9] at h
      refine pv_e_bk (ps := [(32, .aload_n 0, 1)]) (t' := (0, 0, 33, [some (.ref 0), some (.int x1), some (.int q8), none], [.ref 0], pv_mm s T)) (by decide +kernel) rfl ?_
      refine pv_e_gr (i := 35) (ci := 5) (j := 4) (b := 40) (pc' := 36) (by decide +kernel) rfl rfl rfl ?_
      refine pv_e_bk (ps := [(36, .aload_n 0, 1)]) (t' := (0, 0, 37, [some (.ref 0), some (.int x1), some (.int q8), none], [.ref 0, .ref 40], pv_mm s T)) (by decide +kernel) rfl ?_
      refine pv_e_gr (i := 21) (ci := 5) (j := 2) (b := 3) (pc' := 40) (by decide +kernel) rfl rfl rfl ?_
      refine pv_e_gr (i := 109) (ci := 4) (j := 1) (b := 8) (pc' := 43) (by decide +kernel) rfl rfl rfl ?_
      refine pv_e_bk (ps := [(43, .aload_n 0, 1)]) (t' := (0, 0, 44, [some (.ref 0), some (.int x1), some (.int q8), none], [.ref 0, .ref 8, .ref 40], pv_mm s T)) (by decide +kernel) rfl ?_
      refine pv_e_gc (i := 43) (ci := 5) (j := 6) (pc' := 47) (by decide +kernel) (by decide) rfl rfl rfl ?_
      obtain ⟨s12, e10, h⟩ := Option.bind_eq_some_iff.mp h
      refine pv_e_cvf (d := d + 4) (i := 204) (z := 33) (np := 2) (ml := 4) (ci := 3) (As := [.ref 8, .int (s 0 6)]) (rs := []) (pc' := 50) (by decide +kernel) rfl rfl rfl rfl (Nat.le_of_ble_eq_true rfl) (Nat.le_of_ble_eq_true rfl) rfl (ee33 (d + 2) 8 (s 0 6) (by decide) e10) ?_
      refine pv_e_bk (ps := [(50, .pop, 1), (51, .aload_n 0, 1)]) (t' := (0, 0, 52, [some (.ref 0), some (.int x1), some (.int q8), none], [.ref 0], pv_mm s12 T)) (by decide +kernel) rfl ?_
      refine pv_e_gr (i := 35) (ci := 5) (j := 4) (b := 40) (pc' := 55) (by decide +kernel) rfl rfl rfl ?_
      refine pv_e_bk (ps := [(55, .aload_n 0, 1)]) (t' := (0, 0, 56, [some (.ref 0), some (.int x1), some (.int q8), none], [.ref 0, .ref 40], pv_mm s12 T)) (by decide +kernel) rfl ?_
      refine pv_e_gr (i := 11) (ci := 5) (j := 0) (b := 1) (pc' := 59) (by decide +kernel) rfl rfl rfl ?_
      refine pv_e_bk (ps := [(59, .iload_n 1, 1)]) (t' := (0, 0, 60, [some (.ref 0), some (.int x1), some (.int q8), none], [.int x1, .ref 1, .ref 40], pv_mm s12 T)) (by decide +kernel) rfl ?_
      obtain ⟨o13, e14, h⟩ := Option.bind_eq_some_iff.mp h
      have g15 := ra_rows e14
      refine pv_e_ra (zz := 6) (pc' := 61) (by decide +kernel) rfl (by decide) e14 rfl ?_
      obtain ⟨⟨q17, s18⟩, e16, h⟩ := Option.bind_eq_some_iff.mp h
      dsimp only at h
      refine pv_e_cvi (d := d + 4) (i := 236) (z := 34) (np := 1) (ml := 6) (ci := 3) (As := [.ref o13]) (rs := []) (pc' := 64) (by decide +kernel) rfl rfl rfl rfl (Nat.le_of_ble_eq_true rfl) (Nat.le_of_ble_eq_true rfl) rfl (ee34 (d + 0) o13 g15 e16) ?_
      refine pv_e_bk (ps := [(64, .istore_n 3, 1), (65, .aload_n 0, 1), (66, .aload_n 0, 1)]) (t' := (0, 0, 67, [some (.ref 0), some (.int x1), some (.int q8), some (.int q17)], [.ref 0, .ref 0], pv_mm s18 T)) (by decide +kernel) rfl ?_
      refine pv_e_gr (i := 35) (ci := 5) (j := 4) (b := 40) (pc' := 70) (by decide +kernel) rfl rfl rfl ?_
      refine pv_e_gc (i := 239) (ci := 3) (j := 5) (pc' := 73) (by decide +kernel) (by decide) rfl rfl rfl ?_
      obtain ⟨s19, e20, h⟩ := Option.bind_eq_some_iff.mp h
      refine pv_e_pcs (i := 50) (ci := 5) (j := 8) (pc' := 76) (by decide +kernel) rfl rfl (by decide) rfl rfl e20 rfl ?_
      refine pv_e_bk (ps := [(76, .iload_n 3, 1)]) (t' := (0, 0, 77, [some (.ref 0), some (.int x1), some (.int q8), some (.int q17)], [.int q17], pv_mm s19 T)) (by decide +kernel) rfl ?_
      obtain rfl := Option.some.inj h
      cases hr
      exact pv_e_ri (by decide +kernel)
    · rw [if_neg c9] at h
      refine pv_e_bk (ps := [(26, .aload_n 0, 1), (27, .iload_n 2, 1)]) (t' := (0, 0, 28, [some (.ref 0), some (.int x1), some (.int q8), none], [.int q8, .ref 0], pv_mm s T)) (by decide +kernel) rfl ?_
      obtain ⟨⟨q22, s23⟩, e21, h⟩ := Option.bind_eq_some_iff.mp h
      dsimp only at h
      refine pv_e_cvi (d := d + 4) (i := 63) (z := 104) (np := 1) (ml := 2) (ci := 5) (As := [.int q8]) (rs := []) (pc' := 31) (by decide +kernel) rfl rfl rfl rfl (Nat.le_of_ble_eq_true rfl) (Nat.le_of_ble_eq_true rfl) rfl (ee104 (d + 4) q8 e21) ?_
      obtain rfl := Option.some.inj h
      cases hr
      exact pv_e_ri (by decide +kernel)
def f109_fewestInto (x1 : Int32) (x2 : Int32) (s : pv_F) : Option (Int32 × pv_F) :=
  if (s 40 6) = (1000:Int32) then
    some ((-9:Int32), s)
  else
    (pv_ra 1 6 x1).bind fun o2 =>
    (f26_renew o2 x2 (0:Int32) s).bind fun s6 =>
    (pv_ra 1 6 x1).bind fun o7 =>
    (pv_cy s6 43 6 (o7 + 1) (pv_an (o7 + 1)) (0:Int32) (0:Int32) x2).bind fun s10 =>
    some (s10 40 6, s10)
theorem ee109 {xs : Nat → Int32} {L : Nat} (d : Nat) (x1 : Int32) (x2 : Int32) {s : pv_F} {T : pv_T} {q : Int32 × pv_F}  (h : f109_fewestInto x1 x2 s = some q) : pv_Ev xs L (d + 1) 109 (0, 0, 0, [some (.ref 0), some (.int x1), some (.int x2)], [], pv_mm s T) (some (.int q.1), pv_mm q.2 T) := by
  generalize hr : ((some (.int q.1), pv_mm q.2 T) : Option Value × pv_M) = r
  unfold f109_fewestInto at h
  refine pv_e_bk (ps := [(0, .aload_n 0, 1)]) (t' := (0, 0, 1, [some (.ref 0), some (.int x1), some (.int x2)], [.ref 0], pv_mm s T)) (by decide +kernel) rfl ?_
  refine pv_e_gr (i := 35) (ci := 5) (j := 4) (b := 40) (pc' := 4) (by decide +kernel) rfl rfl rfl ?_
  refine pv_e_gc (i := 331) (ci := 3) (j := 6) (pc' := 7) (by decide +kernel) (by decide) rfl rfl rfl ?_
  refine pv_e_bk (ps := [(7, .sipush 1000, 3)]) (t' := (0, 0, 10, [some (.ref 0), some (.int x1), some (.int x2)], [.int (1000:Int32), .int (s 40 6)], pv_mm s T)) (by decide +kernel) rfl ?_
  refine pv_e_icmpne (off := 6) (b := 16) (pc' := 13) (by decide +kernel) (by decide +kernel) rfl (fun c1 => ?_) (fun c1 => ?_)
  · rw [if_pos c1] at h
    refine pv_e_bk (ps := [(13, .bipush (-9), 2)]) (t' := (0, 0, 15, [some (.ref 0), some (.int x1), some (.int x2)], [.int (-9:Int32)], pv_mm s T)) (by decide +kernel) rfl ?_
    obtain rfl := Option.some.inj h
    cases hr
    exact pv_e_ri (by decide +kernel)
  · rw [if_neg c1] at h
    refine pv_e_bk (ps := [(16, .aload_n 0, 1)]) (t' := (0, 0, 17, [some (.ref 0), some (.int x1), some (.int x2)], [.ref 0], pv_mm s T)) (by decide +kernel) rfl ?_
    refine pv_e_gr (i := 11) (ci := 5) (j := 0) (b := 1) (pc' := 20) (by decide +kernel) rfl rfl rfl ?_
    refine pv_e_bk (ps := [(20, .iload_n 1, 1)]) (t' := (0, 0, 21, [some (.ref 0), some (.int x1), some (.int x2)], [.int x1, .ref 1], pv_mm s T)) (by decide +kernel) rfl ?_
    obtain ⟨o2, e3, h⟩ := Option.bind_eq_some_iff.mp h
    have g4 := ra_rows e3
    refine pv_e_ra (zz := 6) (pc' := 22) (by decide +kernel) rfl (by decide) e3 rfl ?_
    refine pv_e_bk (ps := [(22, .iload_n 2, 1), (23, .iconst 0, 1)]) (t' := (0, 0, 24, [some (.ref 0), some (.int x1), some (.int x2)], [.int (0:Int32), .int x2, .ref o2], pv_mm s T)) (by decide +kernel) rfl ?_
    obtain ⟨s6, e5, h⟩ := Option.bind_eq_some_iff.mp h
    refine pv_e_cvv (d := d + 0) (i := 67) (z := 26) (np := 2) (ml := 4) (ci := 2) (As := [.int x2, .int (0:Int32)]) (rs := []) (pc' := 27) (by decide +kernel) (rw_ g4).1 rfl rfl rfl (Nat.le_of_ble_eq_true rfl) (Nat.le_of_ble_eq_true rfl) rfl (ee26 (d + 0) o2 x2 (0:Int32) g4 e5) ?_
    refine pv_e_bk (ps := [(27, .aload_n 0, 1)]) (t' := (0, 0, 28, [some (.ref 0), some (.int x1), some (.int x2)], [.ref 0], pv_mm s6 T)) (by decide +kernel) rfl ?_
    refine pv_e_gr (i := 35) (ci := 5) (j := 4) (b := 40) (pc' := 31) (by decide +kernel) rfl rfl rfl ?_
    refine pv_e_gr (i := 334) (ci := 3) (j := 2) (b := 43) (pc' := 34) (by decide +kernel) rfl rfl rfl ?_
    refine pv_e_bk (ps := [(34, .iconst 0, 1), (35, .aload_n 0, 1)]) (t' := (0, 0, 36, [some (.ref 0), some (.int x1), some (.int x2)], [.ref 0, .int (0:Int32), .ref 43], pv_mm s6 T)) (by decide +kernel) rfl ?_
    refine pv_e_gr (i := 11) (ci := 5) (j := 0) (b := 1) (pc' := 39) (by decide +kernel) rfl rfl rfl ?_
    refine pv_e_bk (ps := [(39, .iload_n 1, 1)]) (t' := (0, 0, 40, [some (.ref 0), some (.int x1), some (.int x2)], [.int x1, .ref 1, .int (0:Int32), .ref 43], pv_mm s6 T)) (by decide +kernel) rfl ?_
    obtain ⟨o7, e8, h⟩ := Option.bind_eq_some_iff.mp h
    have g9 := ra_rows e8
    refine pv_e_ra (zz := 6) (pc' := 41) (by decide +kernel) rfl (by decide) e8 rfl ?_
    refine pv_e_gr (i := 75) (ci := 2) (j := 0) (b := o7 + 1) (pc' := 44) (by decide +kernel) (rw_ g9).1 rfl rfl ?_
    refine pv_e_bk (ps := [(44, .iconst 0, 1), (45, .iload_n 2, 1)]) (t' := (0, 0, 46, [some (.ref 0), some (.int x1), some (.int x2)], [.int x2, .int (0:Int32), .ref (o7 + 1), .int (0:Int32), .ref 43], pv_mm s6 T)) (by decide +kernel) rfl ?_
    obtain ⟨s10, e11, h⟩ := Option.bind_eq_some_iff.mp h
    refine pv_e_cy (i := 86) (pc' := 49) (by decide +kernel) (Nat.le_add_left 1 _) (by decide) (rw_ g9).2.2 rfl (rw_ g9).2.1 (Nat.le_of_ble_eq_true rfl) e11 rfl ?_
    refine pv_e_bk (ps := [(49, .aload_n 0, 1)]) (t' := (0, 0, 50, [some (.ref 0), some (.int x1), some (.int x2)], [.ref 0], pv_mm s10 T)) (by decide +kernel) rfl ?_
    refine pv_e_gr (i := 35) (ci := 5) (j := 4) (b := 40) (pc' := 53) (by decide +kernel) rfl rfl rfl ?_
    refine pv_e_gc (i := 331) (ci := 3) (j := 6) (pc' := 56) (by decide +kernel) (by decide) rfl rfl rfl ?_
    obtain rfl := Option.some.inj h
    cases hr
    exact pv_e_ri (by decide +kernel)
def f83_order (x1 : Int32) (x2 : Int32) (s : pv_F) : Option (Int32 × pv_F) :=
  (f99_isRow x1).bind fun q2 =>
  if q2 = 0 then
    some ((-1:Int32), s)
  else
    (f99_isRow x2).bind fun q5 =>
    if q5 = 0 then
      some ((-1:Int32), s)
    else
      (pv_ra 1 6 x1).bind fun o7 =>
      (f108_callsFinding o7 (6:Int32) s).bind fun q11 =>
      if q11 = 0 then
        (f33_from 8 (s 0 6) s).bind fun s15 =>
        (pv_ra 1 6 x1).bind fun o16 =>
        (f37_seekOrder 8 o16 (0:Int32) (0:Int32) (0:Int32) s15).bind fun s20 =>
        (pv_ra 1 6 x1).bind fun o21 =>
        (f109_fewestInto x2 (s20 o21 2) s20).bind fun (q25, s26) =>
        some (q25, s26)
      else
        (f104_find q11 s).bind fun (q28, s29) =>
        some (q28, s29)
theorem ee83 {xs : Nat → Int32} {L : Nat} (d : Nat) (x1 : Int32) (x2 : Int32) {s : pv_F} {T : pv_T} {q : Int32 × pv_F}  (h : f83_order x1 x2 s = some q) : pv_Ev xs L (d + 14) 83 (0, 0, 0, [some (.ref 0), some (.int x1), some (.int x2), none], [], pv_mm s T) (some (.int q.1), pv_mm q.2 T) := by
  generalize hr : ((some (.int q.1), pv_mm q.2 T) : Option Value × pv_M) = r
  unfold f83_order at h
  refine pv_e_bk (ps := [(0, .iload_n 1, 1)]) (t' := (0, 0, 1, [some (.ref 0), some (.int x1), some (.int x2), none], [.int x1], pv_mm s T)) (by decide +kernel) rfl ?_
  obtain ⟨q2, e1, h⟩ := Option.bind_eq_some_iff.mp h
  refine pv_e_csi (d := d + 13) (i := 59) (z := 99) (np := 1) (ml := 1) (As := [.int x1]) (rs := []) (pc' := 4) (by decide +kernel) rfl rfl rfl (Nat.le_of_ble_eq_true rfl) (Nat.le_of_ble_eq_true rfl) rfl (ee99 (d + 13) x1 e1) ?_
  refine pv_e_ifeq (off := 10) (b := 14) (pc' := 7) (by decide +kernel) (by decide +kernel) rfl (fun c3 => ?_) (fun c3 => ?_)
  · rw [if_pos c3] at h
    refine pv_e_bk (ps := [(14, .iconst (-1), 1)]) (t' := (0, 0, 15, [some (.ref 0), some (.int x1), some (.int x2), none], [.int (-1:Int32)], pv_mm s T)) (by decide +kernel) rfl ?_
    obtain rfl := Option.some.inj h
    cases hr
    exact pv_e_ri (by decide +kernel)
  · rw [if_neg c3] at h
    refine pv_e_bk (ps := [(7, .iload_n 2, 1)]) (t' := (0, 0, 8, [some (.ref 0), some (.int x1), some (.int x2), none], [.int x2], pv_mm s T)) (by decide +kernel) rfl ?_
    obtain ⟨q5, e4, h⟩ := Option.bind_eq_some_iff.mp h
    refine pv_e_csi (d := d + 13) (i := 59) (z := 99) (np := 1) (ml := 1) (As := [.int x2]) (rs := []) (pc' := 11) (by decide +kernel) rfl rfl rfl (Nat.le_of_ble_eq_true rfl) (Nat.le_of_ble_eq_true rfl) rfl (ee99 (d + 13) x2 e4) ?_
    refine pv_e_ifne (off := 5) (b := 16) (pc' := 14) (by decide +kernel) (by decide +kernel) rfl (fun c6 => ?_) (fun c6 => ?_)
    · rw [if_pos c6] at h
      refine pv_e_bk (ps := [(14, .iconst (-1), 1)]) (t' := (0, 0, 15, [some (.ref 0), some (.int x1), some (.int x2), none], [.int (-1:Int32)], pv_mm s T)) (by decide +kernel) rfl ?_
      obtain rfl := Option.some.inj h
      cases hr
      exact pv_e_ri (by decide +kernel)
    · rw [if_neg c6] at h
      refine pv_e_bk (ps := [(16, .aload_n 0, 1), (17, .aload_n 0, 1)]) (t' := (0, 0, 18, [some (.ref 0), some (.int x1), some (.int x2), none], [.ref 0, .ref 0], pv_mm s T)) (by decide +kernel) rfl ?_
      refine pv_e_gr (i := 11) (ci := 5) (j := 0) (b := 1) (pc' := 21) (by decide +kernel) rfl rfl rfl ?_
      refine pv_e_bk (ps := [(21, .iload_n 1, 1)]) (t' := (0, 0, 22, [some (.ref 0), some (.int x1), some (.int x2), none], [.int x1, .ref 1, .ref 0], pv_mm s T)) (by decide +kernel) rfl ?_
      obtain ⟨o7, e8, h⟩ := Option.bind_eq_some_iff.mp h
      have g9 := ra_rows e8
      refine pv_e_ra (zz := 6) (pc' := 23) (by decide +kernel) rfl (by decide) e8 rfl ?_
      refine pv_e_bk (ps := [(23, .bipush 6, 2)]) (t' := (0, 0, 25, [some (.ref 0), some (.int x1), some (.int x2), none], [.int (6:Int32), .ref o7, .ref 0], pv_mm s T)) (by decide +kernel) rfl ?_
      obtain ⟨q11, e10, h⟩ := Option.bind_eq_some_iff.mp h
      refine pv_e_cvi (d := d + 13) (i := 233) (z := 108) (np := 2) (ml := 5) (ci := 5) (As := [.ref o7, .int (6:Int32)]) (rs := []) (pc' := 28) (by decide +kernel) rfl rfl rfl rfl (Nat.le_of_ble_eq_true rfl) (Nat.le_of_ble_eq_true rfl) rfl (ee108 (d + 11) o7 (6:Int32) g9 e10) ?_
      refine pv_e_bk (ps := [(28, .istore_n 3, 1), (29, .iload_n 3, 1)]) (t' := (0, 0, 30, [some (.ref 0), some (.int x1), some (.int x2), some (.int q11)], [.int q11], pv_mm s T)) (by decide +kernel) rfl ?_
      refine pv_e_ifeq (off := 9) (b := 39) (pc' := 33) (by decide +kernel) (by decide +kernel) rfl (fun c12 => ?_) (fun c12 => ?_)
      · rw [if_pos c12] at h
        refine pv_e_bk (ps := [(39, .aload_n 0, 1)]) (t' := (0, 0, 40, [some (.ref 0), some (.int x1), some (.int x2), some (.int q11)], [.ref 0], pv_mm s T)) (by decide +kernel) rfl ?_
        refine pv_e_gr (i := 35) (ci := 5) (j := 4) (b := 40) (pc' := 43) (by decide +kernel) rfl rfl rfl ?_
        refine pv_e_bk (ps := [(43, .aload_n 0, 1)]) (t' := (0, 0, 44, [some (.ref 0), some (.int x1), some (.int x2), some (.int q11)], [.ref 0, .ref 40], pv_mm s T)) (by decide +kernel) rfl ?_
        refine pv_e_gr (i := 21) (ci := 5) (j := 2) (b := 3) (pc' := 47) (by decide +kernel) rfl rfl rfl ?_
        refine pv_e_gr (i := 109) (ci := 4) (j := 1) (b := 8) (pc' := 50) (by decide +kernel) rfl rfl rfl ?_
        refine pv_e_bk (ps := [(50, .aload_n 0, 1)]) (t' := (0, 0, 51, [some (.ref 0), some (.int x1), some (.int x2), some (.int q11)], [.ref 0, .ref 8, .ref 40], pv_mm s T)) (by decide +kernel) rfl ?_
        refine pv_e_gc (i := 43) (ci := 5) (j := 6) (pc' := 54) (by decide +kernel) (by decide) rfl rfl rfl ?_
        obtain ⟨s15, e13, h⟩ := Option.bind_eq_some_iff.mp h
        refine pv_e_cvf (d := d + 13) (i := 204) (z := 33) (np := 2) (ml := 4) (ci := 3) (As := [.ref 8, .int (s 0 6)]) (rs := []) (pc' := 57) (by decide +kernel) rfl rfl rfl rfl (Nat.le_of_ble_eq_true rfl) (Nat.le_of_ble_eq_true rfl) rfl (ee33 (d + 11) 8 (s 0 6) (by decide) e13) ?_
        refine pv_e_bk (ps := [(57, .pop, 1), (58, .aload_n 0, 1)]) (t' := (0, 0, 59, [some (.ref 0), some (.int x1), some (.int x2), some (.int q11)], [.ref 0], pv_mm s15 T)) (by decide +kernel) rfl ?_
        refine pv_e_gr (i := 35) (ci := 5) (j := 4) (b := 40) (pc' := 62) (by decide +kernel) rfl rfl rfl ?_
        refine pv_e_bk (ps := [(62, .aload_n 0, 1)]) (t' := (0, 0, 63, [some (.ref 0), some (.int x1), some (.int x2), some (.int q11)], [.ref 0, .ref 40], pv_mm s15 T)) (by decide +kernel) rfl ?_
        refine pv_e_gr (i := 11) (ci := 5) (j := 0) (b := 1) (pc' := 66) (by decide +kernel) rfl rfl rfl ?_
        refine pv_e_bk (ps := [(66, .iload_n 1, 1)]) (t' := (0, 0, 67, [some (.ref 0), some (.int x1), some (.int x2), some (.int q11)], [.int x1, .ref 1, .ref 40], pv_mm s15 T)) (by decide +kernel) rfl ?_
        obtain ⟨o16, e17, h⟩ := Option.bind_eq_some_iff.mp h
        have g18 := ra_rows e17
        refine pv_e_ra (zz := 6) (pc' := 68) (by decide +kernel) rfl (by decide) e17 rfl ?_
        refine pv_e_bk (ps := [(68, .iconst 0, 1), (69, .iconst 0, 1), (70, .iconst 0, 1)]) (t' := (0, 0, 71, [some (.ref 0), some (.int x1), some (.int x2), some (.int q11)], [.int (0:Int32), .int (0:Int32), .int (0:Int32), .ref o16, .ref 40], pv_mm s15 T)) (by decide +kernel) rfl ?_
        obtain ⟨s20, e19, h⟩ := Option.bind_eq_some_iff.mp h
        refine pv_e_cvv (d := d + 13) (i := 242) (z := 37) (np := 4) (ml := 10) (ci := 3) (As := [.ref o16, .int (0:Int32), .int (0:Int32), .int (0:Int32)]) (rs := []) (pc' := 74) (by decide +kernel) rfl rfl rfl rfl (Nat.le_of_ble_eq_true rfl) (Nat.le_of_ble_eq_true rfl) rfl (ee37 (d + 0) 8 o16 (0:Int32) (0:Int32) (0:Int32) g18 e19) ?_
        refine pv_e_bk (ps := [(74, .aload_n 0, 1), (75, .iload_n 2, 1), (76, .aload_n 0, 1)]) (t' := (0, 0, 77, [some (.ref 0), some (.int x1), some (.int x2), some (.int q11)], [.ref 0, .int x2, .ref 0], pv_mm s20 T)) (by decide +kernel) rfl ?_
        refine pv_e_gr (i := 11) (ci := 5) (j := 0) (b := 1) (pc' := 80) (by decide +kernel) rfl rfl rfl ?_
        refine pv_e_bk (ps := [(80, .iload_n 1, 1)]) (t' := (0, 0, 81, [some (.ref 0), some (.int x1), some (.int x2), some (.int q11)], [.int x1, .ref 1, .int x2, .ref 0], pv_mm s20 T)) (by decide +kernel) rfl ?_
        obtain ⟨o21, e22, h⟩ := Option.bind_eq_some_iff.mp h
        have g23 := ra_rows e22
        refine pv_e_ra (zz := 6) (pc' := 82) (by decide +kernel) rfl (by decide) e22 rfl ?_
        refine pv_e_gc (i := 92) (ci := 2) (j := 2) (pc' := 85) (by decide +kernel) (by have := (rw_ g23).2.2; omega) (rw_ g23).1 rfl rfl ?_
        obtain ⟨⟨q25, s26⟩, e24, h⟩ := Option.bind_eq_some_iff.mp h
        dsimp only at h
        refine pv_e_cvi (d := d + 13) (i := 246) (z := 109) (np := 2) (ml := 3) (ci := 5) (As := [.int x2, .int (s20 o21 2)]) (rs := []) (pc' := 88) (by decide +kernel) rfl rfl rfl rfl (Nat.le_of_ble_eq_true rfl) (Nat.le_of_ble_eq_true rfl) rfl (ee109 (d + 12) x2 (s20 o21 2) e24) ?_
        obtain rfl := Option.some.inj h
        cases hr
        exact pv_e_ri (by decide +kernel)
      · rw [if_neg c12] at h
        refine pv_e_bk (ps := [(33, .aload_n 0, 1), (34, .iload_n 3, 1)]) (t' := (0, 0, 35, [some (.ref 0), some (.int x1), some (.int x2), some (.int q11)], [.int q11, .ref 0], pv_mm s T)) (by decide +kernel) rfl ?_
        obtain ⟨⟨q28, s29⟩, e27, h⟩ := Option.bind_eq_some_iff.mp h
        dsimp only at h
        refine pv_e_cvi (d := d + 13) (i := 63) (z := 104) (np := 1) (ml := 2) (ci := 5) (As := [.int q11]) (rs := []) (pc' := 38) (by decide +kernel) rfl rfl rfl rfl (Nat.le_of_ble_eq_true rfl) (Nat.le_of_ble_eq_true rfl) rfl (ee104 (d + 13) q11 e27) ?_
        obtain rfl := Option.some.inj h
        cases hr
        exact pv_e_ri (by decide +kernel)
def f84_callers (x1 : Int32) (x2 : Int32) (s : pv_F) : Option (Int32 × pv_F) :=
  (f99_isRow x1).bind fun q2 =>
  if q2 = 0 then
    some ((-1:Int32), s)
  else
    (f99_isRow x2).bind fun q5 =>
    if q5 = 0 then
      some ((-1:Int32), s)
    else
      (pv_ra 1 6 x1).bind fun o7 =>
      (f107_numbersFinding o7 (5:Int32) (s 8 3) s).bind fun q11 =>
      if q11 = 0 then
        (f33_from 8 (s 0 6) s).bind fun s15 =>
        (pv_ra 1 6 x1).bind fun o16 =>
        (f38_seekCallers 8 o16 (0:Int32) (0:Int32) s15).bind fun s20 =>
        (pv_ra 1 6 x1).bind fun o21 =>
        (f109_fewestInto x2 (s20 o21 2) s20).bind fun (q25, s26) =>
        some (q25, s26)
      else
        (f104_find q11 s).bind fun (q28, s29) =>
        some (q28, s29)
theorem ee84 {xs : Nat → Int32} {L : Nat} (d : Nat) (x1 : Int32) (x2 : Int32) {s : pv_F} {T : pv_T} {q : Int32 × pv_F}  (h : f84_callers x1 x2 s = some q) : pv_Ev xs L (d + 14) 84 (0, 0, 0, [some (.ref 0), some (.int x1), some (.int x2), none], [], pv_mm s T) (some (.int q.1), pv_mm q.2 T) := by
  generalize hr : ((some (.int q.1), pv_mm q.2 T) : Option Value × pv_M) = r
  unfold f84_callers at h
  refine pv_e_bk (ps := [(0, .iload_n 1, 1)]) (t' := (0, 0, 1, [some (.ref 0), some (.int x1), some (.int x2), none], [.int x1], pv_mm s T)) (by decide +kernel) rfl ?_
  obtain ⟨q2, e1, h⟩ := Option.bind_eq_some_iff.mp h
  refine pv_e_csi (d := d + 13) (i := 59) (z := 99) (np := 1) (ml := 1) (As := [.int x1]) (rs := []) (pc' := 4) (by decide +kernel) rfl rfl rfl (Nat.le_of_ble_eq_true rfl) (Nat.le_of_ble_eq_true rfl) rfl (ee99 (d + 13) x1 e1) ?_
  refine pv_e_ifeq (off := 10) (b := 14) (pc' := 7) (by decide +kernel) (by decide +kernel) rfl (fun c3 => ?_) (fun c3 => ?_)
  · rw [if_pos c3] at h
    refine pv_e_bk (ps := [(14, .iconst (-1), 1)]) (t' := (0, 0, 15, [some (.ref 0), some (.int x1), some (.int x2), none], [.int (-1:Int32)], pv_mm s T)) (by decide +kernel) rfl ?_
    obtain rfl := Option.some.inj h
    cases hr
    exact pv_e_ri (by decide +kernel)
  · rw [if_neg c3] at h
    refine pv_e_bk (ps := [(7, .iload_n 2, 1)]) (t' := (0, 0, 8, [some (.ref 0), some (.int x1), some (.int x2), none], [.int x2], pv_mm s T)) (by decide +kernel) rfl ?_
    obtain ⟨q5, e4, h⟩ := Option.bind_eq_some_iff.mp h
    refine pv_e_csi (d := d + 13) (i := 59) (z := 99) (np := 1) (ml := 1) (As := [.int x2]) (rs := []) (pc' := 11) (by decide +kernel) rfl rfl rfl (Nat.le_of_ble_eq_true rfl) (Nat.le_of_ble_eq_true rfl) rfl (ee99 (d + 13) x2 e4) ?_
    refine pv_e_ifne (off := 5) (b := 16) (pc' := 14) (by decide +kernel) (by decide +kernel) rfl (fun c6 => ?_) (fun c6 => ?_)
    · rw [if_pos c6] at h
      refine pv_e_bk (ps := [(14, .iconst (-1), 1)]) (t' := (0, 0, 15, [some (.ref 0), some (.int x1), some (.int x2), none], [.int (-1:Int32)], pv_mm s T)) (by decide +kernel) rfl ?_
      obtain rfl := Option.some.inj h
      cases hr
      exact pv_e_ri (by decide +kernel)
    · rw [if_neg c6] at h
      refine pv_e_bk (ps := [(16, .aload_n 0, 1)]) (t' := (0, 0, 17, [some (.ref 0), some (.int x1), some (.int x2), none], [.ref 0], pv_mm s T)) (by decide +kernel) rfl ?_
      refine pv_e_gr (i := 11) (ci := 5) (j := 0) (b := 1) (pc' := 20) (by decide +kernel) rfl rfl rfl ?_
      refine pv_e_bk (ps := [(20, .iload_n 1, 1)]) (t' := (0, 0, 21, [some (.ref 0), some (.int x1), some (.int x2), none], [.int x1, .ref 1], pv_mm s T)) (by decide +kernel) rfl ?_
      obtain ⟨o7, e8, h⟩ := Option.bind_eq_some_iff.mp h
      have g9 := ra_rows e8
      refine pv_e_ra (zz := 6) (pc' := 22) (by decide +kernel) rfl (by decide) e8 rfl ?_
      refine pv_e_bk (ps := [(22, .iconst 5, 1), (23, .aload_n 0, 1)]) (t' := (0, 0, 24, [some (.ref 0), some (.int x1), some (.int x2), none], [.ref 0, .int (5:Int32), .ref o7], pv_mm s T)) (by decide +kernel) rfl ?_
      refine pv_e_gr (i := 21) (ci := 5) (j := 2) (b := 3) (pc' := 27) (by decide +kernel) rfl rfl rfl ?_
      refine pv_e_gr (i := 109) (ci := 4) (j := 1) (b := 8) (pc' := 30) (by decide +kernel) rfl rfl rfl ?_
      refine pv_e_gc (i := 112) (ci := 1) (j := 3) (pc' := 33) (by decide +kernel) (by decide) rfl rfl rfl ?_
      obtain ⟨q11, e10, h⟩ := Option.bind_eq_some_iff.mp h
      refine pv_e_csi (d := d + 13) (i := 249) (z := 107) (np := 3) (ml := 4) (As := [.ref o7, .int (5:Int32), .int (s 8 3)]) (rs := []) (pc' := 36) (by decide +kernel) rfl rfl rfl (Nat.le_of_ble_eq_true rfl) (Nat.le_of_ble_eq_true rfl) rfl (ee107 (d + 13) o7 (5:Int32) (s 8 3) g9 e10) ?_
      refine pv_e_bk (ps := [(36, .istore_n 3, 1), (37, .iload_n 3, 1)]) (t' := (0, 0, 38, [some (.ref 0), some (.int x1), some (.int x2), some (.int q11)], [.int q11], pv_mm s T)) (by decide +kernel) rfl ?_
      refine pv_e_ifeq (off := 9) (b := 47) (pc' := 41) (by decide +kernel) (by decide +kernel) rfl (fun c12 => ?_) (fun c12 => ?_)
      · rw [if_pos c12] at h
        refine pv_e_bk (ps := [(47, .aload_n 0, 1)]) (t' := (0, 0, 48, [some (.ref 0), some (.int x1), some (.int x2), some (.int q11)], [.ref 0], pv_mm s T)) (by decide +kernel) rfl ?_
        refine pv_e_gr (i := 35) (ci := 5) (j := 4) (b := 40) (pc' := 51) (by decide +kernel) rfl rfl rfl ?_
        refine pv_e_bk (ps := [(51, .aload_n 0, 1)]) (t' := (0, 0, 52, [some (.ref 0), some (.int x1), some (.int x2), some (.int q11)], [.ref 0, .ref 40], pv_mm s T)) (by decide +kernel) rfl ?_
        refine pv_e_gr (i := 21) (ci := 5) (j := 2) (b := 3) (pc' := 55) (by decide +kernel) rfl rfl rfl ?_
        refine pv_e_gr (i := 109) (ci := 4) (j := 1) (b := 8) (pc' := 58) (by decide +kernel) rfl rfl rfl ?_
        refine pv_e_bk (ps := [(58, .aload_n 0, 1)]) (t' := (0, 0, 59, [some (.ref 0), some (.int x1), some (.int x2), some (.int q11)], [.ref 0, .ref 8, .ref 40], pv_mm s T)) (by decide +kernel) rfl ?_
        refine pv_e_gc (i := 43) (ci := 5) (j := 6) (pc' := 62) (by decide +kernel) (by decide) rfl rfl rfl ?_
        obtain ⟨s15, e13, h⟩ := Option.bind_eq_some_iff.mp h
        refine pv_e_cvf (d := d + 13) (i := 204) (z := 33) (np := 2) (ml := 4) (ci := 3) (As := [.ref 8, .int (s 0 6)]) (rs := []) (pc' := 65) (by decide +kernel) rfl rfl rfl rfl (Nat.le_of_ble_eq_true rfl) (Nat.le_of_ble_eq_true rfl) rfl (ee33 (d + 11) 8 (s 0 6) (by decide) e13) ?_
        refine pv_e_bk (ps := [(65, .pop, 1), (66, .aload_n 0, 1)]) (t' := (0, 0, 67, [some (.ref 0), some (.int x1), some (.int x2), some (.int q11)], [.ref 0], pv_mm s15 T)) (by decide +kernel) rfl ?_
        refine pv_e_gr (i := 35) (ci := 5) (j := 4) (b := 40) (pc' := 70) (by decide +kernel) rfl rfl rfl ?_
        refine pv_e_bk (ps := [(70, .aload_n 0, 1)]) (t' := (0, 0, 71, [some (.ref 0), some (.int x1), some (.int x2), some (.int q11)], [.ref 0, .ref 40], pv_mm s15 T)) (by decide +kernel) rfl ?_
        refine pv_e_gr (i := 11) (ci := 5) (j := 0) (b := 1) (pc' := 74) (by decide +kernel) rfl rfl rfl ?_
        refine pv_e_bk (ps := [(74, .iload_n 1, 1)]) (t' := (0, 0, 75, [some (.ref 0), some (.int x1), some (.int x2), some (.int q11)], [.int x1, .ref 1, .ref 40], pv_mm s15 T)) (by decide +kernel) rfl ?_
        obtain ⟨o16, e17, h⟩ := Option.bind_eq_some_iff.mp h
        have g18 := ra_rows e17
        refine pv_e_ra (zz := 6) (pc' := 76) (by decide +kernel) rfl (by decide) e17 rfl ?_
        refine pv_e_bk (ps := [(76, .iconst 0, 1), (77, .iconst 0, 1)]) (t' := (0, 0, 78, [some (.ref 0), some (.int x1), some (.int x2), some (.int q11)], [.int (0:Int32), .int (0:Int32), .ref o16, .ref 40], pv_mm s15 T)) (by decide +kernel) rfl ?_
        obtain ⟨s20, e19, h⟩ := Option.bind_eq_some_iff.mp h
        refine pv_e_cvv (d := d + 13) (i := 253) (z := 38) (np := 3) (ml := 7) (ci := 3) (As := [.ref o16, .int (0:Int32), .int (0:Int32)]) (rs := []) (pc' := 81) (by decide +kernel) rfl rfl rfl rfl (Nat.le_of_ble_eq_true rfl) (Nat.le_of_ble_eq_true rfl) rfl (ee38 (d + 0) 8 o16 (0:Int32) (0:Int32) g18 e19) ?_
        refine pv_e_bk (ps := [(81, .aload_n 0, 1), (82, .iload_n 2, 1), (83, .aload_n 0, 1)]) (t' := (0, 0, 84, [some (.ref 0), some (.int x1), some (.int x2), some (.int q11)], [.ref 0, .int x2, .ref 0], pv_mm s20 T)) (by decide +kernel) rfl ?_
        refine pv_e_gr (i := 11) (ci := 5) (j := 0) (b := 1) (pc' := 87) (by decide +kernel) rfl rfl rfl ?_
        refine pv_e_bk (ps := [(87, .iload_n 1, 1)]) (t' := (0, 0, 88, [some (.ref 0), some (.int x1), some (.int x2), some (.int q11)], [.int x1, .ref 1, .int x2, .ref 0], pv_mm s20 T)) (by decide +kernel) rfl ?_
        obtain ⟨o21, e22, h⟩ := Option.bind_eq_some_iff.mp h
        have g23 := ra_rows e22
        refine pv_e_ra (zz := 6) (pc' := 89) (by decide +kernel) rfl (by decide) e22 rfl ?_
        refine pv_e_gc (i := 92) (ci := 2) (j := 2) (pc' := 92) (by decide +kernel) (by have := (rw_ g23).2.2; omega) (rw_ g23).1 rfl rfl ?_
        obtain ⟨⟨q25, s26⟩, e24, h⟩ := Option.bind_eq_some_iff.mp h
        dsimp only at h
        refine pv_e_cvi (d := d + 13) (i := 246) (z := 109) (np := 2) (ml := 3) (ci := 5) (As := [.int x2, .int (s20 o21 2)]) (rs := []) (pc' := 95) (by decide +kernel) rfl rfl rfl rfl (Nat.le_of_ble_eq_true rfl) (Nat.le_of_ble_eq_true rfl) rfl (ee109 (d + 12) x2 (s20 o21 2) e24) ?_
        obtain rfl := Option.some.inj h
        cases hr
        exact pv_e_ri (by decide +kernel)
      · rw [if_neg c12] at h
        refine pv_e_bk (ps := [(41, .aload_n 0, 1), (42, .iload_n 3, 1)]) (t' := (0, 0, 43, [some (.ref 0), some (.int x1), some (.int x2), some (.int q11)], [.int q11, .ref 0], pv_mm s T)) (by decide +kernel) rfl ?_
        obtain ⟨⟨q28, s29⟩, e27, h⟩ := Option.bind_eq_some_iff.mp h
        dsimp only at h
        refine pv_e_cvi (d := d + 13) (i := 63) (z := 104) (np := 1) (ml := 2) (ci := 5) (As := [.int q11]) (rs := []) (pc' := 46) (by decide +kernel) rfl rfl rfl rfl (Nat.le_of_ble_eq_true rfl) (Nat.le_of_ble_eq_true rfl) rfl (ee104 (d + 13) q11 e27) ?_
        obtain rfl := Option.some.inj h
        cases hr
        exact pv_e_ri (by decide +kernel)
def f110_goesWell_b1 (v1 : Nat) (v2 : Int32) (v3 : Int32) (st : Int32 × pv_F) : Option ((Int32 × pv_F) ⊕ (Int32 × pv_F)) := match st with
  | (v5, s) =>
    if v3 ≤ v5 then
      some (.inr (v5, s))
    else
      (pv_rd s 47 7 v2).bind fun q5 =>
      (f221_with q5 (1:Int32)).bind fun q8 =>
      (pv_wr s 47 7 v2 q8).bind fun s9 =>
      some (.inl (v5 + (1:Int32), s9))
def f110_goesWell_b1_H (xs : Nat → Int32) (L d : Nat) (r : Option Value × pv_M) (T : pv_T) (v1 : Nat) (v2 : Int32) (v3 : Int32) (st : Int32 × pv_F) : Prop := match st with
  | (v5, s) => pv_Ev xs L (d + 5) 110 (0, 0, 23, [some (.ref 0), some (.ref v1), some (.int v2), some (.int v3), some (.ref 45), some (.int v5)], [], pv_mm s T) r
def f110_goesWell_b1_X (xs : Nat → Int32) (L d : Nat) (r : Option Value × pv_M) (T : pv_T) (v1 : Nat) (v2 : Int32) (v3 : Int32) (st : Int32 × pv_F) : Prop := match st with
  | (v5, s) => ∀ z5 : Option Value, pv_Ev xs L (d + 5) 110 (0, 0, 53, [some (.ref 0), some (.ref v1), some (.int v2), some (.int v3), some (.ref 45), z5], [], pv_mm s T) r
def f110_goesWell (x1 : Nat) (x2 : Int32) (x3 : Int32) (s : pv_F) : Option (Int32 × pv_F) :=
  (f33_from 8 (s 0 6) s).bind fun s3 =>
  (pv_lq (f110_goesWell_b1 x1 x2 x3) 20000 ((0:Int32), s3)).bind fun (w11, s12) =>
  (f34_judgeCalls x1 s12).bind fun (q14, s15) =>
  ((
    if q14 = (s15 x1 2) then
      if (s15 40 5) = 0 then
        some (1:Int32)
      else
        some (0:Int32)
    else
      some (0:Int32)) : Option (Int32)).bind fun t16 =>
  (pv_bl t16).bind fun q17 => some (q17, s15)
theorem f110_goesWell_b1_ok {xs : Nat → Int32} {L d : Nat} {r : Option Value × pv_M} {T : pv_T} {v1 : Nat} {v2 : Int32} {v3 : Int32} (g1 : v1 ∈ pv_rows) (st : Int32 × pv_F) (o : (Int32 × pv_F) ⊕ (Int32 × pv_F)) (h : f110_goesWell_b1 v1 v2 v3 st = some o) (hK : pv_Kq (f110_goesWell_b1_H xs L d r T v1 v2 v3) (f110_goesWell_b1_X xs L d r T v1 v2 v3) o) : f110_goesWell_b1_H xs L d r T v1 v2 v3 st := by
  obtain ⟨v5, s⟩ := st
  show pv_Ev xs L (d + 5) 110 (0, 0, 23, [some (.ref 0), some (.ref v1), some (.int v2), some (.int v3), some (.ref 45), some (.int v5)], [], pv_mm s T) r
  unfold f110_goesWell_b1 at h
  dsimp only at h
  refine pv_e_bk (ps := [(23, .iload 5, 2), (25, .iload_n 3, 1)]) (t' := (0, 0, 26, [some (.ref 0), some (.ref v1), some (.int v2), some (.int v3), some (.ref 45), some (.int v5)], [.int v3, .int v5], pv_mm s T)) (by decide +kernel) rfl ?_
  refine pv_e_icmpge (off := 27) (b := 53) (pc' := 29) (by decide +kernel) (by decide +kernel) rfl (fun c4 => ?_) (fun c4 => ?_)
  · rw [if_pos c4] at h
    obtain rfl := Option.some.inj h
    exact hK _
  · rw [if_neg c4] at h
    refine pv_e_bk (ps := [(29, .aload 4, 2)]) (t' := (0, 0, 31, [some (.ref 0), some (.ref v1), some (.int v2), some (.int v3), some (.ref 45), some (.int v5)], [.ref 45], pv_mm s T)) (by decide +kernel) rfl ?_
    refine pv_e_gr (i := 120) (ci := 1) (j := 1) (b := 47) (pc' := 34) (by decide +kernel) rfl rfl rfl ?_
    refine pv_e_bk (ps := [(34, .iload_n 2, 1), (35, .aload 4, 2)]) (t' := (0, 0, 37, [some (.ref 0), some (.ref v1), some (.int v2), some (.int v3), some (.ref 45), some (.int v5)], [.ref 45, .int v2, .ref 47], pv_mm s T)) (by decide +kernel) rfl ?_
    refine pv_e_gr (i := 120) (ci := 1) (j := 1) (b := 47) (pc' := 40) (by decide +kernel) rfl rfl rfl ?_
    refine pv_e_bk (ps := [(40, .iload_n 2, 1)]) (t' := (0, 0, 41, [some (.ref 0), some (.ref v1), some (.int v2), some (.int v3), some (.ref 45), some (.int v5)], [.int v2, .ref 47, .int v2, .ref 47], pv_mm s T)) (by decide +kernel) rfl ?_
    obtain ⟨q5, e6, h⟩ := Option.bind_eq_some_iff.mp h
    refine pv_e_rc (pc' := 42) (by decide +kernel) (by decide) rfl e6 rfl ?_
    refine pv_e_bk (ps := [(42, .iconst 1, 1)]) (t' := (0, 0, 43, [some (.ref 0), some (.ref v1), some (.int v2), some (.int v3), some (.ref 45), some (.int v5)], [.int (1:Int32), .int q5, .int v2, .ref 47], pv_mm s T)) (by decide +kernel) rfl ?_
    obtain ⟨q8, e7, h⟩ := Option.bind_eq_some_iff.mp h
    refine pv_e_csi (d := d + 4) (i := 230) (z := 221) (np := 2) (ml := 2) (As := [.int q5, .int (1:Int32)]) (rs := [.int v2, .ref 47]) (pc' := 46) (by decide +kernel) rfl rfl rfl (Nat.le_of_ble_eq_true rfl) (Nat.le_of_ble_eq_true rfl) rfl (ee221 (d + 3) q5 (1:Int32) e7) ?_
    obtain ⟨s9, e10, h⟩ := Option.bind_eq_some_iff.mp h
    refine pv_e_wc (pc' := 47) (by decide +kernel) (by decide) rfl e10 rfl ?_
    refine pv_e_bk (ps := [(47, .iinc 5 1, 3), (50, .goto (-27), 3)]) (t' := (0, 0, 23, [some (.ref 0), some (.ref v1), some (.int v2), some (.int v3), some (.ref 45), some (.int (v5 + (1:Int32)))], [], pv_mm s9 T)) (by decide +kernel) rfl ?_
    obtain rfl := Option.some.inj h
    exact hK
theorem ee110 {xs : Nat → Int32} {L : Nat} (d : Nat) (x1 : Nat) (x2 : Int32) (x3 : Int32) {s : pv_F} {T : pv_T} {q : Int32 × pv_F} (g1 : x1 ∈ pv_rows) (h : f110_goesWell x1 x2 x3 s = some q) : pv_Ev xs L (d + 5) 110 (0, 0, 0, [some (.ref 0), some (.ref x1), some (.int x2), some (.int x3), none, none], [], pv_mm s T) (some (.int q.1), pv_mm q.2 T) := by
  generalize hr : ((some (.int q.1), pv_mm q.2 T) : Option Value × pv_M) = r
  unfold f110_goesWell at h
  refine pv_e_bk (ps := [(0, .aload_n 0, 1)]) (t' := (0, 0, 1, [some (.ref 0), some (.ref x1), some (.int x2), some (.int x3), none, none], [.ref 0], pv_mm s T)) (by decide +kernel) rfl ?_
  refine pv_e_gr (i := 35) (ci := 5) (j := 4) (b := 40) (pc' := 4) (by decide +kernel) rfl rfl rfl ?_
  refine pv_e_bk (ps := [(4, .aload_n 0, 1)]) (t' := (0, 0, 5, [some (.ref 0), some (.ref x1), some (.int x2), some (.int x3), none, none], [.ref 0, .ref 40], pv_mm s T)) (by decide +kernel) rfl ?_
  refine pv_e_gr (i := 21) (ci := 5) (j := 2) (b := 3) (pc' := 8) (by decide +kernel) rfl rfl rfl ?_
  refine pv_e_gr (i := 109) (ci := 4) (j := 1) (b := 8) (pc' := 11) (by decide +kernel) rfl rfl rfl ?_
  refine pv_e_bk (ps := [(11, .aload_n 0, 1)]) (t' := (0, 0, 12, [some (.ref 0), some (.ref x1), some (.int x2), some (.int x3), none, none], [.ref 0, .ref 8, .ref 40], pv_mm s T)) (by decide +kernel) rfl ?_
  refine pv_e_gc (i := 43) (ci := 5) (j := 6) (pc' := 15) (by decide +kernel) (by decide) rfl rfl rfl ?_
  obtain ⟨s3, e1, h⟩ := Option.bind_eq_some_iff.mp h
  refine pv_e_cvf (d := d + 4) (i := 204) (z := 33) (np := 2) (ml := 4) (ci := 3) (As := [.ref 8, .int (s 0 6)]) (rs := []) (pc' := 18) (by decide +kernel) rfl rfl rfl rfl (Nat.le_of_ble_eq_true rfl) (Nat.le_of_ble_eq_true rfl) rfl (ee33 (d + 2) 8 (s 0 6) (by decide) e1) ?_
  refine pv_e_bk (ps := [(18, .astore 4, 2), (20, .iconst 0, 1), (21, .istore 5, 2)]) (t' := (0, 0, 23, [some (.ref 0), some (.ref x1), some (.int x2), some (.int x3), some (.ref 45), some (.int (0:Int32))], [], pv_mm s3 T)) (by decide +kernel) rfl ?_
  obtain ⟨⟨w11, s12⟩, e24, h⟩ := Option.bind_eq_some_iff.mp h
  dsimp only at h
  have hx23 : f110_goesWell_b1_X xs L d r T x1 x2 x3 (w11, s12) := by
    show ∀ z5 : Option Value, pv_Ev xs L (d + 5) 110 (0, 0, 53, [some (.ref 0), some (.ref x1), some (.int x2), some (.int x3), some (.ref 45), z5], [], pv_mm s12 T) r
    intro z5
    refine pv_e_bk (ps := [(53, .aload_n 0, 1)]) (t' := (0, 0, 54, [some (.ref 0), some (.ref x1), some (.int x2), some (.int x3), some (.ref 45), z5], [.ref 0], pv_mm s12 T)) (by decide +kernel) rfl ?_
    refine pv_e_gr (i := 35) (ci := 5) (j := 4) (b := 40) (pc' := 57) (by decide +kernel) rfl rfl rfl ?_
    refine pv_e_bk (ps := [(57, .aload_n 1, 1)]) (t' := (0, 0, 58, [some (.ref 0), some (.ref x1), some (.int x2), some (.int x3), some (.ref 45), z5], [.ref x1, .ref 40], pv_mm s12 T)) (by decide +kernel) rfl ?_
    obtain ⟨⟨q14, s15⟩, e13, h⟩ := Option.bind_eq_some_iff.mp h
    dsimp only at h
    refine pv_e_cvi (d := d + 4) (i := 236) (z := 34) (np := 1) (ml := 6) (ci := 3) (As := [.ref x1]) (rs := []) (pc' := 61) (by decide +kernel) rfl rfl rfl rfl (Nat.le_of_ble_eq_true rfl) (Nat.le_of_ble_eq_true rfl) rfl (ee34 (d + 0) x1 g1 e13) ?_
    refine pv_e_bk (ps := [(61, .aload_n 1, 1)]) (t' := (0, 0, 62, [some (.ref 0), some (.ref x1), some (.int x2), some (.int x3), some (.ref 45), z5], [.ref x1, .int q14], pv_mm s15 T)) (by decide +kernel) rfl ?_
    refine pv_e_gc (i := 92) (ci := 2) (j := 2) (pc' := 65) (by decide +kernel) (by have := (rw_ g1).2.2; omega) (rw_ g1).1 rfl rfl ?_
    obtain ⟨t16, hv19, h⟩ := Option.bind_eq_some_iff.mp h
    have hJ20 : pv_Ev xs L (d + 5) 110 (0, 0, 83, [some (.ref 0), some (.ref x1), some (.int x2), some (.int x3), some (.ref 45), z5], [.int t16], pv_mm s15 T) r := by
      obtain ⟨q17, e18, h⟩ := Option.bind_eq_some_iff.mp h
      obtain rfl := Option.some.inj h
      cases hr
      exact pv_e_rz (by decide +kernel) e18
    clear h
    have h := hv19
    clear hv19
    refine pv_e_icmpne (off := 17) (b := 82) (pc' := 68) (by decide +kernel) (by decide +kernel) rfl (fun c21 => ?_) (fun c21 => ?_)
    · rw [if_pos c21] at h
      refine pv_e_bk (ps := [(68, .aload_n 0, 1)]) (t' := (0, 0, 69, [some (.ref 0), some (.ref x1), some (.int x2), some (.int x3), some (.ref 45), z5], [.ref 0], pv_mm s15 T)) (by decide +kernel) rfl ?_
      refine pv_e_gr (i := 35) (ci := 5) (j := 4) (b := 40) (pc' := 72) (by decide +kernel) rfl rfl rfl ?_
      refine pv_e_gc (i := 239) (ci := 3) (j := 5) (pc' := 75) (by decide +kernel) (by decide) rfl rfl rfl ?_
      refine pv_e_ifne (off := 7) (b := 82) (pc' := 78) (by decide +kernel) (by decide +kernel) rfl (fun c22 => ?_) (fun c22 => ?_)
      · rw [if_pos c22] at h
        refine pv_e_bk (ps := [(78, .iconst 1, 1), (79, .goto 4, 3)]) (t' := (0, 0, 83, [some (.ref 0), some (.ref x1), some (.int x2), some (.int x3), some (.ref 45), z5], [.int (1:Int32)], pv_mm s15 T)) (by decide +kernel) rfl ?_
        obtain rfl := Option.some.inj h
        exact hJ20
      · rw [if_neg c22] at h
        refine pv_e_bk (ps := [(82, .iconst 0, 1)]) (t' := (0, 0, 83, [some (.ref 0), some (.ref x1), some (.int x2), some (.int x3), some (.ref 45), z5], [.int (0:Int32)], pv_mm s15 T)) (by decide +kernel) rfl ?_
        obtain rfl := Option.some.inj h
        exact hJ20
    · rw [if_neg c21] at h
      refine pv_e_bk (ps := [(82, .iconst 0, 1)]) (t' := (0, 0, 83, [some (.ref 0), some (.ref x1), some (.int x2), some (.int x3), some (.ref 45), z5], [.int (0:Int32)], pv_mm s15 T)) (by decide +kernel) rfl ?_
      obtain rfl := Option.some.inj h
      exact hJ20
  exact pv_lq_ok (H := f110_goesWell_b1_H xs L d r T x1 x2 x3) (X := f110_goesWell_b1_X xs L d r T x1 x2 x3) (f110_goesWell_b1_ok (xs := xs) (L := L) (d := d) (r := r) (T := T) (v1 := x1) (v2 := x2) (v3 := x3) g1) 20000 _ _ e24 hx23
def f85_spare_b2 (v1 : Int32) (v3 : Int32) (st : Int32 × pv_F) : Option ((Int32 × pv_F) ⊕ ((Int32 × pv_F) ⊕ (Int32 × pv_F))) := match st with
  | (v4, s) =>
    if (s 8 3) ≤ v4 then
      some (.inr (.inl (v4, s)))
    else
      (f11_canGrow 8 v4 v3 s).bind fun q20 =>
      if q20 = 0 then
        some (.inl (v4 + (1:Int32), s))
      else
        (pv_ra 1 6 v1).bind fun o22 =>
        (f110_goesWell o22 v4 v3 s).bind fun (q26, s27) =>
        if q26 = 0 then
          some (.inl (v4 + (1:Int32), s27))
        else
          (pv_pf s27 0 8 v4).bind fun s29 =>
          some (.inr (.inr (v3, s29)))
def f85_spare_b2_H (xs : Nat → Int32) (L d : Nat) (r : Option Value × pv_M) (T : pv_T) (v1 : Int32) (v3 : Int32) (v2 : Int32) (st : Int32 × pv_F) : Prop := match st with
  | (v4, s) => pv_Ev xs L (d + 6) 85 (0, 0, 65, [some (.ref 0), some (.int v1), some (.int v2), some (.int v3), some (.int v4)], [], pv_mm s T) r
def f85_spare_b2_X (xs : Nat → Int32) (L d : Nat) (r : Option Value × pv_M) (T : pv_T) (v1 : Int32) (v3 : Int32) (v2 : Int32) (st : Int32 × pv_F) : Prop := match st with
  | (v4, s) => ∀ z4 : Option Value, pv_Ev xs L (d + 6) 85 (0, 0, 126, [some (.ref 0), some (.int v1), some (.int v2), some (.int v3), z4], [], pv_mm s T) r
def f85_spare_b1 (v1 : Int32) (st : Int32 × pv_F) : Option ((Int32 × pv_F) ⊕ ((Int32 × pv_F) ⊕ (Int32 × pv_F))) := match st with
  | (v3, s) =>
    if (6:Int32) < v3 then
      some (.inr (.inl (v3, s)))
    else
      (pv_lp (f85_spare_b2 v1 v3) 20000 ((0:Int32), s)).bind fun o35 => match o35 with
        | .inl (w31, s32) =>
          some (.inl (v3 + (1:Int32), s32))
        | .inr q => some (.inr (.inr q))
def f85_spare_b1_H (xs : Nat → Int32) (L d : Nat) (r : Option Value × pv_M) (T : pv_T) (v1 : Int32) (v2 : Int32) (st : Int32 × pv_F) : Prop := match st with
  | (v3, s) => ∀ z4 : Option Value, pv_Ev xs L (d + 6) 85 (0, 0, 56, [some (.ref 0), some (.int v1), some (.int v2), some (.int v3), z4], [], pv_mm s T) r
def f85_spare_b1_X (xs : Nat → Int32) (L d : Nat) (r : Option Value × pv_M) (T : pv_T) (v1 : Int32) (v2 : Int32) (st : Int32 × pv_F) : Prop := match st with
  | (v3, s) => ∀ z3 : Option Value, ∀ z4 : Option Value, pv_Ev xs L (d + 6) 85 (0, 0, 132, [some (.ref 0), some (.int v1), some (.int v2), z3, z4], [], pv_mm s T) r
def f85_spare (x1 : Int32) (s : pv_F) : Option (Int32 × pv_F) :=
  (f99_isRow x1).bind fun q2 =>
  if q2 = 0 then
    some ((-1:Int32), s)
  else
    (pv_ra 1 6 x1).bind fun o4 =>
    (f108_callsFinding o4 (40:Int32) s).bind fun q8 =>
    if q8 = 0 then
      (pv_ra 1 6 x1).bind fun o10 =>
      (f110_goesWell o10 (0:Int32) (0:Int32) s).bind fun (q14, s15) =>
      if q14 = 0 then
        (pv_lp (f85_spare_b1 x1) 20000 ((1:Int32), s15)).bind fun o40 => match o40 with
          | .inl (w36, s37) =>
            some ((-9:Int32), s37)
          | .inr q => some q
      else
        (pv_pf s15 0 8 (0:Int32)).bind fun s41 =>
        some ((0:Int32), s41)
    else
      (f104_find q8 s).bind fun (q44, s45) =>
      some (q44, s45)
theorem f85_spare_b2_ok {xs : Nat → Int32} {L d : Nat} {r : Option Value × pv_M} {T : pv_T} {v1 : Int32} {v3 : Int32} {v2 : Int32} (st : Int32 × pv_F) (o : (Int32 × pv_F) ⊕ ((Int32 × pv_F) ⊕ (Int32 × pv_F))) (h : f85_spare_b2 v1 v3 st = some o) (hK : pv_Kp (f85_spare_b2_H xs L d r T v1 v3 v2) (f85_spare_b2_X xs L d r T v1 v3 v2) (fun q => (some (.int q.1), pv_mm q.2 T) = r) o) : f85_spare_b2_H xs L d r T v1 v3 v2 st := by
  obtain ⟨v4, s⟩ := st
  show pv_Ev xs L (d + 6) 85 (0, 0, 65, [some (.ref 0), some (.int v1), some (.int v2), some (.int v3), some (.int v4)], [], pv_mm s T) r
  unfold f85_spare_b2 at h
  dsimp only at h
  refine pv_e_bk (ps := [(65, .iload 4, 2), (67, .aload_n 0, 1)]) (t' := (0, 0, 68, [some (.ref 0), some (.int v1), some (.int v2), some (.int v3), some (.int v4)], [.ref 0, .int v4], pv_mm s T)) (by decide +kernel) rfl ?_
  refine pv_e_gr (i := 21) (ci := 5) (j := 2) (b := 3) (pc' := 71) (by decide +kernel) rfl rfl rfl ?_
  refine pv_e_gr (i := 109) (ci := 4) (j := 1) (b := 8) (pc' := 74) (by decide +kernel) rfl rfl rfl ?_
  refine pv_e_gc (i := 112) (ci := 1) (j := 3) (pc' := 77) (by decide +kernel) (by decide) rfl rfl rfl ?_
  refine pv_e_icmpge (off := 49) (b := 126) (pc' := 80) (by decide +kernel) (by decide +kernel) rfl (fun c18 => ?_) (fun c18 => ?_)
  · rw [if_pos c18] at h
    obtain rfl := Option.some.inj h
    exact hK _
  · rw [if_neg c18] at h
    refine pv_e_bk (ps := [(80, .aload_n 0, 1)]) (t' := (0, 0, 81, [some (.ref 0), some (.int v1), some (.int v2), some (.int v3), some (.int v4)], [.ref 0], pv_mm s T)) (by decide +kernel) rfl ?_
    refine pv_e_gr (i := 21) (ci := 5) (j := 2) (b := 3) (pc' := 84) (by decide +kernel) rfl rfl rfl ?_
    refine pv_e_gr (i := 109) (ci := 4) (j := 1) (b := 8) (pc' := 87) (by decide +kernel) rfl rfl rfl ?_
    refine pv_e_bk (ps := [(87, .iload 4, 2), (89, .iload_n 3, 1)]) (t' := (0, 0, 90, [some (.ref 0), some (.int v1), some (.int v2), some (.int v3), some (.int v4)], [.int v3, .int v4, .ref 8], pv_mm s T)) (by decide +kernel) rfl ?_
    obtain ⟨q20, e19, h⟩ := Option.bind_eq_some_iff.mp h
    refine pv_e_cvi (d := d + 5) (i := 172) (z := 11) (np := 2) (ml := 3) (ci := 1) (As := [.int v4, .int v3]) (rs := []) (pc' := 93) (by decide +kernel) rfl rfl rfl rfl (Nat.le_of_ble_eq_true rfl) (Nat.le_of_ble_eq_true rfl) rfl (ee11 (d + 4) 8 v4 v3 (by decide) e19) ?_
    refine pv_e_ifeq (off := 27) (b := 120) (pc' := 96) (by decide +kernel) (by decide +kernel) rfl (fun c21 => ?_) (fun c21 => ?_)
    · rw [if_pos c21] at h
      refine pv_e_bk (ps := [(120, .iinc 4 1, 3), (123, .goto (-58), 3)]) (t' := (0, 0, 65, [some (.ref 0), some (.int v1), some (.int v2), some (.int v3), some (.int (v4 + (1:Int32)))], [], pv_mm s T)) (by decide +kernel) rfl ?_
      obtain rfl := Option.some.inj h
      exact hK
    · rw [if_neg c21] at h
      refine pv_e_bk (ps := [(96, .aload_n 0, 1), (97, .aload_n 0, 1)]) (t' := (0, 0, 98, [some (.ref 0), some (.int v1), some (.int v2), some (.int v3), some (.int v4)], [.ref 0, .ref 0], pv_mm s T)) (by decide +kernel) rfl ?_
      refine pv_e_gr (i := 11) (ci := 5) (j := 0) (b := 1) (pc' := 101) (by decide +kernel) rfl rfl rfl ?_
      refine pv_e_bk (ps := [(101, .iload_n 1, 1)]) (t' := (0, 0, 102, [some (.ref 0), some (.int v1), some (.int v2), some (.int v3), some (.int v4)], [.int v1, .ref 1, .ref 0], pv_mm s T)) (by decide +kernel) rfl ?_
      obtain ⟨o22, e23, h⟩ := Option.bind_eq_some_iff.mp h
      have g24 := ra_rows e23
      refine pv_e_ra (zz := 6) (pc' := 103) (by decide +kernel) rfl (by decide) e23 rfl ?_
      refine pv_e_bk (ps := [(103, .iload 4, 2), (105, .iload_n 3, 1)]) (t' := (0, 0, 106, [some (.ref 0), some (.int v1), some (.int v2), some (.int v3), some (.int v4)], [.int v3, .int v4, .ref o22, .ref 0], pv_mm s T)) (by decide +kernel) rfl ?_
      obtain ⟨⟨q26, s27⟩, e25, h⟩ := Option.bind_eq_some_iff.mp h
      dsimp only at h
      refine pv_e_cvi (d := d + 5) (i := 257) (z := 110) (np := 3) (ml := 6) (ci := 5) (As := [.ref o22, .int v4, .int v3]) (rs := []) (pc' := 109) (by decide +kernel) rfl rfl rfl rfl (Nat.le_of_ble_eq_true rfl) (Nat.le_of_ble_eq_true rfl) rfl (ee110 (d + 0) o22 v4 v3 g24 e25) ?_
      refine pv_e_ifeq (off := 11) (b := 120) (pc' := 112) (by decide +kernel) (by decide +kernel) rfl (fun c28 => ?_) (fun c28 => ?_)
      · rw [if_pos c28] at h
        refine pv_e_bk (ps := [(120, .iinc 4 1, 3), (123, .goto (-58), 3)]) (t' := (0, 0, 65, [some (.ref 0), some (.int v1), some (.int v2), some (.int v3), some (.int (v4 + (1:Int32)))], [], pv_mm s27 T)) (by decide +kernel) rfl ?_
        obtain rfl := Option.some.inj h
        exact hK
      · rw [if_neg c28] at h
        refine pv_e_bk (ps := [(112, .aload_n 0, 1), (113, .iload 4, 2)]) (t' := (0, 0, 115, [some (.ref 0), some (.int v1), some (.int v2), some (.int v3), some (.int v4)], [.int v4, .ref 0], pv_mm s27 T)) (by decide +kernel) rfl ?_
        obtain ⟨s29, e30, h⟩ := Option.bind_eq_some_iff.mp h
        refine pv_e_pcs (i := 50) (ci := 5) (j := 8) (pc' := 118) (by decide +kernel) rfl rfl (by decide) rfl rfl e30 rfl ?_
        refine pv_e_bk (ps := [(118, .iload_n 3, 1)]) (t' := (0, 0, 119, [some (.ref 0), some (.int v1), some (.int v2), some (.int v3), some (.int v4)], [.int v3], pv_mm s29 T)) (by decide +kernel) rfl ?_
        obtain rfl := Option.some.inj h
        cases hK
        exact pv_e_ri (by decide +kernel)
theorem f85_spare_b1_ok {xs : Nat → Int32} {L d : Nat} {r : Option Value × pv_M} {T : pv_T} {v1 : Int32} {v2 : Int32} (st : Int32 × pv_F) (o : (Int32 × pv_F) ⊕ ((Int32 × pv_F) ⊕ (Int32 × pv_F))) (h : f85_spare_b1 v1 st = some o) (hK : pv_Kp (f85_spare_b1_H xs L d r T v1 v2) (f85_spare_b1_X xs L d r T v1 v2) (fun q => (some (.int q.1), pv_mm q.2 T) = r) o) : f85_spare_b1_H xs L d r T v1 v2 st := by
  obtain ⟨v3, s⟩ := st
  show ∀ z4 : Option Value, pv_Ev xs L (d + 6) 85 (0, 0, 56, [some (.ref 0), some (.int v1), some (.int v2), some (.int v3), z4], [], pv_mm s T) r
  intro z4
  unfold f85_spare_b1 at h
  dsimp only at h
  refine pv_e_bk (ps := [(56, .iload_n 3, 1), (57, .bipush 6, 2)]) (t' := (0, 0, 59, [some (.ref 0), some (.int v1), some (.int v2), some (.int v3), z4], [.int (6:Int32), .int v3], pv_mm s T)) (by decide +kernel) rfl ?_
  refine pv_e_icmpgt (off := 73) (b := 132) (pc' := 62) (by decide +kernel) (by decide +kernel) rfl (fun c17 => ?_) (fun c17 => ?_)
  · rw [if_pos c17] at h
    obtain rfl := Option.some.inj h
    exact hK _ _
  · rw [if_neg c17] at h
    refine pv_e_bk (ps := [(62, .iconst 0, 1), (63, .istore 4, 2)]) (t' := (0, 0, 65, [some (.ref 0), some (.int v1), some (.int v2), some (.int v3), some (.int (0:Int32))], [], pv_mm s T)) (by decide +kernel) rfl ?_
    obtain ⟨o35, e34, h⟩ := Option.bind_eq_some_iff.mp h
    refine pv_lp_ok (H := f85_spare_b2_H xs L d r T v1 v3 v2) (X := f85_spare_b2_X xs L d r T v1 v3 v2) (Z := (fun q => (some (.int q.1), pv_mm q.2 T) = r)) (f85_spare_b2_ok (xs := xs) (L := L) (d := d) (r := r) (T := T) (v1 := v1) (v3 := v3) (v2 := v2)) 20000 _ _ e34 ?_
    rcases o35 with ⟨w31, s32⟩ | q
    · dsimp only at h ⊢
      show ∀ z4 : Option Value, pv_Ev xs L (d + 6) 85 (0, 0, 126, [some (.ref 0), some (.int v1), some (.int v2), some (.int v3), z4], [], pv_mm s32 T) r
      intro z4
      refine pv_e_bk (ps := [(126, .iinc 3 1, 3), (129, .goto (-73), 3)]) (t' := (0, 0, 56, [some (.ref 0), some (.int v1), some (.int v2), some (.int (v3 + (1:Int32))), z4], [], pv_mm s32 T)) (by decide +kernel) rfl ?_
      obtain rfl := Option.some.inj h
      exact hK _
    · dsimp only at h ⊢
      obtain rfl := Option.some.inj h
      exact hK
theorem ee85 {xs : Nat → Int32} {L : Nat} (d : Nat) (x1 : Int32) {s : pv_F} {T : pv_T} {q : Int32 × pv_F}  (h : f85_spare x1 s = some q) : pv_Ev xs L (d + 6) 85 (0, 0, 0, [some (.ref 0), some (.int x1), none, none, none], [], pv_mm s T) (some (.int q.1), pv_mm q.2 T) := by
  generalize hr : ((some (.int q.1), pv_mm q.2 T) : Option Value × pv_M) = r
  unfold f85_spare at h
  refine pv_e_bk (ps := [(0, .iload_n 1, 1)]) (t' := (0, 0, 1, [some (.ref 0), some (.int x1), none, none, none], [.int x1], pv_mm s T)) (by decide +kernel) rfl ?_
  obtain ⟨q2, e1, h⟩ := Option.bind_eq_some_iff.mp h
  refine pv_e_csi (d := d + 5) (i := 59) (z := 99) (np := 1) (ml := 1) (As := [.int x1]) (rs := []) (pc' := 4) (by decide +kernel) rfl rfl rfl (Nat.le_of_ble_eq_true rfl) (Nat.le_of_ble_eq_true rfl) rfl (ee99 (d + 5) x1 e1) ?_
  refine pv_e_ifne (off := 5) (b := 9) (pc' := 7) (by decide +kernel) (by decide +kernel) rfl (fun c3 => ?_) (fun c3 => ?_)
  · rw [if_pos c3] at h
    refine pv_e_bk (ps := [(7, .iconst (-1), 1)]) (t' := (0, 0, 8, [some (.ref 0), some (.int x1), none, none, none], [.int (-1:Int32)], pv_mm s T)) (by decide +kernel) rfl ?_
    obtain rfl := Option.some.inj h
    cases hr
    exact pv_e_ri (by decide +kernel)
  · rw [if_neg c3] at h
    refine pv_e_bk (ps := [(9, .aload_n 0, 1), (10, .aload_n 0, 1)]) (t' := (0, 0, 11, [some (.ref 0), some (.int x1), none, none, none], [.ref 0, .ref 0], pv_mm s T)) (by decide +kernel) rfl ?_
    refine pv_e_gr (i := 11) (ci := 5) (j := 0) (b := 1) (pc' := 14) (by decide +kernel) rfl rfl rfl ?_
    refine pv_e_bk (ps := [(14, .iload_n 1, 1)]) (t' := (0, 0, 15, [some (.ref 0), some (.int x1), none, none, none], [.int x1, .ref 1, .ref 0], pv_mm s T)) (by decide +kernel) rfl ?_
    obtain ⟨o4, e5, h⟩ := Option.bind_eq_some_iff.mp h
    have g6 := ra_rows e5
    refine pv_e_ra (zz := 6) (pc' := 16) (by decide +kernel) rfl (by decide) e5 rfl ?_
    refine pv_e_bk (ps := [(16, .bipush 40, 2)]) (t' := (0, 0, 18, [some (.ref 0), some (.int x1), none, none, none], [.int (40:Int32), .ref o4, .ref 0], pv_mm s T)) (by decide +kernel) rfl ?_
    obtain ⟨q8, e7, h⟩ := Option.bind_eq_some_iff.mp h
    refine pv_e_cvi (d := d + 5) (i := 233) (z := 108) (np := 2) (ml := 5) (ci := 5) (As := [.ref o4, .int (40:Int32)]) (rs := []) (pc' := 21) (by decide +kernel) rfl rfl rfl rfl (Nat.le_of_ble_eq_true rfl) (Nat.le_of_ble_eq_true rfl) rfl (ee108 (d + 3) o4 (40:Int32) g6 e7) ?_
    refine pv_e_bk (ps := [(21, .istore_n 2, 1), (22, .iload_n 2, 1)]) (t' := (0, 0, 23, [some (.ref 0), some (.int x1), some (.int q8), none, none], [.int q8], pv_mm s T)) (by decide +kernel) rfl ?_
    refine pv_e_ifeq (off := 9) (b := 32) (pc' := 26) (by decide +kernel) (by decide +kernel) rfl (fun c9 => ?_) (fun c9 => ?_)
    · rw [if_pos c9] at h
      refine pv_e_bk (ps := [(32, .aload_n 0, 1), (33, .aload_n 0, 1)]) (t' := (0, 0, 34, [some (.ref 0), some (.int x1), some (.int q8), none, none], [.ref 0, .ref 0], pv_mm s T)) (by decide +kernel) rfl ?_
      refine pv_e_gr (i := 11) (ci := 5) (j := 0) (b := 1) (pc' := 37) (by decide +kernel) rfl rfl rfl ?_
      refine pv_e_bk (ps := [(37, .iload_n 1, 1)]) (t' := (0, 0, 38, [some (.ref 0), some (.int x1), some (.int q8), none, none], [.int x1, .ref 1, .ref 0], pv_mm s T)) (by decide +kernel) rfl ?_
      obtain ⟨o10, e11, h⟩ := Option.bind_eq_some_iff.mp h
      have g12 := ra_rows e11
      refine pv_e_ra (zz := 6) (pc' := 39) (by decide +kernel) rfl (by decide) e11 rfl ?_
      refine pv_e_bk (ps := [(39, .iconst 0, 1), (40, .iconst 0, 1)]) (t' := (0, 0, 41, [some (.ref 0), some (.int x1), some (.int q8), none, none], [.int (0:Int32), .int (0:Int32), .ref o10, .ref 0], pv_mm s T)) (by decide +kernel) rfl ?_
      obtain ⟨⟨q14, s15⟩, e13, h⟩ := Option.bind_eq_some_iff.mp h
      dsimp only at h
      refine pv_e_cvi (d := d + 5) (i := 257) (z := 110) (np := 3) (ml := 6) (ci := 5) (As := [.ref o10, .int (0:Int32), .int (0:Int32)]) (rs := []) (pc' := 44) (by decide +kernel) rfl rfl rfl rfl (Nat.le_of_ble_eq_true rfl) (Nat.le_of_ble_eq_true rfl) rfl (ee110 (d + 0) o10 (0:Int32) (0:Int32) g12 e13) ?_
      refine pv_e_ifeq (off := 10) (b := 54) (pc' := 47) (by decide +kernel) (by decide +kernel) rfl (fun c16 => ?_) (fun c16 => ?_)
      · rw [if_pos c16] at h
        refine pv_e_bk (ps := [(54, .iconst 1, 1), (55, .istore_n 3, 1)]) (t' := (0, 0, 56, [some (.ref 0), some (.int x1), some (.int q8), some (.int (1:Int32)), none], [], pv_mm s15 T)) (by decide +kernel) rfl ?_
        obtain ⟨o40, e39, h⟩ := Option.bind_eq_some_iff.mp h
        refine pv_lp_ok (H := f85_spare_b1_H xs L d r T x1 q8) (X := f85_spare_b1_X xs L d r T x1 q8) (Z := (fun q => (some (.int q.1), pv_mm q.2 T) = r)) (f85_spare_b1_ok (xs := xs) (L := L) (d := d) (r := r) (T := T) (v1 := x1) (v2 := q8)) 20000 _ _ e39 ?_ _
        rcases o40 with ⟨w36, s37⟩ | q
        · dsimp only at h ⊢
          show ∀ z3 : Option Value, ∀ z4 : Option Value, pv_Ev xs L (d + 6) 85 (0, 0, 132, [some (.ref 0), some (.int x1), some (.int q8), z3, z4], [], pv_mm s37 T) r
          intro z3 z4
          refine pv_e_bk (ps := [(132, .bipush (-9), 2)]) (t' := (0, 0, 134, [some (.ref 0), some (.int x1), some (.int q8), z3, z4], [.int (-9:Int32)], pv_mm s37 T)) (by decide +kernel) rfl ?_
          obtain rfl := Option.some.inj h
          cases hr
          exact pv_e_ri (by decide +kernel)
        · dsimp only at h ⊢
          obtain rfl := Option.some.inj h
          exact hr
      · rw [if_neg c16] at h
        refine pv_e_bk (ps := [(47, .aload_n 0, 1), (48, .iconst 0, 1)]) (t' := (0, 0, 49, [some (.ref 0), some (.int x1), some (.int q8), none, none], [.int (0:Int32), .ref 0], pv_mm s15 T)) (by decide +kernel) rfl ?_
        obtain ⟨s41, e42, h⟩ := Option.bind_eq_some_iff.mp h
        refine pv_e_pcs (i := 50) (ci := 5) (j := 8) (pc' := 52) (by decide +kernel) rfl rfl (by decide) rfl rfl e42 rfl ?_
        refine pv_e_bk (ps := [(52, .iconst 0, 1)]) (t' := (0, 0, 53, [some (.ref 0), some (.int x1), some (.int q8), none, none], [.int (0:Int32)], pv_mm s41 T)) (by decide +kernel) rfl ?_
        obtain rfl := Option.some.inj h
        cases hr
        exact pv_e_ri (by decide +kernel)
    · rw [if_neg c9] at h
      refine pv_e_bk (ps := [(26, .aload_n 0, 1), (27, .iload_n 2, 1)]) (t' := (0, 0, 28, [some (.ref 0), some (.int x1), some (.int q8), none, none], [.int q8, .ref 0], pv_mm s T)) (by decide +kernel) rfl ?_
      obtain ⟨⟨q44, s45⟩, e43, h⟩ := Option.bind_eq_some_iff.mp h
      dsimp only at h
      refine pv_e_cvi (d := d + 5) (i := 63) (z := 104) (np := 1) (ml := 2) (ci := 5) (As := [.int q8]) (rs := []) (pc' := 31) (by decide +kernel) rfl rfl rfl rfl (Nat.le_of_ble_eq_true rfl) (Nat.le_of_ble_eq_true rfl) rfl (ee104 (d + 5) q8 e43) ?_
      obtain rfl := Option.some.inj h
      cases hr
      exact pv_e_ri (by decide +kernel)
