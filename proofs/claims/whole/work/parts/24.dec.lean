-- printed by wip/whole/gen/parts.py: methods as functions over the ints of the memory, and that the pure machine runs so
def f38_seekCallers_b1 (rec : Nat → Int32 → Int32 → pv_F → Option (pv_F)) (v1 : Nat) (v2 : Int32) (v3 : Int32) (st : Int32 × pv_F) : Option ((Int32 × pv_F) ⊕ (Int32 × pv_F)) := match st with
  | (v4, s) =>
    (pv_ra 41 7 v2).bind fun o5 =>
    if (s o5 3) ≤ v4 then
      some (.inr (v4, s))
    else
      (pv_ra 41 7 v2).bind fun o9 =>
      (pv_rd s (v1 + 1) (pv_an (v1 + 1)) v2).bind fun q12 =>
      (f12_comers o9 v4 q12 s).bind fun q15 =>
      (f224_bitCount q15).bind fun q17 =>
      ((
        if q15 = 0 then
          some s
        else
          if (s 40 6) ≤ ((v3 + q17) - (1:Int32)) then
            some s
          else
            (pv_wr s 42 6 v2 v4).bind fun s23 =>
            (f35_goOn v2 v4 q15 s23).bind fun s26 =>
            (rec v1 (v2 + (1:Int32)) ((v3 + q17) - (1:Int32)) s26).bind fun s28 =>
            some s28) : Option (pv_F)).bind fun s18 =>
      some (.inl (v4 + (1:Int32), s18))
def f38_seekCallers_b1_H (xs : Nat → Int32) (L d : Nat) (r : Option Value × pv_M) (T : pv_T) (v1 : Nat) (v2 : Int32) (v3 : Int32) (st : Int32 × pv_F) : Prop := match st with
  | (v4, s) => ∀ z5 : Option Value, ∀ z6 : Option Value, pv_Ev xs L (d + 6) 38 (0, 0, 23, [some (.ref 40), some (.ref v1), some (.int v2), some (.int v3), some (.int v4), z5, z6], [], pv_mm s T) r
def f38_seekCallers_b1_X (xs : Nat → Int32) (L d : Nat) (r : Option Value × pv_M) (T : pv_T) (v1 : Nat) (v2 : Int32) (v3 : Int32) (st : Int32 × pv_F) : Prop := match st with
  | (v4, s) => ∀ z4 : Option Value, ∀ z5 : Option Value, ∀ z6 : Option Value, pv_Ev xs L (d + 6) 38 (0, 0, 114, [some (.ref 40), some (.ref v1), some (.int v2), some (.int v3), z4, z5, z6], [], pv_mm s T) r
def f38_seekCallers_s (rec : Nat → Int32 → Int32 → pv_F → Option (pv_F)) (x1 : Nat) (x2 : Int32) (x3 : Int32) (s : pv_F) : Option (pv_F) :=
  if (s x1 2) ≤ x2 then
    (f36_takeTrial x2 x3 s).bind fun s3 =>
    some s3
  else
    if x2 < (5:Int32) then
      (pv_lq (f38_seekCallers_b1 rec x1 x2 x3) 20000 ((0:Int32), s)).bind fun (w29, s30) =>
      some s30
    else
      (f36_takeTrial x2 x3 s).bind fun s34 =>
      some s34
def f38_seekCallers : Nat → Nat → Int32 → Int32 → pv_F → Option (pv_F)
  | 0 => fun _ _ _ _ => none
  | n + 1 => fun x1 x2 x3 s => f38_seekCallers_s (f38_seekCallers n) x1 x2 x3 s
theorem f38_seekCallers_b1_ok {xs : Nat → Int32} {L d : Nat} {r : Option Value × pv_M} {rec : Nat → Int32 → Int32 → pv_F → Option (pv_F)} {T : pv_T} {v1 : Nat} {v2 : Int32} {v3 : Int32} (hrec : ∀ (x1 : Nat) (x2 : Int32) (x3 : Int32) (s : pv_F) (q : pv_F), x1 ∈ pv_rows → rec x1 x2 x3 s = some q → pv_Ev xs L (d + 5) 38 (0, 0, 0, [some (.ref 40), some (.ref x1), some (.int x2), some (.int x3), none, none, none], [], pv_mm s T) (none, pv_mm q T)) (g1 : v1 ∈ pv_rows) (st : Int32 × pv_F) (o : (Int32 × pv_F) ⊕ (Int32 × pv_F)) (h : f38_seekCallers_b1 rec v1 v2 v3 st = some o) (hK : pv_Kq (f38_seekCallers_b1_H xs L d r T v1 v2 v3) (f38_seekCallers_b1_X xs L d r T v1 v2 v3) o) : f38_seekCallers_b1_H xs L d r T v1 v2 v3 st := by
  obtain ⟨v4, s⟩ := st
  show ∀ z5 : Option Value, ∀ z6 : Option Value, pv_Ev xs L (d + 6) 38 (0, 0, 23, [some (.ref 40), some (.ref v1), some (.int v2), some (.int v3), some (.int v4), z5, z6], [], pv_mm s T) r
  intro z5 z6
  unfold f38_seekCallers_b1 at h
  dsimp only at h
  refine pv_e_bk (ps := [(23, .iload 4, 2), (25, .aload_n 0, 1)]) (t' := (0, 0, 26, [some (.ref 40), some (.ref v1), some (.int v2), some (.int v3), some (.int v4), z5, z6], [.ref 40, .int v4], pv_mm s T)) (by decide +kernel) rfl ?_
  refine pv_e_gr (i := 11) (ci := 3) (j := 0) (b := 41) (pc' := 29) (by decide +kernel) rfl rfl rfl ?_
  refine pv_e_bk (ps := [(29, .iload_n 2, 1)]) (t' := (0, 0, 30, [some (.ref 40), some (.ref v1), some (.int v2), some (.int v3), some (.int v4), z5, z6], [.int v2, .ref 41, .int v4], pv_mm s T)) (by decide +kernel) rfl ?_
  obtain ⟨o5, e6, h⟩ := Option.bind_eq_some_iff.mp h
  have g7 := ra_levels e6
  refine pv_e_ra (zz := 7) (pc' := 31) (by decide +kernel) rfl (by decide) e6 rfl ?_
  refine pv_e_gc (i := 87) (ci := 1) (j := 3) (pc' := 34) (by decide +kernel) (by have := (fk g7).2.2.2.2; omega) (fk g7).1 rfl rfl ?_
  refine pv_e_icmpge (off := 80) (b := 114) (pc' := 37) (by decide +kernel) (by decide +kernel) rfl (fun c8 => ?_) (fun c8 => ?_)
  · rw [if_pos c8] at h
    obtain rfl := Option.some.inj h
    exact hK _ _ _
  · rw [if_neg c8] at h
    refine pv_e_bk (ps := [(37, .aload_n 0, 1)]) (t' := (0, 0, 38, [some (.ref 40), some (.ref v1), some (.int v2), some (.int v3), some (.int v4), z5, z6], [.ref 40], pv_mm s T)) (by decide +kernel) rfl ?_
    refine pv_e_gr (i := 11) (ci := 3) (j := 0) (b := 41) (pc' := 41) (by decide +kernel) rfl rfl rfl ?_
    refine pv_e_bk (ps := [(41, .iload_n 2, 1)]) (t' := (0, 0, 42, [some (.ref 40), some (.ref v1), some (.int v2), some (.int v3), some (.int v4), z5, z6], [.int v2, .ref 41], pv_mm s T)) (by decide +kernel) rfl ?_
    obtain ⟨o9, e10, h⟩ := Option.bind_eq_some_iff.mp h
    have g11 := ra_levels e10
    refine pv_e_ra (zz := 7) (pc' := 43) (by decide +kernel) rfl (by decide) e10 rfl ?_
    refine pv_e_bk (ps := [(43, .iload 4, 2), (45, .aload_n 1, 1)]) (t' := (0, 0, 46, [some (.ref 40), some (.ref v1), some (.int v2), some (.int v3), some (.int v4), z5, z6], [.ref v1, .int v4, .ref o9], pv_mm s T)) (by decide +kernel) rfl ?_
    refine pv_e_gr (i := 53) (ci := 2) (j := 0) (b := v1 + 1) (pc' := 49) (by decide +kernel) (rw_ g1).1 rfl rfl ?_
    refine pv_e_bk (ps := [(49, .iload_n 2, 1)]) (t' := (0, 0, 50, [some (.ref 40), some (.ref v1), some (.int v2), some (.int v3), some (.int v4), z5, z6], [.int v2, .ref (v1 + 1), .int v4, .ref o9], pv_mm s T)) (by decide +kernel) rfl ?_
    obtain ⟨q12, e13, h⟩ := Option.bind_eq_some_iff.mp h
    refine pv_e_rc (pc' := 51) (by decide +kernel) (rw_ g1).2.2 (rw_ g1).2.1 e13 rfl ?_
    obtain ⟨q15, e14, h⟩ := Option.bind_eq_some_iff.mp h
    refine pv_e_cvi (d := d + 5) (i := 56) (z := 12) (np := 2) (ml := 4) (ci := 1) (As := [.int v4, .int q12]) (rs := []) (pc' := 54) (by decide +kernel) (fk g11).1 rfl rfl rfl (Nat.le_of_ble_eq_true rfl) (Nat.le_of_ble_eq_true rfl) rfl (ee12 (d + 3) o9 v4 q12 g11 e14) ?_
    refine pv_e_bk (ps := [(54, .istore 5, 2), (56, .iload_n 3, 1), (57, .iload 5, 2)]) (t' := (0, 0, 59, [some (.ref 40), some (.ref v1), some (.int v2), some (.int v3), some (.int v4), some (.int q15), z6], [.int q15, .int v3], pv_mm s T)) (by decide +kernel) rfl ?_
    obtain ⟨q17, e16, h⟩ := Option.bind_eq_some_iff.mp h
    refine pv_e_csi (d := d + 5) (i := 60) (z := 224) (np := 1) (ml := 1) (As := [.int q15]) (rs := [.int v3]) (pc' := 62) (by decide +kernel) rfl rfl rfl (Nat.le_of_ble_eq_true rfl) (Nat.le_of_ble_eq_true rfl) rfl (ee224 (d + 5) q15 e16) ?_
    refine pv_e_bk (ps := [(62, .iadd, 1), (63, .iconst 1, 1), (64, .isub, 1), (65, .istore 6, 2), (67, .iload 5, 2)]) (t' := (0, 0, 69, [some (.ref 40), some (.ref v1), some (.int v2), some (.int v3), some (.int v4), some (.int q15), some (.int ((v3 + q17) - (1:Int32)))], [.int q15], pv_mm s T)) (by decide +kernel) rfl ?_
    obtain ⟨s18, hv19, h⟩ := Option.bind_eq_some_iff.mp h
    have hJ20 : pv_Ev xs L (d + 6) 38 (0, 0, 108, [some (.ref 40), some (.ref v1), some (.int v2), some (.int v3), some (.int v4), some (.int q15), some (.int ((v3 + q17) - (1:Int32)))], [], pv_mm s18 T) r := by
      refine pv_e_bk (ps := [(108, .iinc 4 1, 3), (111, .goto (-88), 3)]) (t' := (0, 0, 23, [some (.ref 40), some (.ref v1), some (.int v2), some (.int v3), some (.int (v4 + (1:Int32))), some (.int q15), some (.int ((v3 + q17) - (1:Int32)))], [], pv_mm s18 T)) (by decide +kernel) rfl ?_
      obtain rfl := Option.some.inj h
      exact hK _ _
    clear h
    have h := hv19
    clear hv19
    refine pv_e_ifeq (off := 39) (b := 108) (pc' := 72) (by decide +kernel) (by decide +kernel) rfl (fun c21 => ?_) (fun c21 => ?_)
    · rw [if_pos c21] at h
      obtain rfl := Option.some.inj h
      exact hJ20
    · rw [if_neg c21] at h
      refine pv_e_bk (ps := [(72, .iload 6, 2), (74, .aload_n 0, 1)]) (t' := (0, 0, 75, [some (.ref 40), some (.ref v1), some (.int v2), some (.int v3), some (.int v4), some (.int q15), some (.int ((v3 + q17) - (1:Int32)))], [.ref 40, .int ((v3 + q17) - (1:Int32))], pv_mm s T)) (by decide +kernel) rfl ?_
      refine pv_e_gc (i := 34) (ci := 3) (j := 6) (pc' := 78) (by decide +kernel) (by decide) rfl rfl rfl ?_
      refine pv_e_icmpge (off := 30) (b := 108) (pc' := 81) (by decide +kernel) (by decide +kernel) rfl (fun c22 => ?_) (fun c22 => ?_)
      · rw [if_pos c22] at h
        obtain rfl := Option.some.inj h
        exact hJ20
      · rw [if_neg c22] at h
        refine pv_e_bk (ps := [(81, .aload_n 0, 1)]) (t' := (0, 0, 82, [some (.ref 40), some (.ref v1), some (.int v2), some (.int v3), some (.int v4), some (.int q15), some (.int ((v3 + q17) - (1:Int32)))], [.ref 40], pv_mm s T)) (by decide +kernel) rfl ?_
        refine pv_e_gr (i := 17) (ci := 3) (j := 1) (b := 42) (pc' := 85) (by decide +kernel) rfl rfl rfl ?_
        refine pv_e_bk (ps := [(85, .iload_n 2, 1), (86, .iload 4, 2)]) (t' := (0, 0, 88, [some (.ref 40), some (.ref v1), some (.int v2), some (.int v3), some (.int v4), some (.int q15), some (.int ((v3 + q17) - (1:Int32)))], [.int v4, .int v2, .ref 42], pv_mm s T)) (by decide +kernel) rfl ?_
        obtain ⟨s23, e24, h⟩ := Option.bind_eq_some_iff.mp h
        refine pv_e_wc (pc' := 89) (by decide +kernel) (by decide) rfl e24 rfl ?_
        refine pv_e_bk (ps := [(89, .aload_n 0, 1), (90, .iload_n 2, 1), (91, .iload 4, 2), (93, .iload 5, 2)]) (t' := (0, 0, 95, [some (.ref 40), some (.ref v1), some (.int v2), some (.int v3), some (.int v4), some (.int q15), some (.int ((v3 + q17) - (1:Int32)))], [.int q15, .int v4, .int v2, .ref 40], pv_mm s23 T)) (by decide +kernel) rfl ?_
        obtain ⟨s26, e25, h⟩ := Option.bind_eq_some_iff.mp h
        refine pv_e_cvv (d := d + 5) (i := 80) (z := 35) (np := 3) (ml := 4) (ci := 3) (As := [.int v2, .int v4, .int q15]) (rs := []) (pc' := 98) (by decide +kernel) rfl rfl rfl rfl (Nat.le_of_ble_eq_true rfl) (Nat.le_of_ble_eq_true rfl) rfl (ee35 (d + 1) v2 v4 q15 e25) ?_
        refine pv_e_bk (ps := [(98, .aload_n 0, 1), (99, .aload_n 1, 1), (100, .iload_n 2, 1), (101, .iconst 1, 1), (102, .iadd, 1), (103, .iload 6, 2)]) (t' := (0, 0, 105, [some (.ref 40), some (.ref v1), some (.int v2), some (.int v3), some (.int v4), some (.int q15), some (.int ((v3 + q17) - (1:Int32)))], [.int ((v3 + q17) - (1:Int32)), .int (v2 + (1:Int32)), .ref v1, .ref 40], pv_mm s26 T)) (by decide +kernel) rfl ?_
        obtain ⟨s28, e27, h⟩ := Option.bind_eq_some_iff.mp h
        refine pv_e_cvv (d := d + 5) (i := 88) (z := 38) (np := 3) (ml := 7) (ci := 3) (As := [.ref v1, .int (v2 + (1:Int32)), .int ((v3 + q17) - (1:Int32))]) (rs := []) (pc' := 108) (by decide +kernel) rfl rfl rfl rfl (Nat.le_of_ble_eq_true rfl) (Nat.le_of_ble_eq_true rfl) rfl (hrec v1 (v2 + (1:Int32)) ((v3 + q17) - (1:Int32)) s26 _ g1 e27) ?_
        obtain rfl := Option.some.inj h
        exact hJ20
theorem ee38_s {xs : Nat → Int32} {L d : Nat} {rec : Nat → Int32 → Int32 → pv_F → Option (pv_F)} {x1 : Nat} {x2 : Int32} {x3 : Int32} {s : pv_F} {T : pv_T} {q : pv_F} (hrec : ∀ (x1 : Nat) (x2 : Int32) (x3 : Int32) (s : pv_F) (q : pv_F), x1 ∈ pv_rows → rec x1 x2 x3 s = some q → pv_Ev xs L (d + 5) 38 (0, 0, 0, [some (.ref 40), some (.ref x1), some (.int x2), some (.int x3), none, none, none], [], pv_mm s T) (none, pv_mm q T)) (g1 : x1 ∈ pv_rows) (h : f38_seekCallers_s rec x1 x2 x3 s = some q) : pv_Ev xs L (d + 6) 38 (0, 0, 0, [some (.ref 40), some (.ref x1), some (.int x2), some (.int x3), none, none, none], [], pv_mm s T) (none, pv_mm q T) := by
  generalize hr : ((none, pv_mm q T) : Option Value × pv_M) = r
  unfold f38_seekCallers_s at h
  refine pv_e_bk (ps := [(0, .iload_n 2, 1), (1, .aload_n 1, 1)]) (t' := (0, 0, 2, [some (.ref 40), some (.ref x1), some (.int x2), some (.int x3), none, none, none], [.ref x1, .int x2], pv_mm s T)) (by decide +kernel) rfl ?_
  refine pv_e_gc (i := 48) (ci := 2) (j := 2) (pc' := 5) (by decide +kernel) (by have := (rw_ g1).2.2; omega) (rw_ g1).1 rfl rfl ?_
  refine pv_e_icmpge (off := 8) (b := 13) (pc' := 8) (by decide +kernel) (by decide +kernel) rfl (fun c1 => ?_) (fun c1 => ?_)
  · rw [if_pos c1] at h
    refine pv_e_bk (ps := [(13, .aload_n 0, 1), (14, .iload_n 2, 1), (15, .iload_n 3, 1)]) (t' := (0, 0, 16, [some (.ref 40), some (.ref x1), some (.int x2), some (.int x3), none, none, none], [.int x3, .int x2, .ref 40], pv_mm s T)) (by decide +kernel) rfl ?_
    obtain ⟨s3, e2, h⟩ := Option.bind_eq_some_iff.mp h
    refine pv_e_cvv (d := d + 5) (i := 76) (z := 36) (np := 2) (ml := 3) (ci := 3) (As := [.int x2, .int x3]) (rs := []) (pc' := 19) (by decide +kernel) rfl rfl rfl rfl (Nat.le_of_ble_eq_true rfl) (Nat.le_of_ble_eq_true rfl) rfl (ee36 (d + 4) x2 x3 e2) ?_
    obtain rfl := Option.some.inj h
    cases hr
    exact pv_e_rv (by decide +kernel)
  · rw [if_neg c1] at h
    refine pv_e_bk (ps := [(8, .iload_n 2, 1), (9, .iconst 5, 1)]) (t' := (0, 0, 10, [some (.ref 40), some (.ref x1), some (.int x2), some (.int x3), none, none, none], [.int (5:Int32), .int x2], pv_mm s T)) (by decide +kernel) rfl ?_
    refine pv_e_icmplt (off := 10) (b := 20) (pc' := 13) (by decide +kernel) (by decide +kernel) rfl (fun c4 => ?_) (fun c4 => ?_)
    · rw [if_pos c4] at h
      refine pv_e_bk (ps := [(20, .iconst 0, 1), (21, .istore 4, 2)]) (t' := (0, 0, 23, [some (.ref 40), some (.ref x1), some (.int x2), some (.int x3), some (.int (0:Int32)), none, none], [], pv_mm s T)) (by decide +kernel) rfl ?_
      obtain ⟨⟨w29, s30⟩, e32, h⟩ := Option.bind_eq_some_iff.mp h
      dsimp only at h
      have hx31 : f38_seekCallers_b1_X xs L d r T x1 x2 x3 (w29, s30) := by
        show ∀ z4 : Option Value, ∀ z5 : Option Value, ∀ z6 : Option Value, pv_Ev xs L (d + 6) 38 (0, 0, 114, [some (.ref 40), some (.ref x1), some (.int x2), some (.int x3), z4, z5, z6], [], pv_mm s30 T) r
        intro z4 z5 z6
        obtain rfl := Option.some.inj h
        cases hr
        exact pv_e_rv (by decide +kernel)
      exact pv_lq_ok (H := f38_seekCallers_b1_H xs L d r T x1 x2 x3) (X := f38_seekCallers_b1_X xs L d r T x1 x2 x3) (f38_seekCallers_b1_ok (xs := xs) (L := L) (d := d) (r := r) (T := T) (v1 := x1) (v2 := x2) (v3 := x3) hrec g1) 20000 _ _ e32 hx31 _ _
    · rw [if_neg c4] at h
      refine pv_e_bk (ps := [(13, .aload_n 0, 1), (14, .iload_n 2, 1), (15, .iload_n 3, 1)]) (t' := (0, 0, 16, [some (.ref 40), some (.ref x1), some (.int x2), some (.int x3), none, none, none], [.int x3, .int x2, .ref 40], pv_mm s T)) (by decide +kernel) rfl ?_
      obtain ⟨s34, e33, h⟩ := Option.bind_eq_some_iff.mp h
      refine pv_e_cvv (d := d + 5) (i := 76) (z := 36) (np := 2) (ml := 3) (ci := 3) (As := [.int x2, .int x3]) (rs := []) (pc' := 19) (by decide +kernel) rfl rfl rfl rfl (Nat.le_of_ble_eq_true rfl) (Nat.le_of_ble_eq_true rfl) rfl (ee36 (d + 4) x2 x3 e33) ?_
      obtain rfl := Option.some.inj h
      cases hr
      exact pv_e_rv (by decide +kernel)
theorem ee38 {xs : Nat → Int32} {L : Nat} (d : Nat) : ∀ (n : Nat) (x1 : Nat) (x2 : Int32) (x3 : Int32) {s : pv_F} {T : pv_T} {q : pv_F} (g1 : x1 ∈ pv_rows) (h : f38_seekCallers n x1 x2 x3 s = some q), pv_Ev xs L (d + n + 5) 38 (0, 0, 0, [some (.ref 40), some (.ref x1), some (.int x2), some (.int x3), none, none, none], [], pv_mm s T) (none, pv_mm q T) := by
  intro n
  induction n with
  | zero => intros; next h => cases h
  | succ n ih =>
    intro x1 x2 x3 s T q g1 h
    exact ee38_s (d := d + n) (fun x1 x2 x3 s q k0 h => ih x1 x2 x3 k0 h) g1 h
def f40_holdTrial_b1 (v1 : Int32) (st : Int32 × Int32 × pv_F) : Option ((Int32 × Int32 × pv_F) ⊕ (Int32 × Int32 × pv_F)) := match st with
  | (v2, v3, s) =>
    if v1 ≤ v3 then
      some (.inr (v2, v3, s))
    else
      (pv_rd s 44 4 v3).bind fun q2 =>
      (pv_rd s 42 6 v3).bind fun q4 =>
      (pv_wr s 44 4 v3 (q2 ||| ((1:Int32) <<< (q4 &&& 31)))).bind fun s6 =>
      (pv_rd s6 42 6 v3).bind fun q8 =>
      some (.inl (((7:Int32) * v2) + q8, v3 + (1:Int32), s6))
def f40_holdTrial_b1_H (xs : Nat → Int32) (L d : Nat) (r : Option Value × pv_M) (T : pv_T) (v1 : Int32) (st : Int32 × Int32 × pv_F) : Prop := match st with
  | (v2, v3, s) => pv_Ev xs L (d + 0) 40 (0, 0, 4, [some (.ref 40), some (.int v1), some (.int v2), some (.int v3)], [], pv_mm s T) r
def f40_holdTrial_b1_X (xs : Nat → Int32) (L d : Nat) (r : Option Value × pv_M) (T : pv_T) (v1 : Int32) (st : Int32 × Int32 × pv_F) : Prop := match st with
  | (v2, v3, s) => ∀ z3 : Option Value, pv_Ev xs L (d + 0) 40 (0, 0, 44, [some (.ref 40), some (.int v1), some (.int v2), z3], [], pv_mm s T) r
def f40_holdTrial (x1 : Int32) (s : pv_F) : Option (pv_F) :=
  (pv_lq (f40_holdTrial_b1 x1) 20000 ((0:Int32), (0:Int32), s)).bind fun (w10, w11, s12) =>
  ((
    if (s12 40 7) = 0 then
      some w10
    else
      some (s12 40 8)) : Option (Int32)).bind fun t13 =>
  (pv_pf s12 40 8 t13).bind fun s14 =>
  (pv_pf s14 40 7 ((s14 40 7) + (1:Int32))).bind fun s16 =>
  some s16
theorem f40_holdTrial_b1_ok {xs : Nat → Int32} {L d : Nat} {r : Option Value × pv_M} {T : pv_T} {v1 : Int32} (st : Int32 × Int32 × pv_F) (o : (Int32 × Int32 × pv_F) ⊕ (Int32 × Int32 × pv_F)) (h : f40_holdTrial_b1 v1 st = some o) (hK : pv_Kq (f40_holdTrial_b1_H xs L d r T v1) (f40_holdTrial_b1_X xs L d r T v1) o) : f40_holdTrial_b1_H xs L d r T v1 st := by
  obtain ⟨v2, v3, s⟩ := st
  show pv_Ev xs L (d + 0) 40 (0, 0, 4, [some (.ref 40), some (.int v1), some (.int v2), some (.int v3)], [], pv_mm s T) r
  unfold f40_holdTrial_b1 at h
  dsimp only at h
  refine pv_e_bk (ps := [(4, .iload_n 3, 1), (5, .iload_n 1, 1)]) (t' := (0, 0, 6, [some (.ref 40), some (.int v1), some (.int v2), some (.int v3)], [.int v1, .int v3], pv_mm s T)) (by decide +kernel) rfl ?_
  refine pv_e_icmpge (off := 38) (b := 44) (pc' := 9) (by decide +kernel) (by decide +kernel) rfl (fun c1 => ?_) (fun c1 => ?_)
  · rw [if_pos c1] at h
    obtain rfl := Option.some.inj h
    exact hK _
  · rw [if_neg c1] at h
    refine pv_e_bk (ps := [(9, .aload_n 0, 1)]) (t' := (0, 0, 10, [some (.ref 40), some (.int v1), some (.int v2), some (.int v3)], [.ref 40], pv_mm s T)) (by decide +kernel) rfl ?_
    refine pv_e_gr (i := 24) (ci := 3) (j := 3) (b := 44) (pc' := 13) (by decide +kernel) rfl rfl rfl ?_
    refine pv_e_bk (ps := [(13, .iload_n 3, 1), (14, .dup2, 1)]) (t' := (0, 0, 15, [some (.ref 40), some (.int v1), some (.int v2), some (.int v3)], [.int v3, .ref 44, .int v3, .ref 44], pv_mm s T)) (by decide +kernel) rfl ?_
    obtain ⟨q2, e3, h⟩ := Option.bind_eq_some_iff.mp h
    refine pv_e_rc (pc' := 16) (by decide +kernel) (by decide) rfl e3 rfl ?_
    refine pv_e_bk (ps := [(16, .iconst 1, 1), (17, .aload_n 0, 1)]) (t' := (0, 0, 18, [some (.ref 40), some (.int v1), some (.int v2), some (.int v3)], [.ref 40, .int (1:Int32), .int q2, .int v3, .ref 44], pv_mm s T)) (by decide +kernel) rfl ?_
    refine pv_e_gr (i := 17) (ci := 3) (j := 1) (b := 42) (pc' := 21) (by decide +kernel) rfl rfl rfl ?_
    refine pv_e_bk (ps := [(21, .iload_n 3, 1)]) (t' := (0, 0, 22, [some (.ref 40), some (.int v1), some (.int v2), some (.int v3)], [.int v3, .ref 42, .int (1:Int32), .int q2, .int v3, .ref 44], pv_mm s T)) (by decide +kernel) rfl ?_
    obtain ⟨q4, e5, h⟩ := Option.bind_eq_some_iff.mp h
    refine pv_e_rc (pc' := 23) (by decide +kernel) (by decide) rfl e5 rfl ?_
    refine pv_e_bk (ps := [(23, .ishl, 1), (24, .ior, 1)]) (t' := (0, 0, 25, [some (.ref 40), some (.int v1), some (.int v2), some (.int v3)], [.int (q2 ||| ((1:Int32) <<< (q4 &&& 31))), .int v3, .ref 44], pv_mm s T)) (by decide +kernel) rfl ?_
    obtain ⟨s6, e7, h⟩ := Option.bind_eq_some_iff.mp h
    refine pv_e_wc (pc' := 26) (by decide +kernel) (by decide) rfl e7 rfl ?_
    refine pv_e_bk (ps := [(26, .bipush 7, 2), (28, .iload_n 2, 1), (29, .imul, 1), (30, .aload_n 0, 1)]) (t' := (0, 0, 31, [some (.ref 40), some (.int v1), some (.int v2), some (.int v3)], [.ref 40, .int ((7:Int32) * v2)], pv_mm s6 T)) (by decide +kernel) rfl ?_
    refine pv_e_gr (i := 17) (ci := 3) (j := 1) (b := 42) (pc' := 34) (by decide +kernel) rfl rfl rfl ?_
    refine pv_e_bk (ps := [(34, .iload_n 3, 1)]) (t' := (0, 0, 35, [some (.ref 40), some (.int v1), some (.int v2), some (.int v3)], [.int v3, .ref 42, .int ((7:Int32) * v2)], pv_mm s6 T)) (by decide +kernel) rfl ?_
    obtain ⟨q8, e9, h⟩ := Option.bind_eq_some_iff.mp h
    refine pv_e_rc (pc' := 36) (by decide +kernel) (by decide) rfl e9 rfl ?_
    refine pv_e_bk (ps := [(36, .iadd, 1), (37, .istore_n 2, 1), (38, .iinc 3 1, 3), (41, .goto (-37), 3)]) (t' := (0, 0, 4, [some (.ref 40), some (.int v1), some (.int (((7:Int32) * v2) + q8)), some (.int (v3 + (1:Int32)))], [], pv_mm s6 T)) (by decide +kernel) rfl ?_
    obtain rfl := Option.some.inj h
    exact hK
theorem ee40 {xs : Nat → Int32} {L : Nat} (d : Nat) (x1 : Int32) {s : pv_F} {T : pv_T} {q : pv_F}  (h : f40_holdTrial x1 s = some q) : pv_Ev xs L (d + 0) 40 (0, 0, 0, [some (.ref 40), some (.int x1), none, none], [], pv_mm s T) (none, pv_mm q T) := by
  generalize hr : ((none, pv_mm q T) : Option Value × pv_M) = r
  unfold f40_holdTrial at h
  refine pv_e_bk (ps := [(0, .iconst 0, 1), (1, .istore_n 2, 1), (2, .iconst 0, 1), (3, .istore_n 3, 1)]) (t' := (0, 0, 4, [some (.ref 40), some (.int x1), some (.int (0:Int32)), some (.int (0:Int32))], [], pv_mm s T)) (by decide +kernel) rfl ?_
  obtain ⟨⟨w10, w11, s12⟩, e22, h⟩ := Option.bind_eq_some_iff.mp h
  dsimp only at h
  have hx21 : f40_holdTrial_b1_X xs L d r T x1 (w10, w11, s12) := by
    show ∀ z3 : Option Value, pv_Ev xs L (d + 0) 40 (0, 0, 44, [some (.ref 40), some (.int x1), some (.int w10), z3], [], pv_mm s12 T) r
    intro z3
    refine pv_e_bk (ps := [(44, .aload_n 0, 1), (45, .aload_n 0, 1)]) (t' := (0, 0, 46, [some (.ref 40), some (.int x1), some (.int w10), z3], [.ref 40, .ref 40], pv_mm s12 T)) (by decide +kernel) rfl ?_
    refine pv_e_gc (i := 37) (ci := 3) (j := 7) (pc' := 49) (by decide +kernel) (by decide) rfl rfl rfl ?_
    obtain ⟨t13, hv18, h⟩ := Option.bind_eq_some_iff.mp h
    have hJ19 : pv_Ev xs L (d + 0) 40 (0, 0, 60, [some (.ref 40), some (.int x1), some (.int w10), z3], [.int t13, .ref 40], pv_mm s12 T) r := by
      obtain ⟨s14, e15, h⟩ := Option.bind_eq_some_iff.mp h
      refine pv_e_pcs (i := 40) (ci := 3) (j := 8) (pc' := 63) (by decide +kernel) rfl rfl (by decide) rfl rfl e15 rfl ?_
      refine pv_e_bk (ps := [(63, .aload_n 0, 1), (64, .dup, 1)]) (t' := (0, 0, 65, [some (.ref 40), some (.int x1), some (.int w10), z3], [.ref 40, .ref 40], pv_mm s14 T)) (by decide +kernel) rfl ?_
      refine pv_e_gc (i := 37) (ci := 3) (j := 7) (pc' := 68) (by decide +kernel) (by decide) rfl rfl rfl ?_
      refine pv_e_bk (ps := [(68, .iconst 1, 1), (69, .iadd, 1)]) (t' := (0, 0, 70, [some (.ref 40), some (.int x1), some (.int w10), z3], [.int ((s14 40 7) + (1:Int32)), .ref 40], pv_mm s14 T)) (by decide +kernel) rfl ?_
      obtain ⟨s16, e17, h⟩ := Option.bind_eq_some_iff.mp h
      refine pv_e_pcs (i := 37) (ci := 3) (j := 7) (pc' := 73) (by decide +kernel) rfl rfl (by decide) rfl rfl e17 rfl ?_
      obtain rfl := Option.some.inj h
      cases hr
      exact pv_e_rv (by decide +kernel)
    clear h
    have h := hv18
    clear hv18
    refine pv_e_ifne (off := 7) (b := 56) (pc' := 52) (by decide +kernel) (by decide +kernel) rfl (fun c20 => ?_) (fun c20 => ?_)
    · rw [if_pos c20] at h
      refine pv_e_bk (ps := [(52, .iload_n 2, 1), (53, .goto 7, 3)]) (t' := (0, 0, 60, [some (.ref 40), some (.int x1), some (.int w10), z3], [.int w10, .ref 40], pv_mm s12 T)) (by decide +kernel) rfl ?_
      obtain rfl := Option.some.inj h
      exact hJ19
    · rw [if_neg c20] at h
      refine pv_e_bk (ps := [(56, .aload_n 0, 1)]) (t' := (0, 0, 57, [some (.ref 40), some (.int x1), some (.int w10), z3], [.ref 40, .ref 40], pv_mm s12 T)) (by decide +kernel) rfl ?_
      refine pv_e_gc (i := 40) (ci := 3) (j := 8) (pc' := 60) (by decide +kernel) (by decide) rfl rfl rfl ?_
      obtain rfl := Option.some.inj h
      exact hJ19
  exact pv_lq_ok (H := f40_holdTrial_b1_H xs L d r T x1) (X := f40_holdTrial_b1_X xs L d r T x1) (f40_holdTrial_b1_ok (xs := xs) (L := L) (d := d) (r := r) (T := T) (v1 := x1)) 20000 _ _ e22 hx21
def f39_seekCalled_b1 (rec : Int32 → Nat → Int32 → pv_F → Option (pv_F)) (v1 : Int32) (v2 : Nat) (v3 : Int32) (st : Int32 × pv_F) : Option ((Int32 × pv_F) ⊕ (Int32 × pv_F)) := match st with
  | (v4, s) =>
    (pv_ra 41 7 v3).bind fun o5 =>
    if (s o5 3) ≤ v4 then
      some (.inr (v4, s))
    else
      (pv_ra 41 7 v3).bind fun o9 =>
      (f12_comers o9 v1 v4 s).bind fun q13 =>
      ((
        if q13 = 0 then
          some s
        else
          (pv_rd s (v2 + 1) (pv_an (v2 + 1)) v3).bind fun q18 =>
          if q13 = q18 then
            (pv_wr s 42 6 v3 v4).bind fun s21 =>
            (f35_goOn v3 v1 q13 s21).bind fun s24 =>
            (rec v1 v2 (v3 + (1:Int32)) s24).bind fun s26 =>
            some s26
          else
            some s) : Option (pv_F)).bind fun s14 =>
      some (.inl (v4 + (1:Int32), s14))
def f39_seekCalled_b1_H (xs : Nat → Int32) (L d : Nat) (r : Option Value × pv_M) (T : pv_T) (v1 : Int32) (v2 : Nat) (v3 : Int32) (st : Int32 × pv_F) : Prop := match st with
  | (v4, s) => ∀ z5 : Option Value, pv_Ev xs L (d + 6) 39 (0, 0, 22, [some (.ref 40), some (.int v1), some (.ref v2), some (.int v3), some (.int v4), z5], [], pv_mm s T) r
def f39_seekCalled_b1_X (xs : Nat → Int32) (L d : Nat) (r : Option Value × pv_M) (T : pv_T) (v1 : Int32) (v2 : Nat) (v3 : Int32) (st : Int32 × pv_F) : Prop := match st with
  | (v4, s) => ∀ z4 : Option Value, ∀ z5 : Option Value, pv_Ev xs L (d + 6) 39 (0, 0, 97, [some (.ref 40), some (.int v1), some (.ref v2), some (.int v3), z4, z5], [], pv_mm s T) r
def f39_seekCalled_s (rec : Int32 → Nat → Int32 → pv_F → Option (pv_F)) (x1 : Int32) (x2 : Nat) (x3 : Int32) (s : pv_F) : Option (pv_F) :=
  if (s x2 2) ≤ x3 then
    (f40_holdTrial x3 s).bind fun s3 =>
    some s3
  else
    if x3 < (4:Int32) then
      (pv_lq (f39_seekCalled_b1 rec x1 x2 x3) 20000 ((0:Int32), s)).bind fun (w27, s28) =>
      some s28
    else
      (f40_holdTrial x3 s).bind fun s32 =>
      some s32
def f39_seekCalled : Nat → Int32 → Nat → Int32 → pv_F → Option (pv_F)
  | 0 => fun _ _ _ _ => none
  | n + 1 => fun x1 x2 x3 s => f39_seekCalled_s (f39_seekCalled n) x1 x2 x3 s
theorem f39_seekCalled_b1_ok {xs : Nat → Int32} {L d : Nat} {r : Option Value × pv_M} {rec : Int32 → Nat → Int32 → pv_F → Option (pv_F)} {T : pv_T} {v1 : Int32} {v2 : Nat} {v3 : Int32} (hrec : ∀ (x1 : Int32) (x2 : Nat) (x3 : Int32) (s : pv_F) (q : pv_F), x2 ∈ pv_rows → rec x1 x2 x3 s = some q → pv_Ev xs L (d + 5) 39 (0, 0, 0, [some (.ref 40), some (.int x1), some (.ref x2), some (.int x3), none, none], [], pv_mm s T) (none, pv_mm q T)) (g2 : v2 ∈ pv_rows) (st : Int32 × pv_F) (o : (Int32 × pv_F) ⊕ (Int32 × pv_F)) (h : f39_seekCalled_b1 rec v1 v2 v3 st = some o) (hK : pv_Kq (f39_seekCalled_b1_H xs L d r T v1 v2 v3) (f39_seekCalled_b1_X xs L d r T v1 v2 v3) o) : f39_seekCalled_b1_H xs L d r T v1 v2 v3 st := by
  obtain ⟨v4, s⟩ := st
  show ∀ z5 : Option Value, pv_Ev xs L (d + 6) 39 (0, 0, 22, [some (.ref 40), some (.int v1), some (.ref v2), some (.int v3), some (.int v4), z5], [], pv_mm s T) r
  intro z5
  unfold f39_seekCalled_b1 at h
  dsimp only at h
  refine pv_e_bk (ps := [(22, .iload 4, 2), (24, .aload_n 0, 1)]) (t' := (0, 0, 25, [some (.ref 40), some (.int v1), some (.ref v2), some (.int v3), some (.int v4), z5], [.ref 40, .int v4], pv_mm s T)) (by decide +kernel) rfl ?_
  refine pv_e_gr (i := 11) (ci := 3) (j := 0) (b := 41) (pc' := 28) (by decide +kernel) rfl rfl rfl ?_
  refine pv_e_bk (ps := [(28, .iload_n 3, 1)]) (t' := (0, 0, 29, [some (.ref 40), some (.int v1), some (.ref v2), some (.int v3), some (.int v4), z5], [.int v3, .ref 41, .int v4], pv_mm s T)) (by decide +kernel) rfl ?_
  obtain ⟨o5, e6, h⟩ := Option.bind_eq_some_iff.mp h
  have g7 := ra_levels e6
  refine pv_e_ra (zz := 7) (pc' := 30) (by decide +kernel) rfl (by decide) e6 rfl ?_
  refine pv_e_gc (i := 87) (ci := 1) (j := 3) (pc' := 33) (by decide +kernel) (by have := (fk g7).2.2.2.2; omega) (fk g7).1 rfl rfl ?_
  refine pv_e_icmpge (off := 64) (b := 97) (pc' := 36) (by decide +kernel) (by decide +kernel) rfl (fun c8 => ?_) (fun c8 => ?_)
  · rw [if_pos c8] at h
    obtain rfl := Option.some.inj h
    exact hK _ _
  · rw [if_neg c8] at h
    refine pv_e_bk (ps := [(36, .aload_n 0, 1)]) (t' := (0, 0, 37, [some (.ref 40), some (.int v1), some (.ref v2), some (.int v3), some (.int v4), z5], [.ref 40], pv_mm s T)) (by decide +kernel) rfl ?_
    refine pv_e_gr (i := 11) (ci := 3) (j := 0) (b := 41) (pc' := 40) (by decide +kernel) rfl rfl rfl ?_
    refine pv_e_bk (ps := [(40, .iload_n 3, 1)]) (t' := (0, 0, 41, [some (.ref 40), some (.int v1), some (.ref v2), some (.int v3), some (.int v4), z5], [.int v3, .ref 41], pv_mm s T)) (by decide +kernel) rfl ?_
    obtain ⟨o9, e10, h⟩ := Option.bind_eq_some_iff.mp h
    have g11 := ra_levels e10
    refine pv_e_ra (zz := 7) (pc' := 42) (by decide +kernel) rfl (by decide) e10 rfl ?_
    refine pv_e_bk (ps := [(42, .iload_n 1, 1), (43, .iload 4, 2)]) (t' := (0, 0, 45, [some (.ref 40), some (.int v1), some (.ref v2), some (.int v3), some (.int v4), z5], [.int v4, .int v1, .ref o9], pv_mm s T)) (by decide +kernel) rfl ?_
    obtain ⟨q13, e12, h⟩ := Option.bind_eq_some_iff.mp h
    refine pv_e_cvi (d := d + 5) (i := 56) (z := 12) (np := 2) (ml := 4) (ci := 1) (As := [.int v1, .int v4]) (rs := []) (pc' := 48) (by decide +kernel) (fk g11).1 rfl rfl rfl (Nat.le_of_ble_eq_true rfl) (Nat.le_of_ble_eq_true rfl) rfl (ee12 (d + 3) o9 v1 v4 g11 e12) ?_
    refine pv_e_bk (ps := [(48, .istore 5, 2), (50, .iload 5, 2)]) (t' := (0, 0, 52, [some (.ref 40), some (.int v1), some (.ref v2), some (.int v3), some (.int v4), some (.int q13)], [.int q13], pv_mm s T)) (by decide +kernel) rfl ?_
    obtain ⟨s14, hv15, h⟩ := Option.bind_eq_some_iff.mp h
    have hJ16 : pv_Ev xs L (d + 6) 39 (0, 0, 91, [some (.ref 40), some (.int v1), some (.ref v2), some (.int v3), some (.int v4), some (.int q13)], [], pv_mm s14 T) r := by
      refine pv_e_bk (ps := [(91, .iinc 4 1, 3), (94, .goto (-72), 3)]) (t' := (0, 0, 22, [some (.ref 40), some (.int v1), some (.ref v2), some (.int v3), some (.int (v4 + (1:Int32))), some (.int q13)], [], pv_mm s14 T)) (by decide +kernel) rfl ?_
      obtain rfl := Option.some.inj h
      exact hK _
    clear h
    have h := hv15
    clear hv15
    refine pv_e_ifeq (off := 39) (b := 91) (pc' := 55) (by decide +kernel) (by decide +kernel) rfl (fun c17 => ?_) (fun c17 => ?_)
    · rw [if_pos c17] at h
      obtain rfl := Option.some.inj h
      exact hJ16
    · rw [if_neg c17] at h
      refine pv_e_bk (ps := [(55, .iload 5, 2), (57, .aload_n 2, 1)]) (t' := (0, 0, 58, [some (.ref 40), some (.int v1), some (.ref v2), some (.int v3), some (.int v4), some (.int q13)], [.ref v2, .int q13], pv_mm s T)) (by decide +kernel) rfl ?_
      refine pv_e_gr (i := 53) (ci := 2) (j := 0) (b := v2 + 1) (pc' := 61) (by decide +kernel) (rw_ g2).1 rfl rfl ?_
      refine pv_e_bk (ps := [(61, .iload_n 3, 1)]) (t' := (0, 0, 62, [some (.ref 40), some (.int v1), some (.ref v2), some (.int v3), some (.int v4), some (.int q13)], [.int v3, .ref (v2 + 1), .int q13], pv_mm s T)) (by decide +kernel) rfl ?_
      obtain ⟨q18, e19, h⟩ := Option.bind_eq_some_iff.mp h
      refine pv_e_rc (pc' := 63) (by decide +kernel) (rw_ g2).2.2 (rw_ g2).2.1 e19 rfl ?_
      refine pv_e_icmpne (off := 28) (b := 91) (pc' := 66) (by decide +kernel) (by decide +kernel) rfl (fun c20 => ?_) (fun c20 => ?_)
      · rw [if_pos c20] at h
        refine pv_e_bk (ps := [(66, .aload_n 0, 1)]) (t' := (0, 0, 67, [some (.ref 40), some (.int v1), some (.ref v2), some (.int v3), some (.int v4), some (.int q13)], [.ref 40], pv_mm s T)) (by decide +kernel) rfl ?_
        refine pv_e_gr (i := 17) (ci := 3) (j := 1) (b := 42) (pc' := 70) (by decide +kernel) rfl rfl rfl ?_
        refine pv_e_bk (ps := [(70, .iload_n 3, 1), (71, .iload 4, 2)]) (t' := (0, 0, 73, [some (.ref 40), some (.int v1), some (.ref v2), some (.int v3), some (.int v4), some (.int q13)], [.int v4, .int v3, .ref 42], pv_mm s T)) (by decide +kernel) rfl ?_
        obtain ⟨s21, e22, h⟩ := Option.bind_eq_some_iff.mp h
        refine pv_e_wc (pc' := 74) (by decide +kernel) (by decide) rfl e22 rfl ?_
        refine pv_e_bk (ps := [(74, .aload_n 0, 1), (75, .iload_n 3, 1), (76, .iload_n 1, 1), (77, .iload 5, 2)]) (t' := (0, 0, 79, [some (.ref 40), some (.int v1), some (.ref v2), some (.int v3), some (.int v4), some (.int q13)], [.int q13, .int v1, .int v3, .ref 40], pv_mm s21 T)) (by decide +kernel) rfl ?_
        obtain ⟨s24, e23, h⟩ := Option.bind_eq_some_iff.mp h
        refine pv_e_cvv (d := d + 5) (i := 80) (z := 35) (np := 3) (ml := 4) (ci := 3) (As := [.int v3, .int v1, .int q13]) (rs := []) (pc' := 82) (by decide +kernel) rfl rfl rfl rfl (Nat.le_of_ble_eq_true rfl) (Nat.le_of_ble_eq_true rfl) rfl (ee35 (d + 1) v3 v1 q13 e23) ?_
        refine pv_e_bk (ps := [(82, .aload_n 0, 1), (83, .iload_n 1, 1), (84, .aload_n 2, 1), (85, .iload_n 3, 1), (86, .iconst 1, 1), (87, .iadd, 1)]) (t' := (0, 0, 88, [some (.ref 40), some (.int v1), some (.ref v2), some (.int v3), some (.int v4), some (.int q13)], [.int (v3 + (1:Int32)), .ref v2, .int v1, .ref 40], pv_mm s24 T)) (by decide +kernel) rfl ?_
        obtain ⟨s26, e25, h⟩ := Option.bind_eq_some_iff.mp h
        refine pv_e_cvv (d := d + 5) (i := 96) (z := 39) (np := 3) (ml := 6) (ci := 3) (As := [.int v1, .ref v2, .int (v3 + (1:Int32))]) (rs := []) (pc' := 91) (by decide +kernel) rfl rfl rfl rfl (Nat.le_of_ble_eq_true rfl) (Nat.le_of_ble_eq_true rfl) rfl (hrec v1 v2 (v3 + (1:Int32)) s24 _ g2 e25) ?_
        obtain rfl := Option.some.inj h
        exact hJ16
      · rw [if_neg c20] at h
        obtain rfl := Option.some.inj h
        exact hJ16
theorem ee39_s {xs : Nat → Int32} {L d : Nat} {rec : Int32 → Nat → Int32 → pv_F → Option (pv_F)} {x1 : Int32} {x2 : Nat} {x3 : Int32} {s : pv_F} {T : pv_T} {q : pv_F} (hrec : ∀ (x1 : Int32) (x2 : Nat) (x3 : Int32) (s : pv_F) (q : pv_F), x2 ∈ pv_rows → rec x1 x2 x3 s = some q → pv_Ev xs L (d + 5) 39 (0, 0, 0, [some (.ref 40), some (.int x1), some (.ref x2), some (.int x3), none, none], [], pv_mm s T) (none, pv_mm q T)) (g2 : x2 ∈ pv_rows) (h : f39_seekCalled_s rec x1 x2 x3 s = some q) : pv_Ev xs L (d + 6) 39 (0, 0, 0, [some (.ref 40), some (.int x1), some (.ref x2), some (.int x3), none, none], [], pv_mm s T) (none, pv_mm q T) := by
  generalize hr : ((none, pv_mm q T) : Option Value × pv_M) = r
  unfold f39_seekCalled_s at h
  refine pv_e_bk (ps := [(0, .iload_n 3, 1), (1, .aload_n 2, 1)]) (t' := (0, 0, 2, [some (.ref 40), some (.int x1), some (.ref x2), some (.int x3), none, none], [.ref x2, .int x3], pv_mm s T)) (by decide +kernel) rfl ?_
  refine pv_e_gc (i := 48) (ci := 2) (j := 2) (pc' := 5) (by decide +kernel) (by have := (rw_ g2).2.2; omega) (rw_ g2).1 rfl rfl ?_
  refine pv_e_icmpge (off := 8) (b := 13) (pc' := 8) (by decide +kernel) (by decide +kernel) rfl (fun c1 => ?_) (fun c1 => ?_)
  · rw [if_pos c1] at h
    refine pv_e_bk (ps := [(13, .aload_n 0, 1), (14, .iload_n 3, 1)]) (t' := (0, 0, 15, [some (.ref 40), some (.int x1), some (.ref x2), some (.int x3), none, none], [.int x3, .ref 40], pv_mm s T)) (by decide +kernel) rfl ?_
    obtain ⟨s3, e2, h⟩ := Option.bind_eq_some_iff.mp h
    refine pv_e_cvv (d := d + 5) (i := 92) (z := 40) (np := 1) (ml := 4) (ci := 3) (As := [.int x3]) (rs := []) (pc' := 18) (by decide +kernel) rfl rfl rfl rfl (Nat.le_of_ble_eq_true rfl) (Nat.le_of_ble_eq_true rfl) rfl (ee40 (d + 5) x3 e2) ?_
    obtain rfl := Option.some.inj h
    cases hr
    exact pv_e_rv (by decide +kernel)
  · rw [if_neg c1] at h
    refine pv_e_bk (ps := [(8, .iload_n 3, 1), (9, .iconst 4, 1)]) (t' := (0, 0, 10, [some (.ref 40), some (.int x1), some (.ref x2), some (.int x3), none, none], [.int (4:Int32), .int x3], pv_mm s T)) (by decide +kernel) rfl ?_
    refine pv_e_icmplt (off := 9) (b := 19) (pc' := 13) (by decide +kernel) (by decide +kernel) rfl (fun c4 => ?_) (fun c4 => ?_)
    · rw [if_pos c4] at h
      refine pv_e_bk (ps := [(19, .iconst 0, 1), (20, .istore 4, 2)]) (t' := (0, 0, 22, [some (.ref 40), some (.int x1), some (.ref x2), some (.int x3), some (.int (0:Int32)), none], [], pv_mm s T)) (by decide +kernel) rfl ?_
      obtain ⟨⟨w27, s28⟩, e30, h⟩ := Option.bind_eq_some_iff.mp h
      dsimp only at h
      have hx29 : f39_seekCalled_b1_X xs L d r T x1 x2 x3 (w27, s28) := by
        show ∀ z4 : Option Value, ∀ z5 : Option Value, pv_Ev xs L (d + 6) 39 (0, 0, 97, [some (.ref 40), some (.int x1), some (.ref x2), some (.int x3), z4, z5], [], pv_mm s28 T) r
        intro z4 z5
        obtain rfl := Option.some.inj h
        cases hr
        exact pv_e_rv (by decide +kernel)
      exact pv_lq_ok (H := f39_seekCalled_b1_H xs L d r T x1 x2 x3) (X := f39_seekCalled_b1_X xs L d r T x1 x2 x3) (f39_seekCalled_b1_ok (xs := xs) (L := L) (d := d) (r := r) (T := T) (v1 := x1) (v2 := x2) (v3 := x3) hrec g2) 20000 _ _ e30 hx29 _
    · rw [if_neg c4] at h
      refine pv_e_bk (ps := [(13, .aload_n 0, 1), (14, .iload_n 3, 1)]) (t' := (0, 0, 15, [some (.ref 40), some (.int x1), some (.ref x2), some (.int x3), none, none], [.int x3, .ref 40], pv_mm s T)) (by decide +kernel) rfl ?_
      obtain ⟨s32, e31, h⟩ := Option.bind_eq_some_iff.mp h
      refine pv_e_cvv (d := d + 5) (i := 92) (z := 40) (np := 1) (ml := 4) (ci := 3) (As := [.int x3]) (rs := []) (pc' := 18) (by decide +kernel) rfl rfl rfl rfl (Nat.le_of_ble_eq_true rfl) (Nat.le_of_ble_eq_true rfl) rfl (ee40 (d + 5) x3 e31) ?_
      obtain rfl := Option.some.inj h
      cases hr
      exact pv_e_rv (by decide +kernel)
theorem ee39 {xs : Nat → Int32} {L : Nat} (d : Nat) : ∀ (n : Nat) (x1 : Int32) (x2 : Nat) (x3 : Int32) {s : pv_F} {T : pv_T} {q : pv_F} (g2 : x2 ∈ pv_rows) (h : f39_seekCalled n x1 x2 x3 s = some q), pv_Ev xs L (d + n + 5) 39 (0, 0, 0, [some (.ref 40), some (.int x1), some (.ref x2), some (.int x3), none, none], [], pv_mm s T) (none, pv_mm q T) := by
  intro n
  induction n with
  | zero => intros; next h => cases h
  | succ n ih =>
    intro x1 x2 x3 s T q g2 h
    exact ee39_s (d := d + n) (fun x1 x2 x3 s q k0 h => ih x1 x2 x3 k0 h) g2 h
def f43_startOver_b1 (st : Int32 × pv_F) : Option ((Int32 × pv_F) ⊕ (Int32 × pv_F)) := match st with
  | (v1, s) =>
    if (7:Int32) ≤ v1 then
      some (.inr (v1, s))
    else
      (pv_wr s 12 7 v1 (0:Int32)).bind fun s8 =>
      (pv_wr s8 13 7 v1 (0:Int32)).bind fun s10 =>
      (pv_wr s10 14 7 v1 (0:Int32)).bind fun s12 =>
      some (.inl (v1 + (1:Int32), s12))
def f43_startOver_b1_H (xs : Nat → Int32) (L d : Nat) (r : Option Value × pv_M) (T : pv_T) (st : Int32 × pv_F) : Prop := match st with
  | (v1, s) => pv_Ev xs L (d + 2) 43 (0, 0, 26, [some (.ref 3), some (.int v1)], [], pv_mm s T) r
def f43_startOver_b1_X (xs : Nat → Int32) (L d : Nat) (r : Option Value × pv_M) (T : pv_T) (st : Int32 × pv_F) : Prop := match st with
  | (v1, s) => ∀ z1 : Option Value, pv_Ev xs L (d + 2) 43 (0, 0, 59, [some (.ref 3), z1], [], pv_mm s T) r
def f43_startOver (s : pv_F) : Option (pv_F) :=
  (pv_pf s 15 4 (0:Int32)).bind fun s1 =>
  (f5_take 8 4 s1).bind fun s4 =>
  (pv_pf s4 3 7 (0:Int32)).bind fun s5 =>
  (pv_lq (f43_startOver_b1) 20000 ((0:Int32), s5)).bind fun (w14, s15) =>
  some s15
theorem f43_startOver_b1_ok {xs : Nat → Int32} {L d : Nat} {r : Option Value × pv_M} {T : pv_T} (st : Int32 × pv_F) (o : (Int32 × pv_F) ⊕ (Int32 × pv_F)) (h : f43_startOver_b1 st = some o) (hK : pv_Kq (f43_startOver_b1_H xs L d r T ) (f43_startOver_b1_X xs L d r T ) o) : f43_startOver_b1_H xs L d r T  st := by
  obtain ⟨v1, s⟩ := st
  show pv_Ev xs L (d + 2) 43 (0, 0, 26, [some (.ref 3), some (.int v1)], [], pv_mm s T) r
  unfold f43_startOver_b1 at h
  dsimp only at h
  refine pv_e_bk (ps := [(26, .iload_n 1, 1), (27, .bipush 7, 2)]) (t' := (0, 0, 29, [some (.ref 3), some (.int v1)], [.int (7:Int32), .int v1], pv_mm s T)) (by decide +kernel) rfl ?_
  refine pv_e_icmpge (off := 30) (b := 59) (pc' := 32) (by decide +kernel) (by decide +kernel) rfl (fun c7 => ?_) (fun c7 => ?_)
  · rw [if_pos c7] at h
    obtain rfl := Option.some.inj h
    exact hK _
  · rw [if_neg c7] at h
    refine pv_e_bk (ps := [(32, .aload_n 0, 1)]) (t' := (0, 0, 33, [some (.ref 3), some (.int v1)], [.ref 3], pv_mm s T)) (by decide +kernel) rfl ?_
    refine pv_e_gr (i := 21) (ci := 4) (j := 2) (b := 12) (pc' := 36) (by decide +kernel) rfl rfl rfl ?_
    refine pv_e_bk (ps := [(36, .iload_n 1, 1), (37, .iconst 0, 1)]) (t' := (0, 0, 38, [some (.ref 3), some (.int v1)], [.int (0:Int32), .int v1, .ref 12], pv_mm s T)) (by decide +kernel) rfl ?_
    obtain ⟨s8, e9, h⟩ := Option.bind_eq_some_iff.mp h
    refine pv_e_wc (pc' := 39) (by decide +kernel) (by decide) rfl e9 rfl ?_
    refine pv_e_bk (ps := [(39, .aload_n 0, 1)]) (t' := (0, 0, 40, [some (.ref 3), some (.int v1)], [.ref 3], pv_mm s8 T)) (by decide +kernel) rfl ?_
    refine pv_e_gr (i := 25) (ci := 4) (j := 3) (b := 13) (pc' := 43) (by decide +kernel) rfl rfl rfl ?_
    refine pv_e_bk (ps := [(43, .iload_n 1, 1), (44, .iconst 0, 1)]) (t' := (0, 0, 45, [some (.ref 3), some (.int v1)], [.int (0:Int32), .int v1, .ref 13], pv_mm s8 T)) (by decide +kernel) rfl ?_
    obtain ⟨s10, e11, h⟩ := Option.bind_eq_some_iff.mp h
    refine pv_e_wc (pc' := 46) (by decide +kernel) (by decide) rfl e11 rfl ?_
    refine pv_e_bk (ps := [(46, .aload_n 0, 1)]) (t' := (0, 0, 47, [some (.ref 3), some (.int v1)], [.ref 3], pv_mm s10 T)) (by decide +kernel) rfl ?_
    refine pv_e_gr (i := 28) (ci := 4) (j := 4) (b := 14) (pc' := 50) (by decide +kernel) rfl rfl rfl ?_
    refine pv_e_bk (ps := [(50, .iload_n 1, 1), (51, .iconst 0, 1)]) (t' := (0, 0, 52, [some (.ref 3), some (.int v1)], [.int (0:Int32), .int v1, .ref 14], pv_mm s10 T)) (by decide +kernel) rfl ?_
    obtain ⟨s12, e13, h⟩ := Option.bind_eq_some_iff.mp h
    refine pv_e_wc (pc' := 53) (by decide +kernel) (by decide) rfl e13 rfl ?_
    refine pv_e_bk (ps := [(53, .iinc 1 1, 3), (56, .goto (-30), 3)]) (t' := (0, 0, 26, [some (.ref 3), some (.int (v1 + (1:Int32)))], [], pv_mm s12 T)) (by decide +kernel) rfl ?_
    obtain rfl := Option.some.inj h
    exact hK
theorem ee43 {xs : Nat → Int32} {L : Nat} (d : Nat)  {s : pv_F} {T : pv_T} {q : pv_F}  (h : f43_startOver s = some q) : pv_Ev xs L (d + 2) 43 (0, 0, 0, [some (.ref 3), none], [], pv_mm s T) (none, pv_mm q T) := by
  generalize hr : ((none, pv_mm q T) : Option Value × pv_M) = r
  unfold f43_startOver at h
  refine pv_e_bk (ps := [(0, .aload_n 0, 1)]) (t' := (0, 0, 1, [some (.ref 3), none], [.ref 3], pv_mm s T)) (by decide +kernel) rfl ?_
  refine pv_e_gr (i := 34) (ci := 4) (j := 5) (b := 15) (pc' := 4) (by decide +kernel) rfl rfl rfl ?_
  refine pv_e_bk (ps := [(4, .iconst 0, 1)]) (t' := (0, 0, 5, [some (.ref 3), none], [.int (0:Int32), .ref 15], pv_mm s T)) (by decide +kernel) rfl ?_
  obtain ⟨s1, e2, h⟩ := Option.bind_eq_some_iff.mp h
  refine pv_e_pcs (i := 57) (ci := 0) (j := 4) (pc' := 8) (by decide +kernel) rfl rfl (by decide) rfl rfl e2 rfl ?_
  refine pv_e_bk (ps := [(8, .aload_n 0, 1)]) (t' := (0, 0, 9, [some (.ref 3), none], [.ref 3], pv_mm s1 T)) (by decide +kernel) rfl ?_
  refine pv_e_gr (i := 18) (ci := 4) (j := 1) (b := 8) (pc' := 12) (by decide +kernel) rfl rfl rfl ?_
  refine pv_e_bk (ps := [(12, .aload_n 0, 1)]) (t' := (0, 0, 13, [some (.ref 3), none], [.ref 3, .ref 8], pv_mm s1 T)) (by decide +kernel) rfl ?_
  refine pv_e_gr (i := 12) (ci := 4) (j := 0) (b := 4) (pc' := 16) (by decide +kernel) rfl rfl rfl ?_
  obtain ⟨s4, e3, h⟩ := Option.bind_eq_some_iff.mp h
  refine pv_e_cvv (d := d + 1) (i := 46) (z := 5) (np := 1) (ml := 2) (ci := 1) (As := [.ref 4]) (rs := []) (pc' := 19) (by decide +kernel) rfl rfl rfl rfl (Nat.le_of_ble_eq_true rfl) (Nat.le_of_ble_eq_true rfl) rfl (ee5 (d + 0) 8 4 (by decide) (by decide) e3) ?_
  refine pv_e_bk (ps := [(19, .aload_n 0, 1), (20, .iconst 0, 1)]) (t' := (0, 0, 21, [some (.ref 3), none], [.int (0:Int32), .ref 3], pv_mm s4 T)) (by decide +kernel) rfl ?_
  obtain ⟨s5, e6, h⟩ := Option.bind_eq_some_iff.mp h
  refine pv_e_pcs (i := 42) (ci := 4) (j := 7) (pc' := 24) (by decide +kernel) rfl rfl (by decide) rfl rfl e6 rfl ?_
  refine pv_e_bk (ps := [(24, .iconst 0, 1), (25, .istore_n 1, 1)]) (t' := (0, 0, 26, [some (.ref 3), some (.int (0:Int32))], [], pv_mm s5 T)) (by decide +kernel) rfl ?_
  obtain ⟨⟨w14, s15⟩, e17, h⟩ := Option.bind_eq_some_iff.mp h
  dsimp only at h
  have hx16 : f43_startOver_b1_X xs L d r T (w14, s15) := by
    show ∀ z1 : Option Value, pv_Ev xs L (d + 2) 43 (0, 0, 59, [some (.ref 3), z1], [], pv_mm s15 T) r
    intro z1
    obtain rfl := Option.some.inj h
    cases hr
    exact pv_e_rv (by decide +kernel)
  exact pv_lq_ok (H := f43_startOver_b1_H xs L d r T) (X := f43_startOver_b1_X xs L d r T) (f43_startOver_b1_ok (xs := xs) (L := L) (d := d) (r := r) (T := T)) 20000 _ _ e17 hx16
def f42_found_b1 (st : Int32 × pv_F) : Option ((Int32 × pv_F) ⊕ (Int32 × pv_F)) := match st with
  | (v2, s) =>
    if (3:Int32) ≤ v2 then
      some (.inr (v2, s))
    else
      (pv_ra 20 3 v2).bind fun o4 =>
      (pv_pf s o4 5 (0:Int32)).bind fun s7 =>
      some (.inl (v2 + (1:Int32), s7))
def f42_found_b1_H (xs : Nat → Int32) (L d : Nat) (r : Option Value × pv_M) (T : pv_T) (v1 : Nat) (st : Int32 × pv_F) : Prop := match st with
  | (v2, s) => pv_Ev xs L (d + 3) 42 (0, 0, 10, [some (.ref 3), some (.ref v1), some (.int v2)], [], pv_mm s T) r
def f42_found_b1_X (xs : Nat → Int32) (L d : Nat) (r : Option Value × pv_M) (T : pv_T) (v1 : Nat) (st : Int32 × pv_F) : Prop := match st with
  | (v2, s) => ∀ z2 : Option Value, pv_Ev xs L (d + 3) 42 (0, 0, 31, [some (.ref 3), some (.ref v1), z2], [], pv_mm s T) r
def f42_found (x1 : Nat) (s : pv_F) : Option (pv_F) :=
  (f5_take 4 x1 s).bind fun s2 =>
  (pv_lq (f42_found_b1) 20000 ((0:Int32), s2)).bind fun (w9, s10) =>
  (f43_startOver s10).bind fun s12 =>
  some s12
theorem f42_found_b1_ok {xs : Nat → Int32} {L d : Nat} {r : Option Value × pv_M} {T : pv_T} {v1 : Nat} (st : Int32 × pv_F) (o : (Int32 × pv_F) ⊕ (Int32 × pv_F)) (h : f42_found_b1 st = some o) (hK : pv_Kq (f42_found_b1_H xs L d r T v1) (f42_found_b1_X xs L d r T v1) o) : f42_found_b1_H xs L d r T v1 st := by
  obtain ⟨v2, s⟩ := st
  show pv_Ev xs L (d + 3) 42 (0, 0, 10, [some (.ref 3), some (.ref v1), some (.int v2)], [], pv_mm s T) r
  unfold f42_found_b1 at h
  dsimp only at h
  refine pv_e_bk (ps := [(10, .iload_n 2, 1), (11, .iconst 3, 1)]) (t' := (0, 0, 12, [some (.ref 3), some (.ref v1), some (.int v2)], [.int (3:Int32), .int v2], pv_mm s T)) (by decide +kernel) rfl ?_
  refine pv_e_icmpge (off := 19) (b := 31) (pc' := 15) (by decide +kernel) (by decide +kernel) rfl (fun c3 => ?_) (fun c3 => ?_)
  · rw [if_pos c3] at h
    obtain rfl := Option.some.inj h
    exact hK _
  · rw [if_neg c3] at h
    refine pv_e_bk (ps := [(15, .aload_n 0, 1)]) (t' := (0, 0, 16, [some (.ref 3), some (.ref v1), some (.int v2)], [.ref 3], pv_mm s T)) (by decide +kernel) rfl ?_
    refine pv_e_gr (i := 38) (ci := 4) (j := 6) (b := 20) (pc' := 19) (by decide +kernel) rfl rfl rfl ?_
    refine pv_e_bk (ps := [(19, .iload_n 2, 1)]) (t' := (0, 0, 20, [some (.ref 3), some (.ref v1), some (.int v2)], [.int v2, .ref 20], pv_mm s T)) (by decide +kernel) rfl ?_
    obtain ⟨o4, e5, h⟩ := Option.bind_eq_some_iff.mp h
    have g6 := ra_kept e5
    refine pv_e_ra (zz := 3) (pc' := 21) (by decide +kernel) rfl (by decide) e5 rfl ?_
    refine pv_e_bk (ps := [(21, .iconst 0, 1)]) (t' := (0, 0, 22, [some (.ref 3), some (.ref v1), some (.int v2)], [.int (0:Int32), .ref o4], pv_mm s T)) (by decide +kernel) rfl ?_
    obtain ⟨s7, e8, h⟩ := Option.bind_eq_some_iff.mp h
    refine pv_e_pcs (i := 50) (ci := 0) (j := 5) (pc' := 25) (by decide +kernel) (by decide +kernel) (by decide +kernel) (by have := (dd g6).2.2.2.2.2; omega) (dd g6).1 rfl e8 rfl ?_
    refine pv_e_bk (ps := [(25, .iinc 2 1, 3), (28, .goto (-18), 3)]) (t' := (0, 0, 10, [some (.ref 3), some (.ref v1), some (.int (v2 + (1:Int32)))], [], pv_mm s7 T)) (by decide +kernel) rfl ?_
    obtain rfl := Option.some.inj h
    exact hK
theorem ee42 {xs : Nat → Int32} {L : Nat} (d : Nat) (x1 : Nat) {s : pv_F} {T : pv_T} {q : pv_F} (g1 : x1 ∈ pv_folks) (h : f42_found x1 s = some q) : pv_Ev xs L (d + 3) 42 (0, 0, 0, [some (.ref 3), some (.ref x1), none], [], pv_mm s T) (none, pv_mm q T) := by
  generalize hr : ((none, pv_mm q T) : Option Value × pv_M) = r
  unfold f42_found at h
  refine pv_e_bk (ps := [(0, .aload_n 0, 1)]) (t' := (0, 0, 1, [some (.ref 3), some (.ref x1), none], [.ref 3], pv_mm s T)) (by decide +kernel) rfl ?_
  refine pv_e_gr (i := 12) (ci := 4) (j := 0) (b := 4) (pc' := 4) (by decide +kernel) rfl rfl rfl ?_
  refine pv_e_bk (ps := [(4, .aload_n 1, 1)]) (t' := (0, 0, 5, [some (.ref 3), some (.ref x1), none], [.ref x1, .ref 4], pv_mm s T)) (by decide +kernel) rfl ?_
  obtain ⟨s2, e1, h⟩ := Option.bind_eq_some_iff.mp h
  refine pv_e_cvv (d := d + 2) (i := 46) (z := 5) (np := 1) (ml := 2) (ci := 1) (As := [.ref x1]) (rs := []) (pc' := 8) (by decide +kernel) rfl rfl rfl rfl (Nat.le_of_ble_eq_true rfl) (Nat.le_of_ble_eq_true rfl) rfl (ee5 (d + 1) 4 x1 (by decide) g1 e1) ?_
  refine pv_e_bk (ps := [(8, .iconst 0, 1), (9, .istore_n 2, 1)]) (t' := (0, 0, 10, [some (.ref 3), some (.ref x1), some (.int (0:Int32))], [], pv_mm s2 T)) (by decide +kernel) rfl ?_
  obtain ⟨⟨w9, s10⟩, e14, h⟩ := Option.bind_eq_some_iff.mp h
  dsimp only at h
  have hx13 : f42_found_b1_X xs L d r T x1 (w9, s10) := by
    show ∀ z2 : Option Value, pv_Ev xs L (d + 3) 42 (0, 0, 31, [some (.ref 3), some (.ref x1), z2], [], pv_mm s10 T) r
    intro z2
    refine pv_e_bk (ps := [(31, .aload_n 0, 1)]) (t' := (0, 0, 32, [some (.ref 3), some (.ref x1), z2], [.ref 3], pv_mm s10 T)) (by decide +kernel) rfl ?_
    obtain ⟨s12, e11, h⟩ := Option.bind_eq_some_iff.mp h
    refine pv_e_cvv (d := d + 2) (i := 54) (z := 43) (np := 0) (ml := 2) (ci := 4) (As := []) (rs := []) (pc' := 35) (by decide +kernel) rfl rfl rfl rfl (Nat.le_of_ble_eq_true rfl) (Nat.le_of_ble_eq_true rfl) rfl (ee43 (d + 0) e11) ?_
    obtain rfl := Option.some.inj h
    cases hr
    exact pv_e_rv (by decide +kernel)
  exact pv_lq_ok (H := f42_found_b1_H xs L d r T x1) (X := f42_found_b1_X xs L d r T x1) (f42_found_b1_ok (xs := xs) (L := L) (d := d) (r := r) (T := T) (v1 := x1)) 20000 _ _ e14 hx13
def f47_carryOutCall_b1 (v2 : Int32) (v4 : Int32) (st : Int32 × pv_F) : Option ((Int32 × pv_F) ⊕ (Int32 × pv_F)) := match st with
  | (v5, s) =>
    if (s 8 3) ≤ v5 then
      some (.inr (v5, s))
    else
      (pv_rd s 12 7 v5).bind fun q10 =>
      (pv_wr s 12 7 v5 (q10 + ((pv_ush v4 v5) &&& (1:Int32)))).bind fun s12 =>
      (pv_rd s12 13 7 v5).bind fun q14 =>
      ((
        if v5 = v2 then
          some (0:Int32)
        else
          some ((pv_ush v4 v5) &&& (1:Int32))) : Option (Int32)).bind fun t16 =>
      (pv_wr s12 13 7 v5 (q14 + t16)).bind fun s17 =>
      some (.inl (v5 + (1:Int32), s17))
def f47_carryOutCall_b1_H (xs : Nat → Int32) (L d : Nat) (r : Option Value × pv_M) (T : pv_T) (v2 : Int32) (v4 : Int32) (v1 : Int32) (v3 : Int32) (st : Int32 × pv_F) : Prop := match st with
  | (v5, s) => ∀ z6 : Option Value, pv_Ev xs L (d + 4) 47 (0, 0, 35, [some (.ref 3), some (.int v1), some (.int v2), some (.int v3), some (.int v4), some (.int v5), z6], [], pv_mm s T) r
def f47_carryOutCall_b1_X (xs : Nat → Int32) (L d : Nat) (r : Option Value × pv_M) (T : pv_T) (v2 : Int32) (v4 : Int32) (v1 : Int32) (v3 : Int32) (st : Int32 × pv_F) : Prop := match st with
  | (v5, s) => ∀ z5 : Option Value, ∀ z6 : Option Value, pv_Ev xs L (d + 4) 47 (0, 0, 96, [some (.ref 3), some (.int v1), some (.int v2), some (.int v3), some (.int v4), z5, z6], [], pv_mm s T) r
def f47_carryOutCall (x1 : Int32) (x2 : Int32) (x3 : Int32) (s : pv_F) : Option (Int32 × pv_F) :=
  (f12_comers 8 x1 x2 s).bind fun q2 =>
  (f15_wearBy 8 x1 q2 x3 s).bind fun s4 =>
  (pv_rd s4 14 7 x1).bind fun q5 =>
  (pv_wr s4 14 7 x1 (q5 + (1:Int32))).bind fun s7 =>
  (pv_lq (f47_carryOutCall_b1 x2 q2) 20000 ((0:Int32), s7)).bind fun (w22, s23) =>
  some (q2, s23)
theorem f47_carryOutCall_b1_ok {xs : Nat → Int32} {L d : Nat} {r : Option Value × pv_M} {T : pv_T} {v2 : Int32} {v4 : Int32} {v1 : Int32} {v3 : Int32} (st : Int32 × pv_F) (o : (Int32 × pv_F) ⊕ (Int32 × pv_F)) (h : f47_carryOutCall_b1 v2 v4 st = some o) (hK : pv_Kq (f47_carryOutCall_b1_H xs L d r T v2 v4 v1 v3) (f47_carryOutCall_b1_X xs L d r T v2 v4 v1 v3) o) : f47_carryOutCall_b1_H xs L d r T v2 v4 v1 v3 st := by
  obtain ⟨v5, s⟩ := st
  show ∀ z6 : Option Value, pv_Ev xs L (d + 4) 47 (0, 0, 35, [some (.ref 3), some (.int v1), some (.int v2), some (.int v3), some (.int v4), some (.int v5), z6], [], pv_mm s T) r
  intro z6
  unfold f47_carryOutCall_b1 at h
  dsimp only at h
  refine pv_e_bk (ps := [(35, .iload 5, 2), (37, .aload_n 0, 1)]) (t' := (0, 0, 38, [some (.ref 3), some (.int v1), some (.int v2), some (.int v3), some (.int v4), some (.int v5), z6], [.ref 3, .int v5], pv_mm s T)) (by decide +kernel) rfl ?_
  refine pv_e_gr (i := 18) (ci := 4) (j := 1) (b := 8) (pc' := 41) (by decide +kernel) rfl rfl rfl ?_
  refine pv_e_gc (i := 91) (ci := 1) (j := 3) (pc' := 44) (by decide +kernel) (by decide) rfl rfl rfl ?_
  refine pv_e_icmpge (off := 52) (b := 96) (pc' := 47) (by decide +kernel) (by decide +kernel) rfl (fun c9 => ?_) (fun c9 => ?_)
  · rw [if_pos c9] at h
    obtain rfl := Option.some.inj h
    exact hK _ _
  · rw [if_neg c9] at h
    refine pv_e_bk (ps := [(47, .iload 4, 2), (49, .iload 5, 2), (51, .iushr, 1), (52, .iconst 1, 1), (53, .iand, 1), (54, .istore 6, 2), (56, .aload_n 0, 1)]) (t' := (0, 0, 57, [some (.ref 3), some (.int v1), some (.int v2), some (.int v3), some (.int v4), some (.int v5), some (.int ((pv_ush v4 v5) &&& (1:Int32)))], [.ref 3], pv_mm s T)) (by decide +kernel) rfl ?_
    refine pv_e_gr (i := 21) (ci := 4) (j := 2) (b := 12) (pc' := 60) (by decide +kernel) rfl rfl rfl ?_
    refine pv_e_bk (ps := [(60, .iload 5, 2), (62, .dup2, 1)]) (t' := (0, 0, 63, [some (.ref 3), some (.int v1), some (.int v2), some (.int v3), some (.int v4), some (.int v5), some (.int ((pv_ush v4 v5) &&& (1:Int32)))], [.int v5, .ref 12, .int v5, .ref 12], pv_mm s T)) (by decide +kernel) rfl ?_
    obtain ⟨q10, e11, h⟩ := Option.bind_eq_some_iff.mp h
    refine pv_e_rc (pc' := 64) (by decide +kernel) (by decide) rfl e11 rfl ?_
    refine pv_e_bk (ps := [(64, .iload 6, 2), (66, .iadd, 1)]) (t' := (0, 0, 67, [some (.ref 3), some (.int v1), some (.int v2), some (.int v3), some (.int v4), some (.int v5), some (.int ((pv_ush v4 v5) &&& (1:Int32)))], [.int (q10 + ((pv_ush v4 v5) &&& (1:Int32))), .int v5, .ref 12], pv_mm s T)) (by decide +kernel) rfl ?_
    obtain ⟨s12, e13, h⟩ := Option.bind_eq_some_iff.mp h
    refine pv_e_wc (pc' := 68) (by decide +kernel) (by decide) rfl e13 rfl ?_
    refine pv_e_bk (ps := [(68, .aload_n 0, 1)]) (t' := (0, 0, 69, [some (.ref 3), some (.int v1), some (.int v2), some (.int v3), some (.int v4), some (.int v5), some (.int ((pv_ush v4 v5) &&& (1:Int32)))], [.ref 3], pv_mm s12 T)) (by decide +kernel) rfl ?_
    refine pv_e_gr (i := 25) (ci := 4) (j := 3) (b := 13) (pc' := 72) (by decide +kernel) rfl rfl rfl ?_
    refine pv_e_bk (ps := [(72, .iload 5, 2), (74, .dup2, 1)]) (t' := (0, 0, 75, [some (.ref 3), some (.int v1), some (.int v2), some (.int v3), some (.int v4), some (.int v5), some (.int ((pv_ush v4 v5) &&& (1:Int32)))], [.int v5, .ref 13, .int v5, .ref 13], pv_mm s12 T)) (by decide +kernel) rfl ?_
    obtain ⟨q14, e15, h⟩ := Option.bind_eq_some_iff.mp h
    refine pv_e_rc (pc' := 76) (by decide +kernel) (by decide) rfl e15 rfl ?_
    refine pv_e_bk (ps := [(76, .iload 5, 2), (78, .iload_n 2, 1)]) (t' := (0, 0, 79, [some (.ref 3), some (.int v1), some (.int v2), some (.int v3), some (.int v4), some (.int v5), some (.int ((pv_ush v4 v5) &&& (1:Int32)))], [.int v2, .int v5, .int q14, .int v5, .ref 13], pv_mm s12 T)) (by decide +kernel) rfl ?_
    obtain ⟨t16, hv19, h⟩ := Option.bind_eq_some_iff.mp h
    have hJ20 : pv_Ev xs L (d + 4) 47 (0, 0, 88, [some (.ref 3), some (.int v1), some (.int v2), some (.int v3), some (.int v4), some (.int v5), some (.int ((pv_ush v4 v5) &&& (1:Int32)))], [.int t16, .int q14, .int v5, .ref 13], pv_mm s12 T) r := by
      refine pv_e_bk (ps := [(88, .iadd, 1)]) (t' := (0, 0, 89, [some (.ref 3), some (.int v1), some (.int v2), some (.int v3), some (.int v4), some (.int v5), some (.int ((pv_ush v4 v5) &&& (1:Int32)))], [.int (q14 + t16), .int v5, .ref 13], pv_mm s12 T)) (by decide +kernel) rfl ?_
      obtain ⟨s17, e18, h⟩ := Option.bind_eq_some_iff.mp h
      refine pv_e_wc (pc' := 90) (by decide +kernel) (by decide) rfl e18 rfl ?_
      refine pv_e_bk (ps := [(90, .iinc 5 1, 3), (93, .goto (-58), 3)]) (t' := (0, 0, 35, [some (.ref 3), some (.int v1), some (.int v2), some (.int v3), some (.int v4), some (.int (v5 + (1:Int32))), some (.int ((pv_ush v4 v5) &&& (1:Int32)))], [], pv_mm s17 T)) (by decide +kernel) rfl ?_
      obtain rfl := Option.some.inj h
      exact hK _
    clear h
    have h := hv19
    clear hv19
    refine pv_e_icmpne (off := 7) (b := 86) (pc' := 82) (by decide +kernel) (by decide +kernel) rfl (fun c21 => ?_) (fun c21 => ?_)
    · rw [if_pos c21] at h
      refine pv_e_bk (ps := [(82, .iconst 0, 1), (83, .goto 5, 3)]) (t' := (0, 0, 88, [some (.ref 3), some (.int v1), some (.int v2), some (.int v3), some (.int v4), some (.int v5), some (.int ((pv_ush v4 v5) &&& (1:Int32)))], [.int (0:Int32), .int q14, .int v5, .ref 13], pv_mm s12 T)) (by decide +kernel) rfl ?_
      obtain rfl := Option.some.inj h
      exact hJ20
    · rw [if_neg c21] at h
      refine pv_e_bk (ps := [(86, .iload 6, 2)]) (t' := (0, 0, 88, [some (.ref 3), some (.int v1), some (.int v2), some (.int v3), some (.int v4), some (.int v5), some (.int ((pv_ush v4 v5) &&& (1:Int32)))], [.int ((pv_ush v4 v5) &&& (1:Int32)), .int q14, .int v5, .ref 13], pv_mm s12 T)) (by decide +kernel) rfl ?_
      obtain rfl := Option.some.inj h
      exact hJ20
theorem ee47 {xs : Nat → Int32} {L : Nat} (d : Nat) (x1 : Int32) (x2 : Int32) (x3 : Int32) {s : pv_F} {T : pv_T} {q : Int32 × pv_F}  (h : f47_carryOutCall x1 x2 x3 s = some q) : pv_Ev xs L (d + 4) 47 (0, 0, 0, [some (.ref 3), some (.int x1), some (.int x2), some (.int x3), none, none, none], [], pv_mm s T) (some (.int q.1), pv_mm q.2 T) := by
  generalize hr : ((some (.int q.1), pv_mm q.2 T) : Option Value × pv_M) = r
  unfold f47_carryOutCall at h
  refine pv_e_bk (ps := [(0, .aload_n 0, 1)]) (t' := (0, 0, 1, [some (.ref 3), some (.int x1), some (.int x2), some (.int x3), none, none, none], [.ref 3], pv_mm s T)) (by decide +kernel) rfl ?_
  refine pv_e_gr (i := 18) (ci := 4) (j := 1) (b := 8) (pc' := 4) (by decide +kernel) rfl rfl rfl ?_
  refine pv_e_bk (ps := [(4, .iload_n 1, 1), (5, .iload_n 2, 1)]) (t' := (0, 0, 6, [some (.ref 3), some (.int x1), some (.int x2), some (.int x3), none, none, none], [.int x2, .int x1, .ref 8], pv_mm s T)) (by decide +kernel) rfl ?_
  obtain ⟨q2, e1, h⟩ := Option.bind_eq_some_iff.mp h
  refine pv_e_cvi (d := d + 3) (i := 84) (z := 12) (np := 2) (ml := 4) (ci := 1) (As := [.int x1, .int x2]) (rs := []) (pc' := 9) (by decide +kernel) rfl rfl rfl rfl (Nat.le_of_ble_eq_true rfl) (Nat.le_of_ble_eq_true rfl) rfl (ee12 (d + 1) 8 x1 x2 (by decide) e1) ?_
  refine pv_e_bk (ps := [(9, .istore 4, 2), (11, .aload_n 0, 1)]) (t' := (0, 0, 12, [some (.ref 3), some (.int x1), some (.int x2), some (.int x3), some (.int q2), none, none], [.ref 3], pv_mm s T)) (by decide +kernel) rfl ?_
  refine pv_e_gr (i := 18) (ci := 4) (j := 1) (b := 8) (pc' := 15) (by decide +kernel) rfl rfl rfl ?_
  refine pv_e_bk (ps := [(15, .iload_n 1, 1), (16, .iload 4, 2), (18, .iload_n 3, 1)]) (t' := (0, 0, 19, [some (.ref 3), some (.int x1), some (.int x2), some (.int x3), some (.int q2), none, none], [.int x3, .int q2, .int x1, .ref 8], pv_mm s T)) (by decide +kernel) rfl ?_
  obtain ⟨s4, e3, h⟩ := Option.bind_eq_some_iff.mp h
  refine pv_e_cvv (d := d + 3) (i := 88) (z := 15) (np := 3) (ml := 4) (ci := 1) (As := [.int x1, .int q2, .int x3]) (rs := []) (pc' := 22) (by decide +kernel) rfl rfl rfl rfl (Nat.le_of_ble_eq_true rfl) (Nat.le_of_ble_eq_true rfl) rfl (ee15 (d + 0) 8 x1 q2 x3 (by decide) e3) ?_
  refine pv_e_bk (ps := [(22, .aload_n 0, 1)]) (t' := (0, 0, 23, [some (.ref 3), some (.int x1), some (.int x2), some (.int x3), some (.int q2), none, none], [.ref 3], pv_mm s4 T)) (by decide +kernel) rfl ?_
  refine pv_e_gr (i := 28) (ci := 4) (j := 4) (b := 14) (pc' := 26) (by decide +kernel) rfl rfl rfl ?_
  refine pv_e_bk (ps := [(26, .iload_n 1, 1), (27, .dup2, 1)]) (t' := (0, 0, 28, [some (.ref 3), some (.int x1), some (.int x2), some (.int x3), some (.int q2), none, none], [.int x1, .ref 14, .int x1, .ref 14], pv_mm s4 T)) (by decide +kernel) rfl ?_
  obtain ⟨q5, e6, h⟩ := Option.bind_eq_some_iff.mp h
  refine pv_e_rc (pc' := 29) (by decide +kernel) (by decide) rfl e6 rfl ?_
  refine pv_e_bk (ps := [(29, .iconst 1, 1), (30, .iadd, 1)]) (t' := (0, 0, 31, [some (.ref 3), some (.int x1), some (.int x2), some (.int x3), some (.int q2), none, none], [.int (q5 + (1:Int32)), .int x1, .ref 14], pv_mm s4 T)) (by decide +kernel) rfl ?_
  obtain ⟨s7, e8, h⟩ := Option.bind_eq_some_iff.mp h
  refine pv_e_wc (pc' := 32) (by decide +kernel) (by decide) rfl e8 rfl ?_
  refine pv_e_bk (ps := [(32, .iconst 0, 1), (33, .istore 5, 2)]) (t' := (0, 0, 35, [some (.ref 3), some (.int x1), some (.int x2), some (.int x3), some (.int q2), some (.int (0:Int32)), none], [], pv_mm s7 T)) (by decide +kernel) rfl ?_
  obtain ⟨⟨w22, s23⟩, e25, h⟩ := Option.bind_eq_some_iff.mp h
  dsimp only at h
  have hx24 : f47_carryOutCall_b1_X xs L d r T x2 q2 x1 x3 (w22, s23) := by
    show ∀ z5 : Option Value, ∀ z6 : Option Value, pv_Ev xs L (d + 4) 47 (0, 0, 96, [some (.ref 3), some (.int x1), some (.int x2), some (.int x3), some (.int q2), z5, z6], [], pv_mm s23 T) r
    intro z5 z6
    refine pv_e_bk (ps := [(96, .iload 4, 2)]) (t' := (0, 0, 98, [some (.ref 3), some (.int x1), some (.int x2), some (.int x3), some (.int q2), z5, z6], [.int q2], pv_mm s23 T)) (by decide +kernel) rfl ?_
    obtain rfl := Option.some.inj h
    cases hr
    exact pv_e_ri (by decide +kernel)
  exact pv_lq_ok (H := f47_carryOutCall_b1_H xs L d r T x2 q2 x1 x3) (X := f47_carryOutCall_b1_X xs L d r T x2 q2 x1 x3) (f47_carryOutCall_b1_ok (xs := xs) (L := L) (d := d) (r := r) (T := T) (v2 := x2) (v4 := q2) (v1 := x1) (v3 := x3)) 20000 _ _ e25 hx24 _
def f48_carryOutMending (x1 : Int32) (x2 : Int32) (x3 : Int32) (s : pv_F) : Option (pv_F) :=
  (pv_rd s 10 7 x1).bind fun q1 =>
  (f221_with q1 x2).bind fun q4 =>
  (pv_wr s 10 7 x1 q4).bind fun s5 =>
  (pv_pf s5 3 7 ((s5 3 7) + x3)).bind fun s7 =>
  some s7
theorem ee48 {xs : Nat → Int32} {L : Nat} (d : Nat) (x1 : Int32) (x2 : Int32) (x3 : Int32) {s : pv_F} {T : pv_T} {q : pv_F}  (h : f48_carryOutMending x1 x2 x3 s = some q) : pv_Ev xs L (d + 2) 48 (0, 0, 0, [some (.ref 3), some (.int x1), some (.int x2), some (.int x3)], [], pv_mm s T) (none, pv_mm q T) := by
  generalize hr : ((none, pv_mm q T) : Option Value × pv_M) = r
  unfold f48_carryOutMending at h
  refine pv_e_bk (ps := [(0, .aload_n 0, 1)]) (t' := (0, 0, 1, [some (.ref 3), some (.int x1), some (.int x2), some (.int x3)], [.ref 3], pv_mm s T)) (by decide +kernel) rfl ?_
  refine pv_e_gr (i := 18) (ci := 4) (j := 1) (b := 8) (pc' := 4) (by decide +kernel) rfl rfl rfl ?_
  refine pv_e_gr (i := 92) (ci := 1) (j := 1) (b := 10) (pc' := 7) (by decide +kernel) rfl rfl rfl ?_
  refine pv_e_bk (ps := [(7, .iload_n 1, 1), (8, .aload_n 0, 1)]) (t' := (0, 0, 9, [some (.ref 3), some (.int x1), some (.int x2), some (.int x3)], [.ref 3, .int x1, .ref 10], pv_mm s T)) (by decide +kernel) rfl ?_
  refine pv_e_gr (i := 18) (ci := 4) (j := 1) (b := 8) (pc' := 12) (by decide +kernel) rfl rfl rfl ?_
  refine pv_e_gr (i := 92) (ci := 1) (j := 1) (b := 10) (pc' := 15) (by decide +kernel) rfl rfl rfl ?_
  refine pv_e_bk (ps := [(15, .iload_n 1, 1)]) (t' := (0, 0, 16, [some (.ref 3), some (.int x1), some (.int x2), some (.int x3)], [.int x1, .ref 10, .int x1, .ref 10], pv_mm s T)) (by decide +kernel) rfl ?_
  obtain ⟨q1, e2, h⟩ := Option.bind_eq_some_iff.mp h
  refine pv_e_rc (pc' := 17) (by decide +kernel) (by decide) rfl e2 rfl ?_
  refine pv_e_bk (ps := [(17, .iload_n 2, 1)]) (t' := (0, 0, 18, [some (.ref 3), some (.int x1), some (.int x2), some (.int x3)], [.int x2, .int q1, .int x1, .ref 10], pv_mm s T)) (by decide +kernel) rfl ?_
  obtain ⟨q4, e3, h⟩ := Option.bind_eq_some_iff.mp h
  refine pv_e_csi (d := d + 1) (i := 95) (z := 221) (np := 2) (ml := 2) (As := [.int q1, .int x2]) (rs := [.int x1, .ref 10]) (pc' := 21) (by decide +kernel) rfl rfl rfl (Nat.le_of_ble_eq_true rfl) (Nat.le_of_ble_eq_true rfl) rfl (ee221 (d + 0) q1 x2 e3) ?_
  obtain ⟨s5, e6, h⟩ := Option.bind_eq_some_iff.mp h
  refine pv_e_wc (pc' := 22) (by decide +kernel) (by decide) rfl e6 rfl ?_
  refine pv_e_bk (ps := [(22, .aload_n 0, 1), (23, .dup, 1)]) (t' := (0, 0, 24, [some (.ref 3), some (.int x1), some (.int x2), some (.int x3)], [.ref 3, .ref 3], pv_mm s5 T)) (by decide +kernel) rfl ?_
  refine pv_e_gc (i := 42) (ci := 4) (j := 7) (pc' := 27) (by decide +kernel) (by decide) rfl rfl rfl ?_
  refine pv_e_bk (ps := [(27, .iload_n 3, 1), (28, .iadd, 1)]) (t' := (0, 0, 29, [some (.ref 3), some (.int x1), some (.int x2), some (.int x3)], [.int ((s5 3 7) + x3), .ref 3], pv_mm s5 T)) (by decide +kernel) rfl ?_
  obtain ⟨s7, e8, h⟩ := Option.bind_eq_some_iff.mp h
  refine pv_e_pcs (i := 42) (ci := 4) (j := 7) (pc' := 32) (by decide +kernel) rfl rfl (by decide) rfl rfl e8 rfl ?_
  obtain rfl := Option.some.inj h
  cases hr
  exact pv_e_rv (by decide +kernel)
