/-! printed by wip/whole/gen/ctor.py: the constructors, by computation; from the law's entry to its loop -/
def ct_M1 : pv_M := [.inr (.inr (5, [.ref 1, .ref 2, .ref 3, .ref 36, .ref 40, .ref 73, .int 0, .int 3, .int 0, .int 0])),
  .inr (.inl (2, 6, (va_up (va_up (va_up (va_up (va_up (va_up (fun _ => none) 0 (some 74)) 1 (some 76)) 2 (some 78)) 3 (some 80)) 4 (some 82)) 5 (some 84)))),
  .inr (.inl (2, 4, (va_up (va_up (va_up (va_up (fun _ => none) 0 (some 86)) 1 (some 88)) 2 (some 90)) 3 (some 92)))),
  .inr (.inr (4, [.ref 4, .ref 8, .ref 12, .ref 13, .ref 14, .ref 15, .ref 20, .int 0])),
  .inr (.inr (1, [.ref 5, .ref 6, .ref 7, .int 0])),
  .inl (7, fun _ => 0),
  .inl (7, fun _ => 0),
  .inl (7, fun _ => 0),
  .inr (.inr (1, [.ref 9, .ref 10, .ref 11, .int 0])),
  .inl (7, fun _ => 0),
  .inl (7, fun _ => 0),
  .inl (7, fun _ => 0),
  .inl (7, fun _ => 0),
  .inl (7, fun _ => 0),
  .inl (7, fun _ => 0),
  .inr (.inr (0, [.ref 16, .ref 17, .ref 18, .ref 19, .int 0, .int 0])),
  .inl (60, fun _ => 0),
  .inl (60, fun _ => 0),
  .inl (60, fun _ => 0),
  .inl (60, fun _ => 0),
  .inr (.inl (0, 3, (va_up (va_up (va_up (fun _ => none) 0 (some 21)) 1 (some 26)) 2 (some 31)))),
  .inr (.inr (0, [.ref 22, .ref 23, .ref 24, .ref 25, .int 0, .int 0])),
  .inl (60, fun _ => 0),
  .inl (60, fun _ => 0),
  .inl (60, fun _ => 0),
  .inl (60, fun _ => 0),
  .inr (.inr (0, [.ref 27, .ref 28, .ref 29, .ref 30, .int 0, .int 0])),
  .inl (60, fun _ => 0),
  .inl (60, fun _ => 0),
  .inl (60, fun _ => 0),
  .inl (60, fun _ => 0),
  .inr (.inr (0, [.ref 32, .ref 33, .ref 34, .ref 35, .int 0, .int 0])),
  .inl (60, fun _ => 0),
  .inl (60, fun _ => 0),
  .inl (60, fun _ => 0),
  .inl (60, fun _ => 0),
  .inr (.inr (1, [.ref 37, .ref 38, .ref 39, .int 0])),
  .inl (7, fun _ => 0),
  .inl (7, fun _ => 0),
  .inl (7, fun _ => 0),
  .inr (.inr (3, [.ref 41, .ref 42, .ref 43, .ref 44, .int 0, .int 0, .int 1000, .int 0, .int (-9)])),
  .inr (.inl (1, 7, (va_up (va_up (va_up (va_up (va_up (va_up (va_up (fun _ => none) 0 (some 45)) 1 (some 49)) 2 (some 53)) 3 (some 57)) 4 (some 61)) 5 (some 65)) 6 (some 69)))),
  .inl (6, fun _ => 0),
  .inl (6, fun _ => 0),
  .inl (4, fun _ => 0),
  .inr (.inr (1, [.ref 46, .ref 47, .ref 48, .int 0])),
  .inl (7, fun _ => 0),
  .inl (7, fun _ => 0),
  .inl (7, fun _ => 0),
  .inr (.inr (1, [.ref 50, .ref 51, .ref 52, .int 0])),
  .inl (7, fun _ => 0),
  .inl (7, fun _ => 0),
  .inl (7, fun _ => 0),
  .inr (.inr (1, [.ref 54, .ref 55, .ref 56, .int 0])),
  .inl (7, fun _ => 0),
  .inl (7, fun _ => 0),
  .inl (7, fun _ => 0),
  .inr (.inr (1, [.ref 58, .ref 59, .ref 60, .int 0])),
  .inl (7, fun _ => 0),
  .inl (7, fun _ => 0),
  .inl (7, fun _ => 0),
  .inr (.inr (1, [.ref 62, .ref 63, .ref 64, .int 0])),
  .inl (7, fun _ => 0),
  .inl (7, fun _ => 0),
  .inl (7, fun _ => 0),
  .inr (.inr (1, [.ref 66, .ref 67, .ref 68, .int 0])),
  .inl (7, fun _ => 0),
  .inl (7, fun _ => 0),
  .inl (7, fun _ => 0),
  .inr (.inr (1, [.ref 70, .ref 71, .ref 72, .int 0])),
  .inl (7, fun _ => 0),
  .inl (7, fun _ => 0),
  .inl (7, fun _ => 0),
  .inl (6, fun _ => 0),
  .inr (.inr (2, [.ref 75, .int 0, .int 0])),
  .inl (40, fun _ => 0),
  .inr (.inr (2, [.ref 77, .int 0, .int 0])),
  .inl (40, fun _ => 0),
  .inr (.inr (2, [.ref 79, .int 0, .int 0])),
  .inl (40, fun _ => 0),
  .inr (.inr (2, [.ref 81, .int 0, .int 0])),
  .inl (40, fun _ => 0),
  .inr (.inr (2, [.ref 83, .int 0, .int 0])),
  .inl (40, fun _ => 0),
  .inr (.inr (2, [.ref 85, .int 0, .int 0])),
  .inl (40, fun _ => 0),
  .inr (.inr (2, [.ref 87, .int 0, .int 0])),
  .inl (80, fun _ => 0),
  .inr (.inr (2, [.ref 89, .int 0, .int 0])),
  .inl (80, fun _ => 0),
  .inr (.inr (2, [.ref 91, .int 0, .int 0])),
  .inl (80, fun _ => 0),
  .inr (.inr (2, [.ref 93, .int 0, .int 0])),
  .inl (80, fun _ => 0)]
def ct_s0 : pv_F := fun a => match a with
  | 0 => fun j => match j with
    | 7 => 3
    | _ => 0
  | 40 => fun j => match j with
    | 6 => 1000
    | 8 => -9
    | _ => 0
  | _ => fun _ => 0
def ct_T0 : pv_T := (fun a => match a with
  | 94 => fun j => match j with
    | 10 => 3
    | _ => 0
  | 96 => upd (upd (upd (upd (upd (upd (fun _ => 0) 0 (-9)) 1 (-9)) 2 (-9)) 3 (-9)) 4 (-9)) 5 (-9)
  | 99 => upd (upd (upd (upd (fun _ => 0) 0 (-9)) 1 (-9)) 2 (-9)) 3 (-9)
  | 107 => upd (upd (upd (fun _ => 0) 0 (-9)) 1 (-9)) 2 (-9)
  | _ => fun _ => 0, 0)
set_option maxRecDepth 1000000 in
set_option maxHeartbeats 40000000 in
theorem ct_WN (xs : Nat → Int32) (L : Nat) : pv_run xs L 2000 39 53 (0, 0, 0, [some (.ref 0), none], [], [.inr (.inr (5, [.null, .null, .null, .null, .null, .null, .int 0, .int 0, .int 0, .int 0]))]) = some (none, ct_M1) := by rfl
set_option maxRecDepth 1000000 in
set_option maxHeartbeats 40000000 in
theorem ct_MO (xs : Nat → Int32) (L : Nat) : pv_run xs L 1000 39 113 (0, 0, 0, [some (.ref 94), none], [], ct_M1 ++ [.inr (.inr (6, [.int 0, .null, .int 0, .null, .null, .null, .null, .null, .int 0, .int 0, .int 0, .null, .int 0, .int 0, .null, .null, .null, .null, .int 0, .null, .null, .null, .null, .null, .int 0, .null, .int 0, .null, .null, .null, .int 0, .int 0, .int 0, .int 0, .null, .long 0]))]) = some (none, pv_mm ct_s0 ct_T0) := by rfl
set_option maxRecDepth 1000000 in
set_option maxHeartbeats 40000000 in
theorem ct_law {xs : Nat → Int32} {L : Nat} {r : Option Value × pv_M} (kk : pv_Ev xs L 40 pv_law (116, 23246, 18, [some (.retAddr 0), some (.ref 0), some (.ref 94), some (.int (0:Int32))], [], pv_mm ct_s0 ct_T0) r) : pv_Ev xs L 40 pv_law (0, 0, 0, [some (.retAddr 0), none, none, none], [], []) r := by
  refine pv_Ev.next (t := (1, 10, 3, [some (.retAddr 0), none, none, none], [.ref 0], [.inr (.inr (5, [.null, .null, .null, .null, .null, .null, .int 0, .int 0, .int 0, .int 0]))])) (by rfl) ?_
  refine pv_Ev.next (t := (1, 10, 4, [some (.retAddr 0), none, none, none], [.ref 0, .ref 0], [.inr (.inr (5, [.null, .null, .null, .null, .null, .null, .int 0, .int 0, .int 0, .int 0]))])) (by rfl) ?_
  refine pv_Ev.call (d := 39) (z := 53) (as := [.ref 0]) (rs := [.ref 0]) (v := none) (M1 := ct_M1) (by rfl) ⟨2000, ct_WN xs L⟩ ?_
  refine pv_Ev.next (t := (94, 2210, 8, [some (.retAddr 0), some (.ref 0), none, none], [], ct_M1)) (by rfl) ?_
  refine pv_Ev.next (t := (95, 2246, 11, [some (.retAddr 0), some (.ref 0), none, none], [.ref 94], ct_M1 ++ [.inr (.inr (6, [.int 0, .null, .int 0, .null, .null, .null, .null, .null, .int 0, .int 0, .int 0, .null, .int 0, .int 0, .null, .null, .null, .null, .int 0, .null, .null, .null, .null, .null, .int 0, .null, .int 0, .null, .null, .null, .int 0, .int 0, .int 0, .int 0, .null, .long 0]))])) (by rfl) ?_
  refine pv_Ev.next (t := (95, 2246, 12, [some (.retAddr 0), some (.ref 0), none, none], [.ref 94, .ref 94], ct_M1 ++ [.inr (.inr (6, [.int 0, .null, .int 0, .null, .null, .null, .null, .null, .int 0, .int 0, .int 0, .null, .int 0, .int 0, .null, .null, .null, .null, .int 0, .null, .null, .null, .null, .null, .int 0, .null, .int 0, .null, .null, .null, .int 0, .int 0, .int 0, .int 0, .null, .long 0]))])) (by rfl) ?_
  refine pv_Ev.call (d := 39) (z := 113) (as := [.ref 94]) (rs := [.ref 94]) (v := none) (M1 := pv_mm ct_s0 ct_T0) (by rfl) ⟨1000, ct_MO xs L⟩ ?_
  refine pv_Ev.next (t := (116, 23246, 16, [some (.retAddr 0), some (.ref 0), some (.ref 94), none], [], pv_mm ct_s0 ct_T0)) (by rfl) ?_
  refine pv_Ev.next (t := (116, 23246, 17, [some (.retAddr 0), some (.ref 0), some (.ref 94), none], [.int 0], pv_mm ct_s0 ct_T0)) (by rfl) ?_
  exact pv_Ev.next (t := (116, 23246, 18, [some (.retAddr 0), some (.ref 0), some (.ref 94), some (.int 0)], [], pv_mm ct_s0 ct_T0)) (by rfl) kk
