/-! printed by wip/whole/gen/ops.py: the law's loop, out of its 45 operations, for any invariant -/
/-- both answer alike, and the invariant holds behind it: class writes, model writes; and those that write nothing -/
def op_ww {α : Type} (I : pv_F → pv_T → Prop) (f : pv_F → Option (α × pv_F)) (g : pv_T → Option (α × pv_T)) : Prop := ∀ s T, I s T → ∃ a s' T', f s = some (a, s') ∧ g T = some (a, T') ∧ I s' T'
def op_rr {α : Type} (I : pv_F → pv_T → Prop) (f : pv_F → Option α) (g : pv_T → Option α) : Prop := ∀ s T, I s T → ∃ a, f s = some a ∧ g T = some a
def op_rw {α : Type} (I : pv_F → pv_T → Prop) (f : pv_F → Option α) (g : pv_T → Option (α × pv_T)) : Prop := ∀ s T, I s T → ∃ a T', f s = some a ∧ g T = some (a, T') ∧ I s T' 
theorem nI_ad_ (a b : Nat) : nI a + nI b = nI (a + b) := by
  unfold nI
  rw [← Int32.ofNat_add]
theorem rds_ok {xs : Nat → Int32} {L i j : Nat} (h : i + j < L) (hL : L ≤ 3072) {c : Int32} (hc : c = nI j) : pv_rds xs L (nI i + c) = some (xs (i + j)) := by
  subst hc
  rw [nI_ad_]
  unfold pv_rds pv_in
  have h1 : ¬ nI (i + j) < 0 := nI_pos (by omega)
  have h2 : (nI (i + j)).toNatClampNeg = i + j := nI_clamp (by omega)
  simp [h1, h2, h]
theorem rds_ok0 {xs : Nat → Int32} {L i : Nat} (h : i < L) (hL : L ≤ 3072) : pv_rds xs L (nI i) = some (xs i) := by
  unfold pv_rds pv_in
  have h1 : ¬ nI i < 0 := nI_pos (by omega)
  have h2 : (nI i).toNatClampNeg = i := nI_clamp (by omega)
  simp [h1, h2, h]
def OP0 (I : pv_F → pv_T → Prop) : Prop := ∀ a b : Int32, op_ww I (f54_row a b) (f125_row a b)
def OP1 (I : pv_F → pv_T → Prop) : Prop := ∀ a b c : Int32, op_ww I (f55_lay a b c) (f127_lay a b c)
def OP2 (I : pv_F → pv_T → Prop) : Prop := ∀ a b : Int32, op_ww I (f56_at a b) (f126_at a b)
def OP3 (I : pv_F → pv_T → Prop) : Prop := ∀ a : Int32, op_ww I (f57_tear a) (f128_tear a)
def OP4 (I : pv_F → pv_T → Prop) : Prop := ∀ a b c d e : Int32, op_ww I (f58_copy a b c d e) (f129_copy a b c d e)
def OP5 (I : pv_F → pv_T → Prop) : Prop := ∀ a : Int32, op_ww I (f59_mean a) (f130_mean a)
def OP6 (I : pv_F → pv_T → Prop) : Prop := ∀ a b : Int32, op_ww I (f60_text a b) (f131_text a b)
def OP7 (I : pv_F → pv_T → Prop) : Prop := ∀ a b c : Int32, op_ww I (f61_put a b c) (f132_put a b c)
def OP8 (I : pv_F → pv_T → Prop) : Prop := ∀ a : Int32, op_ww I (f62_fault a) (f138_fault a)
def OP9 (I : pv_F → pv_T → Prop) : Prop := ∀ a : Int32, op_ww I (f63_town a) (f139_town a)
def OP10 (I : pv_F → pv_T → Prop) : Prop := ∀ a b : Int32, op_ww I (f64_person a b) (f147_person a b)
def OP11 (I : pv_F → pv_T → Prop) : Prop := ∀ a b : Int32, op_ww I (f65_letter a b) (f148_letter a b)
def OP12 (I : pv_F → pv_T → Prop) : Prop := ∀ a b : Int32, op_ww I (f66_mark a b) (f149_mark a b)
def OP13 (I : pv_F → pv_T → Prop) : Prop := ∀ a : Int32, op_ww I (f67_way a) (f150_way a)
def OP14 (I : pv_F → pv_T → Prop) : Prop := ∀ a : Int32, op_ww I (f68_price a) (f151_price a)
def OP15 (I : pv_F → pv_T → Prop) : Prop := ∀ a b : Int32, op_ww I (f69_call a b) (f160_call a b)
def OP16 (I : pv_F → pv_T → Prop) : Prop := ∀ a b c : Int32, op_ww I (f70_mend a b c) (f161_mend a b c)
def OP17 (I : pv_F → pv_T → Prop) : Prop := ∀ a : Int32, op_ww I (f71_undo a) (f163_undo a)
def OP18 (I : pv_F → pv_T → Prop) : Prop := ∀ a b : Int32, op_rr I (f72_comes a b) (f164_comes a b)
def OP19 (I : pv_F → pv_T → Prop) : Prop := ∀ a : Int32, op_rr I (f73_alike a) (f165_alike a)
def OP20 (I : pv_F → pv_T → Prop) : Prop := ∀ a : Int32, op_ww I (f74_keep a) (f166_keep a)
def OP21 (I : pv_F → pv_T → Prop) : Prop := ∀ a : Int32, op_ww I (f75_on a) (f167_on a)
def OP22 (I : pv_F → pv_T → Prop) : Prop := ∀ a : Int32, op_ww I (f76_lasts a) (f170_lasts a)
def OP23 (I : pv_F → pv_T → Prop) : Prop := ∀ a b : Int32, op_ww I (f77_becomes a b) (f171_becomes a b)
def OP24 (I : pv_F → pv_T → Prop) : Prop := ∀ a : Int32, op_ww I (f78_unlike a) (f174_unlike a)
def OP25 (I : pv_F → pv_T → Prop) : Prop := op_ww I f79_first f176_first
def OP26 (I : pv_F → pv_T → Prop) : Prop := ∀ a : Int32, op_ww I (f80_name a) (f180_name a)
def OP27 (I : pv_F → pv_T → Prop) : Prop := ∀ a : Int32, op_ww I (f81_best a) (f181_best a)
def OP28 (I : pv_F → pv_T → Prop) : Prop := ∀ a : Int32, op_ww I (f82_judge a) (f186_judge a)
def OP29 (I : pv_F → pv_T → Prop) : Prop := ∀ a b : Int32, op_ww I (f83_order a b) (f190_order a b)
def OP30 (I : pv_F → pv_T → Prop) : Prop := ∀ a b : Int32, op_ww I (f84_callers a b) (f192_callers a b)
def OP31 (I : pv_F → pv_T → Prop) : Prop := ∀ a : Int32, op_ww I (f85_spare a) (f194_spare a)
def OP32 (I : pv_F → pv_T → Prop) : Prop := ∀ a : Int32, op_ww I (f86_whose a) (f195_whose a)
def OP33 (I : pv_F → pv_T → Prop) : Prop := ∀ a b : Int32, op_ww I (f87_held a b) (f198_held a b)
def OP34 (I : pv_F → pv_T → Prop) : Prop := ∀ a b c : Int32, op_ww I (f88_could a b c) (f199_could a b c)
def OP35 (I : pv_F → pv_T → Prop) : Prop := ∀ a : Int32, op_ww I (f89_crowd a) (f201_crowd a)
def OP36 (I : pv_F → pv_T → Prop) : Prop := ∀ a : Int32, op_rw I (f90_shortest a) (f202_shortest a)
def OP37 (I : pv_F → pv_T → Prop) : Prop := ∀ a b : Int32, op_ww I (f91_days a b) (f203_days a b)
def OP38 (I : pv_F → pv_T → Prop) : Prop := op_rr I f92_asked f204_asked
def OP39 (I : pv_F → pv_T → Prop) : Prop := op_rr I f93_upper f207_upper
def OP40 (I : pv_F → pv_T → Prop) : Prop := op_rr I f94_lower f208_lower
def OP41 (I : pv_F → pv_T → Prop) : Prop := ∀ a : Int32, op_rr I (f95_count a) (f210_count a)
def OP42 (I : pv_F → pv_T → Prop) : Prop := op_rr I f96_finding f211_finding
def OP43 (I : pv_F → pv_T → Prop) : Prop := ∀ a : Int32, op_rr I (f97_findings a) (f212_findings a)
def OP44 (I : pv_F → pv_T → Prop) : Prop := op_rw I f98_digest f215_digest
def OPS (I : pv_F → pv_T → Prop) : Prop := OP0 I ∧ OP1 I ∧ OP2 I ∧ OP3 I ∧ OP4 I ∧ OP5 I ∧ OP6 I ∧ OP7 I ∧ OP8 I ∧ OP9 I ∧ OP10 I ∧ OP11 I ∧ OP12 I ∧ OP13 I ∧ OP14 I ∧ OP15 I ∧ OP16 I ∧ OP17 I ∧ OP18 I ∧ OP19 I ∧ OP20 I ∧ OP21 I ∧ OP22 I ∧ OP23 I ∧ OP24 I ∧ OP25 I ∧ OP26 I ∧ OP27 I ∧ OP28 I ∧ OP29 I ∧ OP30 I ∧ OP31 I ∧ OP32 I ∧ OP33 I ∧ OP34 I ∧ OP35 I ∧ OP36 I ∧ OP37 I ∧ OP38 I ∧ OP39 I ∧ OP40 I ∧ OP41 I ∧ OP42 I ∧ OP43 I ∧ OP44 I
theorem lc0 {I : pv_F → pv_T → Prop} {xs : Nat → Int32} {L i : Nat} {s : pv_F} {T : pv_T} (hL : L ≤ 3072) (hi : i + 6 ≤ L) (hI : I s T) (hop : OP0 I) : ∃ s2 T2, f_law_c0 xs L (nI i) s T = some (.inl (nI i + 6, s2, T2)) ∧ I s2 T2 := by
  obtain ⟨a, s2, T2, h1, h2, h3⟩ := hop (xs (i + 1)) (xs (i + 2)) _ _ hI
  refine ⟨s2, T2, ?_, h3⟩
  simp only [f_law_c0, rds_ok (xs := xs) (L := L) (i := i) (j := 1) (c := 1) (by omega) hL (by decide), rds_ok (xs := xs) (L := L) (i := i) (j := 2) (c := 2) (by omega) hL (by decide), Option.bind_some, h1, h2, if_true]
theorem lc1 {I : pv_F → pv_T → Prop} {xs : Nat → Int32} {L i : Nat} {s : pv_F} {T : pv_T} (hL : L ≤ 3072) (hi : i + 6 ≤ L) (hI : I s T) (hop : OP1 I) : ∃ s2 T2, f_law_c1 xs L (nI i) s T = some (.inl (nI i + 6, s2, T2)) ∧ I s2 T2 := by
  obtain ⟨a, s2, T2, h1, h2, h3⟩ := hop (xs (i + 1)) (xs (i + 2)) (xs (i + 3)) _ _ hI
  refine ⟨s2, T2, ?_, h3⟩
  simp only [f_law_c1, rds_ok (xs := xs) (L := L) (i := i) (j := 1) (c := 1) (by omega) hL (by decide), rds_ok (xs := xs) (L := L) (i := i) (j := 2) (c := 2) (by omega) hL (by decide), rds_ok (xs := xs) (L := L) (i := i) (j := 3) (c := 3) (by omega) hL (by decide), Option.bind_some, h1, h2, if_true]
theorem lc2 {I : pv_F → pv_T → Prop} {xs : Nat → Int32} {L i : Nat} {s : pv_F} {T : pv_T} (hL : L ≤ 3072) (hi : i + 6 ≤ L) (hI : I s T) (hop : OP2 I) : ∃ s2 T2, f_law_c2 xs L (nI i) s T = some (.inl (nI i + 6, s2, T2)) ∧ I s2 T2 := by
  obtain ⟨a, s2, T2, h1, h2, h3⟩ := hop (xs (i + 1)) (xs (i + 2)) _ _ hI
  refine ⟨s2, T2, ?_, h3⟩
  simp only [f_law_c2, rds_ok (xs := xs) (L := L) (i := i) (j := 1) (c := 1) (by omega) hL (by decide), rds_ok (xs := xs) (L := L) (i := i) (j := 2) (c := 2) (by omega) hL (by decide), Option.bind_some, h1, h2, if_true]
theorem lc3 {I : pv_F → pv_T → Prop} {xs : Nat → Int32} {L i : Nat} {s : pv_F} {T : pv_T} (hL : L ≤ 3072) (hi : i + 6 ≤ L) (hI : I s T) (hop : OP3 I) : ∃ s2 T2, f_law_c3 xs L (nI i) s T = some (.inl (nI i + 6, s2, T2)) ∧ I s2 T2 := by
  obtain ⟨a, s2, T2, h1, h2, h3⟩ := hop (xs (i + 1)) _ _ hI
  refine ⟨s2, T2, ?_, h3⟩
  simp only [f_law_c3, rds_ok (xs := xs) (L := L) (i := i) (j := 1) (c := 1) (by omega) hL (by decide), Option.bind_some, h1, h2, if_true]
theorem lc4 {I : pv_F → pv_T → Prop} {xs : Nat → Int32} {L i : Nat} {s : pv_F} {T : pv_T} (hL : L ≤ 3072) (hi : i + 6 ≤ L) (hI : I s T) (hop : OP4 I) : ∃ s2 T2, f_law_c4 xs L (nI i) s T = some (.inl (nI i + 6, s2, T2)) ∧ I s2 T2 := by
  obtain ⟨a, s2, T2, h1, h2, h3⟩ := hop (xs (i + 1)) (xs (i + 2)) (xs (i + 3)) (xs (i + 4)) (xs (i + 5)) _ _ hI
  refine ⟨s2, T2, ?_, h3⟩
  simp only [f_law_c4, rds_ok (xs := xs) (L := L) (i := i) (j := 1) (c := 1) (by omega) hL (by decide), rds_ok (xs := xs) (L := L) (i := i) (j := 2) (c := 2) (by omega) hL (by decide), rds_ok (xs := xs) (L := L) (i := i) (j := 3) (c := 3) (by omega) hL (by decide), rds_ok (xs := xs) (L := L) (i := i) (j := 4) (c := 4) (by omega) hL (by decide), rds_ok (xs := xs) (L := L) (i := i) (j := 5) (c := 5) (by omega) hL (by decide), Option.bind_some, h1, h2, if_true]
theorem lc5 {I : pv_F → pv_T → Prop} {xs : Nat → Int32} {L i : Nat} {s : pv_F} {T : pv_T} (hL : L ≤ 3072) (hi : i + 6 ≤ L) (hI : I s T) (hop : OP5 I) : ∃ s2 T2, f_law_c5 xs L (nI i) s T = some (.inl (nI i + 6, s2, T2)) ∧ I s2 T2 := by
  obtain ⟨a, s2, T2, h1, h2, h3⟩ := hop (xs (i + 1)) _ _ hI
  refine ⟨s2, T2, ?_, h3⟩
  simp only [f_law_c5, rds_ok (xs := xs) (L := L) (i := i) (j := 1) (c := 1) (by omega) hL (by decide), Option.bind_some, h1, h2, if_true]
theorem lc6 {I : pv_F → pv_T → Prop} {xs : Nat → Int32} {L i : Nat} {s : pv_F} {T : pv_T} (hL : L ≤ 3072) (hi : i + 6 ≤ L) (hI : I s T) (hop : OP6 I) : ∃ s2 T2, f_law_c6 xs L (nI i) s T = some (.inl (nI i + 6, s2, T2)) ∧ I s2 T2 := by
  obtain ⟨a, s2, T2, h1, h2, h3⟩ := hop (xs (i + 1)) (xs (i + 2)) _ _ hI
  refine ⟨s2, T2, ?_, h3⟩
  simp only [f_law_c6, rds_ok (xs := xs) (L := L) (i := i) (j := 1) (c := 1) (by omega) hL (by decide), rds_ok (xs := xs) (L := L) (i := i) (j := 2) (c := 2) (by omega) hL (by decide), Option.bind_some, h1, h2, if_true]
theorem lc7 {I : pv_F → pv_T → Prop} {xs : Nat → Int32} {L i : Nat} {s : pv_F} {T : pv_T} (hL : L ≤ 3072) (hi : i + 6 ≤ L) (hI : I s T) (hop : OP7 I) : ∃ s2 T2, f_law_c7 xs L (nI i) s T = some (.inl (nI i + 6, s2, T2)) ∧ I s2 T2 := by
  obtain ⟨a, s2, T2, h1, h2, h3⟩ := hop (xs (i + 1)) (xs (i + 2)) (xs (i + 3)) _ _ hI
  refine ⟨s2, T2, ?_, h3⟩
  simp only [f_law_c7, rds_ok (xs := xs) (L := L) (i := i) (j := 1) (c := 1) (by omega) hL (by decide), rds_ok (xs := xs) (L := L) (i := i) (j := 2) (c := 2) (by omega) hL (by decide), rds_ok (xs := xs) (L := L) (i := i) (j := 3) (c := 3) (by omega) hL (by decide), Option.bind_some, h1, h2, if_true]
theorem lc8 {I : pv_F → pv_T → Prop} {xs : Nat → Int32} {L i : Nat} {s : pv_F} {T : pv_T} (hL : L ≤ 3072) (hi : i + 6 ≤ L) (hI : I s T) (hop : OP8 I) : ∃ s2 T2, f_law_c8 xs L (nI i) s T = some (.inl (nI i + 6, s2, T2)) ∧ I s2 T2 := by
  obtain ⟨a, s2, T2, h1, h2, h3⟩ := hop (xs (i + 1)) _ _ hI
  refine ⟨s2, T2, ?_, h3⟩
  simp only [f_law_c8, rds_ok (xs := xs) (L := L) (i := i) (j := 1) (c := 1) (by omega) hL (by decide), Option.bind_some, h1, h2, if_true]
theorem lc9 {I : pv_F → pv_T → Prop} {xs : Nat → Int32} {L i : Nat} {s : pv_F} {T : pv_T} (hL : L ≤ 3072) (hi : i + 6 ≤ L) (hI : I s T) (hop : OP9 I) : ∃ s2 T2, f_law_c9 xs L (nI i) s T = some (.inl (nI i + 6, s2, T2)) ∧ I s2 T2 := by
  obtain ⟨a, s2, T2, h1, h2, h3⟩ := hop (xs (i + 1)) _ _ hI
  refine ⟨s2, T2, ?_, h3⟩
  simp only [f_law_c9, rds_ok (xs := xs) (L := L) (i := i) (j := 1) (c := 1) (by omega) hL (by decide), Option.bind_some, h1, h2, if_true]
theorem lc10 {I : pv_F → pv_T → Prop} {xs : Nat → Int32} {L i : Nat} {s : pv_F} {T : pv_T} (hL : L ≤ 3072) (hi : i + 6 ≤ L) (hI : I s T) (hop : OP10 I) : ∃ s2 T2, f_law_c10 xs L (nI i) s T = some (.inl (nI i + 6, s2, T2)) ∧ I s2 T2 := by
  obtain ⟨a, s2, T2, h1, h2, h3⟩ := hop (xs (i + 1)) (xs (i + 2)) _ _ hI
  refine ⟨s2, T2, ?_, h3⟩
  simp only [f_law_c10, rds_ok (xs := xs) (L := L) (i := i) (j := 1) (c := 1) (by omega) hL (by decide), rds_ok (xs := xs) (L := L) (i := i) (j := 2) (c := 2) (by omega) hL (by decide), Option.bind_some, h1, h2, if_true]
theorem lc11 {I : pv_F → pv_T → Prop} {xs : Nat → Int32} {L i : Nat} {s : pv_F} {T : pv_T} (hL : L ≤ 3072) (hi : i + 6 ≤ L) (hI : I s T) (hop : OP11 I) : ∃ s2 T2, f_law_c11 xs L (nI i) s T = some (.inl (nI i + 6, s2, T2)) ∧ I s2 T2 := by
  obtain ⟨a, s2, T2, h1, h2, h3⟩ := hop (xs (i + 1)) (xs (i + 2)) _ _ hI
  refine ⟨s2, T2, ?_, h3⟩
  simp only [f_law_c11, rds_ok (xs := xs) (L := L) (i := i) (j := 1) (c := 1) (by omega) hL (by decide), rds_ok (xs := xs) (L := L) (i := i) (j := 2) (c := 2) (by omega) hL (by decide), Option.bind_some, h1, h2, if_true]
theorem lc12 {I : pv_F → pv_T → Prop} {xs : Nat → Int32} {L i : Nat} {s : pv_F} {T : pv_T} (hL : L ≤ 3072) (hi : i + 6 ≤ L) (hI : I s T) (hop : OP12 I) : ∃ s2 T2, f_law_c12 xs L (nI i) s T = some (.inl (nI i + 6, s2, T2)) ∧ I s2 T2 := by
  obtain ⟨a, s2, T2, h1, h2, h3⟩ := hop (xs (i + 1)) (xs (i + 2)) _ _ hI
  refine ⟨s2, T2, ?_, h3⟩
  simp only [f_law_c12, rds_ok (xs := xs) (L := L) (i := i) (j := 1) (c := 1) (by omega) hL (by decide), rds_ok (xs := xs) (L := L) (i := i) (j := 2) (c := 2) (by omega) hL (by decide), Option.bind_some, h1, h2, if_true]
theorem lc13 {I : pv_F → pv_T → Prop} {xs : Nat → Int32} {L i : Nat} {s : pv_F} {T : pv_T} (hL : L ≤ 3072) (hi : i + 6 ≤ L) (hI : I s T) (hop : OP13 I) : ∃ s2 T2, f_law_c13 xs L (nI i) s T = some (.inl (nI i + 6, s2, T2)) ∧ I s2 T2 := by
  obtain ⟨a, s2, T2, h1, h2, h3⟩ := hop (xs (i + 1)) _ _ hI
  refine ⟨s2, T2, ?_, h3⟩
  simp only [f_law_c13, rds_ok (xs := xs) (L := L) (i := i) (j := 1) (c := 1) (by omega) hL (by decide), Option.bind_some, h1, h2, if_true]
theorem lc14 {I : pv_F → pv_T → Prop} {xs : Nat → Int32} {L i : Nat} {s : pv_F} {T : pv_T} (hL : L ≤ 3072) (hi : i + 6 ≤ L) (hI : I s T) (hop : OP14 I) : ∃ s2 T2, f_law_c14 xs L (nI i) s T = some (.inl (nI i + 6, s2, T2)) ∧ I s2 T2 := by
  obtain ⟨a, s2, T2, h1, h2, h3⟩ := hop (xs (i + 1)) _ _ hI
  refine ⟨s2, T2, ?_, h3⟩
  simp only [f_law_c14, rds_ok (xs := xs) (L := L) (i := i) (j := 1) (c := 1) (by omega) hL (by decide), Option.bind_some, h1, h2, if_true]
theorem lc15 {I : pv_F → pv_T → Prop} {xs : Nat → Int32} {L i : Nat} {s : pv_F} {T : pv_T} (hL : L ≤ 3072) (hi : i + 6 ≤ L) (hI : I s T) (hop : OP15 I) : ∃ s2 T2, f_law_c15 xs L (nI i) s T = some (.inl (nI i + 6, s2, T2)) ∧ I s2 T2 := by
  obtain ⟨a, s2, T2, h1, h2, h3⟩ := hop (xs (i + 1)) (xs (i + 2)) _ _ hI
  refine ⟨s2, T2, ?_, h3⟩
  simp only [f_law_c15, rds_ok (xs := xs) (L := L) (i := i) (j := 1) (c := 1) (by omega) hL (by decide), rds_ok (xs := xs) (L := L) (i := i) (j := 2) (c := 2) (by omega) hL (by decide), Option.bind_some, h1, h2, if_true]
theorem lc16 {I : pv_F → pv_T → Prop} {xs : Nat → Int32} {L i : Nat} {s : pv_F} {T : pv_T} (hL : L ≤ 3072) (hi : i + 6 ≤ L) (hI : I s T) (hop : OP16 I) : ∃ s2 T2, f_law_c16 xs L (nI i) s T = some (.inl (nI i + 6, s2, T2)) ∧ I s2 T2 := by
  obtain ⟨a, s2, T2, h1, h2, h3⟩ := hop (xs (i + 1)) (xs (i + 2)) (xs (i + 3)) _ _ hI
  refine ⟨s2, T2, ?_, h3⟩
  simp only [f_law_c16, rds_ok (xs := xs) (L := L) (i := i) (j := 1) (c := 1) (by omega) hL (by decide), rds_ok (xs := xs) (L := L) (i := i) (j := 2) (c := 2) (by omega) hL (by decide), rds_ok (xs := xs) (L := L) (i := i) (j := 3) (c := 3) (by omega) hL (by decide), Option.bind_some, h1, h2, if_true]
theorem lc17 {I : pv_F → pv_T → Prop} {xs : Nat → Int32} {L i : Nat} {s : pv_F} {T : pv_T} (hL : L ≤ 3072) (hi : i + 6 ≤ L) (hI : I s T) (hop : OP17 I) : ∃ s2 T2, f_law_c17 xs L (nI i) s T = some (.inl (nI i + 6, s2, T2)) ∧ I s2 T2 := by
  obtain ⟨a, s2, T2, h1, h2, h3⟩ := hop (xs (i + 1)) _ _ hI
  refine ⟨s2, T2, ?_, h3⟩
  simp only [f_law_c17, rds_ok (xs := xs) (L := L) (i := i) (j := 1) (c := 1) (by omega) hL (by decide), Option.bind_some, h1, h2, if_true]
theorem lc18 {I : pv_F → pv_T → Prop} {xs : Nat → Int32} {L i : Nat} {s : pv_F} {T : pv_T} (hL : L ≤ 3072) (hi : i + 6 ≤ L) (hI : I s T) (hop : OP18 I) : ∃ s2 T2, f_law_c18 xs L (nI i) s T = some (.inl (nI i + 6, s2, T2)) ∧ I s2 T2 := by
  obtain ⟨a, h1, h2⟩ := hop (xs (i + 1)) (xs (i + 2)) _ _ hI
  refine ⟨s, T, ?_, hI⟩
  simp only [f_law_c18, rds_ok (xs := xs) (L := L) (i := i) (j := 1) (c := 1) (by omega) hL (by decide), rds_ok (xs := xs) (L := L) (i := i) (j := 2) (c := 2) (by omega) hL (by decide), Option.bind_some, h1, h2, if_true]
theorem lc19 {I : pv_F → pv_T → Prop} {xs : Nat → Int32} {L i : Nat} {s : pv_F} {T : pv_T} (hL : L ≤ 3072) (hi : i + 6 ≤ L) (hI : I s T) (hop : OP19 I) : ∃ s2 T2, f_law_c19 xs L (nI i) s T = some (.inl (nI i + 6, s2, T2)) ∧ I s2 T2 := by
  obtain ⟨a, h1, h2⟩ := hop (xs (i + 1)) _ _ hI
  refine ⟨s, T, ?_, hI⟩
  simp only [f_law_c19, rds_ok (xs := xs) (L := L) (i := i) (j := 1) (c := 1) (by omega) hL (by decide), Option.bind_some, h1, h2, if_true]
theorem lc20 {I : pv_F → pv_T → Prop} {xs : Nat → Int32} {L i : Nat} {s : pv_F} {T : pv_T} (hL : L ≤ 3072) (hi : i + 6 ≤ L) (hI : I s T) (hop : OP20 I) : ∃ s2 T2, f_law_c20 xs L (nI i) s T = some (.inl (nI i + 6, s2, T2)) ∧ I s2 T2 := by
  obtain ⟨a, s2, T2, h1, h2, h3⟩ := hop (xs (i + 1)) _ _ hI
  refine ⟨s2, T2, ?_, h3⟩
  simp only [f_law_c20, rds_ok (xs := xs) (L := L) (i := i) (j := 1) (c := 1) (by omega) hL (by decide), Option.bind_some, h1, h2, if_true]
theorem lc21 {I : pv_F → pv_T → Prop} {xs : Nat → Int32} {L i : Nat} {s : pv_F} {T : pv_T} (hL : L ≤ 3072) (hi : i + 6 ≤ L) (hI : I s T) (hop : OP21 I) : ∃ s2 T2, f_law_c21 xs L (nI i) s T = some (.inl (nI i + 6, s2, T2)) ∧ I s2 T2 := by
  obtain ⟨a, s2, T2, h1, h2, h3⟩ := hop (xs (i + 1)) _ _ hI
  refine ⟨s2, T2, ?_, h3⟩
  simp only [f_law_c21, rds_ok (xs := xs) (L := L) (i := i) (j := 1) (c := 1) (by omega) hL (by decide), Option.bind_some, h1, h2, if_true]
theorem lc22 {I : pv_F → pv_T → Prop} {xs : Nat → Int32} {L i : Nat} {s : pv_F} {T : pv_T} (hL : L ≤ 3072) (hi : i + 6 ≤ L) (hI : I s T) (hop : OP22 I) : ∃ s2 T2, f_law_c22 xs L (nI i) s T = some (.inl (nI i + 6, s2, T2)) ∧ I s2 T2 := by
  obtain ⟨a, s2, T2, h1, h2, h3⟩ := hop (xs (i + 1)) _ _ hI
  refine ⟨s2, T2, ?_, h3⟩
  simp only [f_law_c22, rds_ok (xs := xs) (L := L) (i := i) (j := 1) (c := 1) (by omega) hL (by decide), Option.bind_some, h1, h2, if_true]
theorem lc23 {I : pv_F → pv_T → Prop} {xs : Nat → Int32} {L i : Nat} {s : pv_F} {T : pv_T} (hL : L ≤ 3072) (hi : i + 6 ≤ L) (hI : I s T) (hop : OP23 I) : ∃ s2 T2, f_law_c23 xs L (nI i) s T = some (.inl (nI i + 6, s2, T2)) ∧ I s2 T2 := by
  obtain ⟨a, s2, T2, h1, h2, h3⟩ := hop (xs (i + 1)) (xs (i + 2)) _ _ hI
  refine ⟨s2, T2, ?_, h3⟩
  simp only [f_law_c23, rds_ok (xs := xs) (L := L) (i := i) (j := 1) (c := 1) (by omega) hL (by decide), rds_ok (xs := xs) (L := L) (i := i) (j := 2) (c := 2) (by omega) hL (by decide), Option.bind_some, h1, h2, if_true]
theorem lc24 {I : pv_F → pv_T → Prop} {xs : Nat → Int32} {L i : Nat} {s : pv_F} {T : pv_T} (hL : L ≤ 3072) (hi : i + 6 ≤ L) (hI : I s T) (hop : OP24 I) : ∃ s2 T2, f_law_c24 xs L (nI i) s T = some (.inl (nI i + 6, s2, T2)) ∧ I s2 T2 := by
  obtain ⟨a, s2, T2, h1, h2, h3⟩ := hop (xs (i + 1)) _ _ hI
  refine ⟨s2, T2, ?_, h3⟩
  simp only [f_law_c24, rds_ok (xs := xs) (L := L) (i := i) (j := 1) (c := 1) (by omega) hL (by decide), Option.bind_some, h1, h2, if_true]
theorem lc25 {I : pv_F → pv_T → Prop} {xs : Nat → Int32} {L i : Nat} {s : pv_F} {T : pv_T} (hL : L ≤ 3072) (hi : i + 6 ≤ L) (hI : I s T) (hop : OP25 I) : ∃ s2 T2, f_law_c25 xs L (nI i) s T = some (.inl (nI i + 6, s2, T2)) ∧ I s2 T2 := by
  obtain ⟨a, s2, T2, h1, h2, h3⟩ := hop  _ _ hI
  refine ⟨s2, T2, ?_, h3⟩
  simp only [f_law_c25, Option.bind_some, h1, h2, if_true]
theorem lc26 {I : pv_F → pv_T → Prop} {xs : Nat → Int32} {L i : Nat} {s : pv_F} {T : pv_T} (hL : L ≤ 3072) (hi : i + 6 ≤ L) (hI : I s T) (hop : OP26 I) : ∃ s2 T2, f_law_c26 xs L (nI i) s T = some (.inl (nI i + 6, s2, T2)) ∧ I s2 T2 := by
  obtain ⟨a, s2, T2, h1, h2, h3⟩ := hop (xs (i + 1)) _ _ hI
  refine ⟨s2, T2, ?_, h3⟩
  simp only [f_law_c26, rds_ok (xs := xs) (L := L) (i := i) (j := 1) (c := 1) (by omega) hL (by decide), Option.bind_some, h1, h2, if_true]
theorem lc27 {I : pv_F → pv_T → Prop} {xs : Nat → Int32} {L i : Nat} {s : pv_F} {T : pv_T} (hL : L ≤ 3072) (hi : i + 6 ≤ L) (hI : I s T) (hop : OP27 I) : ∃ s2 T2, f_law_c27 xs L (nI i) s T = some (.inl (nI i + 6, s2, T2)) ∧ I s2 T2 := by
  obtain ⟨a, s2, T2, h1, h2, h3⟩ := hop (xs (i + 1)) _ _ hI
  refine ⟨s2, T2, ?_, h3⟩
  simp only [f_law_c27, rds_ok (xs := xs) (L := L) (i := i) (j := 1) (c := 1) (by omega) hL (by decide), Option.bind_some, h1, h2, if_true]
theorem lc28 {I : pv_F → pv_T → Prop} {xs : Nat → Int32} {L i : Nat} {s : pv_F} {T : pv_T} (hL : L ≤ 3072) (hi : i + 6 ≤ L) (hI : I s T) (hop : OP28 I) : ∃ s2 T2, f_law_c28 xs L (nI i) s T = some (.inl (nI i + 6, s2, T2)) ∧ I s2 T2 := by
  obtain ⟨a, s2, T2, h1, h2, h3⟩ := hop (xs (i + 1)) _ _ hI
  refine ⟨s2, T2, ?_, h3⟩
  simp only [f_law_c28, rds_ok (xs := xs) (L := L) (i := i) (j := 1) (c := 1) (by omega) hL (by decide), Option.bind_some, h1, h2, if_true]
theorem lc29 {I : pv_F → pv_T → Prop} {xs : Nat → Int32} {L i : Nat} {s : pv_F} {T : pv_T} (hL : L ≤ 3072) (hi : i + 6 ≤ L) (hI : I s T) (hop : OP29 I) : ∃ s2 T2, f_law_c29 xs L (nI i) s T = some (.inl (nI i + 6, s2, T2)) ∧ I s2 T2 := by
  obtain ⟨a, s2, T2, h1, h2, h3⟩ := hop (xs (i + 1)) (xs (i + 2)) _ _ hI
  refine ⟨s2, T2, ?_, h3⟩
  simp only [f_law_c29, rds_ok (xs := xs) (L := L) (i := i) (j := 1) (c := 1) (by omega) hL (by decide), rds_ok (xs := xs) (L := L) (i := i) (j := 2) (c := 2) (by omega) hL (by decide), Option.bind_some, h1, h2, if_true]
theorem lc30 {I : pv_F → pv_T → Prop} {xs : Nat → Int32} {L i : Nat} {s : pv_F} {T : pv_T} (hL : L ≤ 3072) (hi : i + 6 ≤ L) (hI : I s T) (hop : OP30 I) : ∃ s2 T2, f_law_c30 xs L (nI i) s T = some (.inl (nI i + 6, s2, T2)) ∧ I s2 T2 := by
  obtain ⟨a, s2, T2, h1, h2, h3⟩ := hop (xs (i + 1)) (xs (i + 2)) _ _ hI
  refine ⟨s2, T2, ?_, h3⟩
  simp only [f_law_c30, rds_ok (xs := xs) (L := L) (i := i) (j := 1) (c := 1) (by omega) hL (by decide), rds_ok (xs := xs) (L := L) (i := i) (j := 2) (c := 2) (by omega) hL (by decide), Option.bind_some, h1, h2, if_true]
theorem lc31 {I : pv_F → pv_T → Prop} {xs : Nat → Int32} {L i : Nat} {s : pv_F} {T : pv_T} (hL : L ≤ 3072) (hi : i + 6 ≤ L) (hI : I s T) (hop : OP31 I) : ∃ s2 T2, f_law_c31 xs L (nI i) s T = some (.inl (nI i + 6, s2, T2)) ∧ I s2 T2 := by
  obtain ⟨a, s2, T2, h1, h2, h3⟩ := hop (xs (i + 1)) _ _ hI
  refine ⟨s2, T2, ?_, h3⟩
  simp only [f_law_c31, rds_ok (xs := xs) (L := L) (i := i) (j := 1) (c := 1) (by omega) hL (by decide), Option.bind_some, h1, h2, if_true]
theorem lc32 {I : pv_F → pv_T → Prop} {xs : Nat → Int32} {L i : Nat} {s : pv_F} {T : pv_T} (hL : L ≤ 3072) (hi : i + 6 ≤ L) (hI : I s T) (hop : OP32 I) : ∃ s2 T2, f_law_c32 xs L (nI i) s T = some (.inl (nI i + 6, s2, T2)) ∧ I s2 T2 := by
  obtain ⟨a, s2, T2, h1, h2, h3⟩ := hop (xs (i + 1)) _ _ hI
  refine ⟨s2, T2, ?_, h3⟩
  simp only [f_law_c32, rds_ok (xs := xs) (L := L) (i := i) (j := 1) (c := 1) (by omega) hL (by decide), Option.bind_some, h1, h2, if_true]
theorem lc33 {I : pv_F → pv_T → Prop} {xs : Nat → Int32} {L i : Nat} {s : pv_F} {T : pv_T} (hL : L ≤ 3072) (hi : i + 6 ≤ L) (hI : I s T) (hop : OP33 I) : ∃ s2 T2, f_law_c33 xs L (nI i) s T = some (.inl (nI i + 6, s2, T2)) ∧ I s2 T2 := by
  obtain ⟨a, s2, T2, h1, h2, h3⟩ := hop (xs (i + 1)) (xs (i + 2)) _ _ hI
  refine ⟨s2, T2, ?_, h3⟩
  simp only [f_law_c33, rds_ok (xs := xs) (L := L) (i := i) (j := 1) (c := 1) (by omega) hL (by decide), rds_ok (xs := xs) (L := L) (i := i) (j := 2) (c := 2) (by omega) hL (by decide), Option.bind_some, h1, h2, if_true]
theorem lc34 {I : pv_F → pv_T → Prop} {xs : Nat → Int32} {L i : Nat} {s : pv_F} {T : pv_T} (hL : L ≤ 3072) (hi : i + 6 ≤ L) (hI : I s T) (hop : OP34 I) : ∃ s2 T2, f_law_c34 xs L (nI i) s T = some (.inl (nI i + 6, s2, T2)) ∧ I s2 T2 := by
  obtain ⟨a, s2, T2, h1, h2, h3⟩ := hop (xs (i + 1)) (xs (i + 2)) (xs (i + 3)) _ _ hI
  refine ⟨s2, T2, ?_, h3⟩
  simp only [f_law_c34, rds_ok (xs := xs) (L := L) (i := i) (j := 1) (c := 1) (by omega) hL (by decide), rds_ok (xs := xs) (L := L) (i := i) (j := 2) (c := 2) (by omega) hL (by decide), rds_ok (xs := xs) (L := L) (i := i) (j := 3) (c := 3) (by omega) hL (by decide), Option.bind_some, h1, h2, if_true]
theorem lc35 {I : pv_F → pv_T → Prop} {xs : Nat → Int32} {L i : Nat} {s : pv_F} {T : pv_T} (hL : L ≤ 3072) (hi : i + 6 ≤ L) (hI : I s T) (hop : OP35 I) : ∃ s2 T2, f_law_c35 xs L (nI i) s T = some (.inl (nI i + 6, s2, T2)) ∧ I s2 T2 := by
  obtain ⟨a, s2, T2, h1, h2, h3⟩ := hop (xs (i + 1)) _ _ hI
  refine ⟨s2, T2, ?_, h3⟩
  simp only [f_law_c35, rds_ok (xs := xs) (L := L) (i := i) (j := 1) (c := 1) (by omega) hL (by decide), Option.bind_some, h1, h2, if_true]
theorem lc36 {I : pv_F → pv_T → Prop} {xs : Nat → Int32} {L i : Nat} {s : pv_F} {T : pv_T} (hL : L ≤ 3072) (hi : i + 6 ≤ L) (hI : I s T) (hop : OP36 I) : ∃ s2 T2, f_law_c36 xs L (nI i) s T = some (.inl (nI i + 6, s2, T2)) ∧ I s2 T2 := by
  obtain ⟨a, T2, h1, h2, h3⟩ := hop (xs (i + 1)) _ _ hI
  refine ⟨s, T2, ?_, h3⟩
  simp only [f_law_c36, rds_ok (xs := xs) (L := L) (i := i) (j := 1) (c := 1) (by omega) hL (by decide), Option.bind_some, h1, h2, if_true]
theorem lc37 {I : pv_F → pv_T → Prop} {xs : Nat → Int32} {L i : Nat} {s : pv_F} {T : pv_T} (hL : L ≤ 3072) (hi : i + 6 ≤ L) (hI : I s T) (hop : OP37 I) : ∃ s2 T2, f_law_c37 xs L (nI i) s T = some (.inl (nI i + 6, s2, T2)) ∧ I s2 T2 := by
  obtain ⟨a, s2, T2, h1, h2, h3⟩ := hop (xs (i + 1)) (xs (i + 2)) _ _ hI
  refine ⟨s2, T2, ?_, h3⟩
  simp only [f_law_c37, rds_ok (xs := xs) (L := L) (i := i) (j := 1) (c := 1) (by omega) hL (by decide), rds_ok (xs := xs) (L := L) (i := i) (j := 2) (c := 2) (by omega) hL (by decide), Option.bind_some, h1, h2, if_true]
theorem lc38 {I : pv_F → pv_T → Prop} {xs : Nat → Int32} {L i : Nat} {s : pv_F} {T : pv_T} (hL : L ≤ 3072) (hi : i + 6 ≤ L) (hI : I s T) (hop : OP38 I) : ∃ s2 T2, f_law_c38 xs L (nI i) s T = some (.inl (nI i + 6, s2, T2)) ∧ I s2 T2 := by
  obtain ⟨a, h1, h2⟩ := hop  _ _ hI
  refine ⟨s, T, ?_, hI⟩
  simp only [f_law_c38, Option.bind_some, h1, h2, if_true]
theorem lc39 {I : pv_F → pv_T → Prop} {xs : Nat → Int32} {L i : Nat} {s : pv_F} {T : pv_T} (hL : L ≤ 3072) (hi : i + 6 ≤ L) (hI : I s T) (hop : OP39 I) : ∃ s2 T2, f_law_c39 xs L (nI i) s T = some (.inl (nI i + 6, s2, T2)) ∧ I s2 T2 := by
  obtain ⟨a, h1, h2⟩ := hop  _ _ hI
  refine ⟨s, T, ?_, hI⟩
  simp only [f_law_c39, Option.bind_some, h1, h2, lg_cmp, if_true]
  simp
theorem lc40 {I : pv_F → pv_T → Prop} {xs : Nat → Int32} {L i : Nat} {s : pv_F} {T : pv_T} (hL : L ≤ 3072) (hi : i + 6 ≤ L) (hI : I s T) (hop : OP40 I) : ∃ s2 T2, f_law_c40 xs L (nI i) s T = some (.inl (nI i + 6, s2, T2)) ∧ I s2 T2 := by
  obtain ⟨a, h1, h2⟩ := hop  _ _ hI
  refine ⟨s, T, ?_, hI⟩
  simp only [f_law_c40, Option.bind_some, h1, h2, lg_cmp, if_true]
  simp
theorem lc41 {I : pv_F → pv_T → Prop} {xs : Nat → Int32} {L i : Nat} {s : pv_F} {T : pv_T} (hL : L ≤ 3072) (hi : i + 6 ≤ L) (hI : I s T) (hop : OP41 I) : ∃ s2 T2, f_law_c41 xs L (nI i) s T = some (.inl (nI i + 6, s2, T2)) ∧ I s2 T2 := by
  obtain ⟨a, h1, h2⟩ := hop (xs (i + 1)) _ _ hI
  refine ⟨s, T, ?_, hI⟩
  simp only [f_law_c41, rds_ok (xs := xs) (L := L) (i := i) (j := 1) (c := 1) (by omega) hL (by decide), Option.bind_some, h1, h2, if_true]
theorem lc42 {I : pv_F → pv_T → Prop} {xs : Nat → Int32} {L i : Nat} {s : pv_F} {T : pv_T} (hL : L ≤ 3072) (hi : i + 6 ≤ L) (hI : I s T) (hop : OP42 I) : ∃ s2 T2, f_law_c42 xs L (nI i) s T = some (.inl (nI i + 6, s2, T2)) ∧ I s2 T2 := by
  obtain ⟨a, h1, h2⟩ := hop  _ _ hI
  refine ⟨s, T, ?_, hI⟩
  simp only [f_law_c42, Option.bind_some, h1, h2, if_true]
theorem lc43 {I : pv_F → pv_T → Prop} {xs : Nat → Int32} {L i : Nat} {s : pv_F} {T : pv_T} (hL : L ≤ 3072) (hi : i + 6 ≤ L) (hI : I s T) (hop : OP43 I) : ∃ s2 T2, f_law_c43 xs L (nI i) s T = some (.inl (nI i + 6, s2, T2)) ∧ I s2 T2 := by
  obtain ⟨a, h1, h2⟩ := hop (xs (i + 1)) _ _ hI
  refine ⟨s, T, ?_, hI⟩
  simp only [f_law_c43, rds_ok (xs := xs) (L := L) (i := i) (j := 1) (c := 1) (by omega) hL (by decide), Option.bind_some, h1, h2, if_true]
theorem lc44 {I : pv_F → pv_T → Prop} {xs : Nat → Int32} {L i : Nat} {s : pv_F} {T : pv_T} (hL : L ≤ 3072) (hi : i + 6 ≤ L) (hI : I s T) (hop : OP44 I) : ∃ s2 T2, f_law_c44 xs L (nI i) s T = some (.inl (nI i + 6, s2, T2)) ∧ I s2 T2 := by
  obtain ⟨a, T2, h1, h2, h3⟩ := hop  _ _ hI
  refine ⟨s, T2, ?_, h3⟩
  simp only [f_law_c44, Option.bind_some, h1, h2, lg_cmp, if_true]
  simp
theorem law_step {I : pv_F → pv_T → Prop} (hops : OPS I) {xs : Nat → Int32} {L i : Nat} {s : pv_F} {T : pv_T} (hL : L ≤ 3072) (hi : i + 6 ≤ L) (hI : I s T) : ∃ s2 T2, f_law_b1 xs L (nI i, s, T) = some (.inl (nI (i + 6), s2, T2)) ∧ I s2 T2 := by
  obtain ⟨h0, h1, h2, h3, h4, h5, h6, h7, h8, h9, h10, h11, h12, h13, h14, h15, h16, h17, h18, h19, h20, h21, h22, h23, h24, h25, h26, h27, h28, h29, h30, h31, h32, h33, h34, h35, h36, h37, h38, h39, h40, h41, h42, h43, h44⟩ := hops
  have e6 : nI (i + 6) = nI i + 6 := by
    rw [← nI_ad_]
    rfl
  have hx : ¬ (Int32.ofNat L - (6:Int32)) < nI i := by
    have e : Int32.ofNat L - (6:Int32) = nI (L - 6) := by
      have : nI (L - 6) + 6 = nI L := by
        rw [show (6:Int32) = nI 6 from by decide, nI_ad_, show L - 6 + 6 = L by omega]
      show nI L - 6 = nI (L - 6)
      rw [← this]
      exact Int32.add_sub_cancel _ _
    rw [e]
    exact nI_nlt (by omega) (by omega)
  unfold f_law_b1
  dsimp only
  rw [if_neg hx, rds_ok0 (by omega) hL, Option.bind_some, e6]
  by_cases c0 : (xs i &&& (63:Int32)) = (0:Int32)
  · rw [if_pos c0]; exact lc0 hL hi hI h0
  rw [if_neg c0]
  by_cases c1 : (xs i &&& (63:Int32)) = (1:Int32)
  · rw [if_pos c1]; exact lc1 hL hi hI h1
  rw [if_neg c1]
  by_cases c2 : (xs i &&& (63:Int32)) = (2:Int32)
  · rw [if_pos c2]; exact lc2 hL hi hI h2
  rw [if_neg c2]
  by_cases c3 : (xs i &&& (63:Int32)) = (3:Int32)
  · rw [if_pos c3]; exact lc3 hL hi hI h3
  rw [if_neg c3]
  by_cases c4 : (xs i &&& (63:Int32)) = (4:Int32)
  · rw [if_pos c4]; exact lc4 hL hi hI h4
  rw [if_neg c4]
  by_cases c5 : (xs i &&& (63:Int32)) = (5:Int32)
  · rw [if_pos c5]; exact lc5 hL hi hI h5
  rw [if_neg c5]
  by_cases c6 : (xs i &&& (63:Int32)) = (6:Int32)
  · rw [if_pos c6]; exact lc6 hL hi hI h6
  rw [if_neg c6]
  by_cases c7 : (xs i &&& (63:Int32)) = (7:Int32)
  · rw [if_pos c7]; exact lc7 hL hi hI h7
  rw [if_neg c7]
  by_cases c8 : (xs i &&& (63:Int32)) = (8:Int32)
  · rw [if_pos c8]; exact lc8 hL hi hI h8
  rw [if_neg c8]
  by_cases c9 : (xs i &&& (63:Int32)) = (9:Int32)
  · rw [if_pos c9]; exact lc9 hL hi hI h9
  rw [if_neg c9]
  by_cases c10 : (xs i &&& (63:Int32)) = (10:Int32)
  · rw [if_pos c10]; exact lc10 hL hi hI h10
  rw [if_neg c10]
  by_cases c11 : (xs i &&& (63:Int32)) = (11:Int32)
  · rw [if_pos c11]; exact lc11 hL hi hI h11
  rw [if_neg c11]
  by_cases c12 : (xs i &&& (63:Int32)) = (12:Int32)
  · rw [if_pos c12]; exact lc12 hL hi hI h12
  rw [if_neg c12]
  by_cases c13 : (xs i &&& (63:Int32)) = (13:Int32)
  · rw [if_pos c13]; exact lc13 hL hi hI h13
  rw [if_neg c13]
  by_cases c14 : (xs i &&& (63:Int32)) = (14:Int32)
  · rw [if_pos c14]; exact lc14 hL hi hI h14
  rw [if_neg c14]
  by_cases c15 : (xs i &&& (63:Int32)) = (15:Int32)
  · rw [if_pos c15]; exact lc15 hL hi hI h15
  rw [if_neg c15]
  by_cases c16 : (xs i &&& (63:Int32)) = (16:Int32)
  · rw [if_pos c16]; exact lc16 hL hi hI h16
  rw [if_neg c16]
  by_cases c17 : (xs i &&& (63:Int32)) = (17:Int32)
  · rw [if_pos c17]; exact lc17 hL hi hI h17
  rw [if_neg c17]
  by_cases c18 : (xs i &&& (63:Int32)) = (18:Int32)
  · rw [if_pos c18]; exact lc18 hL hi hI h18
  rw [if_neg c18]
  by_cases c19 : (xs i &&& (63:Int32)) = (19:Int32)
  · rw [if_pos c19]; exact lc19 hL hi hI h19
  rw [if_neg c19]
  by_cases c20 : (xs i &&& (63:Int32)) = (20:Int32)
  · rw [if_pos c20]; exact lc20 hL hi hI h20
  rw [if_neg c20]
  by_cases c21 : (xs i &&& (63:Int32)) = (21:Int32)
  · rw [if_pos c21]; exact lc21 hL hi hI h21
  rw [if_neg c21]
  by_cases c22 : (xs i &&& (63:Int32)) = (22:Int32)
  · rw [if_pos c22]; exact lc22 hL hi hI h22
  rw [if_neg c22]
  by_cases c23 : (xs i &&& (63:Int32)) = (23:Int32)
  · rw [if_pos c23]; exact lc23 hL hi hI h23
  rw [if_neg c23]
  by_cases c24 : (xs i &&& (63:Int32)) = (24:Int32)
  · rw [if_pos c24]; exact lc24 hL hi hI h24
  rw [if_neg c24]
  by_cases c25 : (xs i &&& (63:Int32)) = (25:Int32)
  · rw [if_pos c25]; exact lc25 hL hi hI h25
  rw [if_neg c25]
  by_cases c26 : (xs i &&& (63:Int32)) = (26:Int32)
  · rw [if_pos c26]; exact lc26 hL hi hI h26
  rw [if_neg c26]
  by_cases c27 : (xs i &&& (63:Int32)) = (27:Int32)
  · rw [if_pos c27]; exact lc27 hL hi hI h27
  rw [if_neg c27]
  by_cases c28 : (xs i &&& (63:Int32)) = (28:Int32)
  · rw [if_pos c28]; exact lc28 hL hi hI h28
  rw [if_neg c28]
  by_cases c29 : (xs i &&& (63:Int32)) = (29:Int32)
  · rw [if_pos c29]; exact lc29 hL hi hI h29
  rw [if_neg c29]
  by_cases c30 : (xs i &&& (63:Int32)) = (30:Int32)
  · rw [if_pos c30]; exact lc30 hL hi hI h30
  rw [if_neg c30]
  by_cases c31 : (xs i &&& (63:Int32)) = (31:Int32)
  · rw [if_pos c31]; exact lc31 hL hi hI h31
  rw [if_neg c31]
  by_cases c32 : (xs i &&& (63:Int32)) = (32:Int32)
  · rw [if_pos c32]; exact lc32 hL hi hI h32
  rw [if_neg c32]
  by_cases c33 : (xs i &&& (63:Int32)) = (33:Int32)
  · rw [if_pos c33]; exact lc33 hL hi hI h33
  rw [if_neg c33]
  by_cases c34 : (xs i &&& (63:Int32)) = (34:Int32)
  · rw [if_pos c34]; exact lc34 hL hi hI h34
  rw [if_neg c34]
  by_cases c35 : (xs i &&& (63:Int32)) = (35:Int32)
  · rw [if_pos c35]; exact lc35 hL hi hI h35
  rw [if_neg c35]
  by_cases c36 : (xs i &&& (63:Int32)) = (36:Int32)
  · rw [if_pos c36]; exact lc36 hL hi hI h36
  rw [if_neg c36]
  by_cases c37 : (xs i &&& (63:Int32)) = (37:Int32)
  · rw [if_pos c37]; exact lc37 hL hi hI h37
  rw [if_neg c37]
  by_cases c38 : (xs i &&& (63:Int32)) = (38:Int32)
  · rw [if_pos c38]; exact lc38 hL hi hI h38
  rw [if_neg c38]
  by_cases c39 : (xs i &&& (63:Int32)) = (39:Int32)
  · rw [if_pos c39]; exact lc39 hL hi hI h39
  rw [if_neg c39]
  by_cases c40 : (xs i &&& (63:Int32)) = (40:Int32)
  · rw [if_pos c40]; exact lc40 hL hi hI h40
  rw [if_neg c40]
  by_cases c41 : (xs i &&& (63:Int32)) = (41:Int32)
  · rw [if_pos c41]; exact lc41 hL hi hI h41
  rw [if_neg c41]
  by_cases c42 : (xs i &&& (63:Int32)) = (42:Int32)
  · rw [if_pos c42]; exact lc42 hL hi hI h42
  rw [if_neg c42]
  by_cases c43 : (xs i &&& (63:Int32)) = (43:Int32)
  · rw [if_pos c43]; exact lc43 hL hi hI h43
  rw [if_neg c43]
  by_cases c44 : (xs i &&& (63:Int32)) = (44:Int32)
  · rw [if_pos c44]; exact lc44 hL hi hI h44
  rw [if_neg c44]
  exact ⟨s, T, rfl, hI⟩
theorem law_exit {xs : Nat → Int32} {L i : Nat} {s : pv_F} {T : pv_T} (hL : L ≤ 3072) (hi : L < i + 6) (hi2 : i ≤ L) : f_law_b1 xs L (nI i, s, T) = some (.inr (.inl (nI i, s, T))) := by
  have hx : (Int32.ofNat L - (6:Int32)) < nI i := by
    have hl : (Int32.ofNat L).toInt = (L : Int) := nI_toInt (n := L) (by omega)
    have h6 : (6:Int32).toInt = 6 := by decide
    rw [Int32.lt_iff_toInt_lt, nI_toInt (n := i) (by omega), Int32.toInt_sub, hl, h6]
    rw [Int.bmod_eq_of_le (by omega) (by omega)]
    omega
  unfold f_law_b1
  dsimp only
  rw [if_pos hx]
theorem law_loop {I : pv_F → pv_T → Prop} (hops : OPS I) {xs : Nat → Int32} {L : Nat} (hL : L ≤ 3072) : ∀ (n i : Nat) (s : pv_F) (T : pv_T), I s T → i ≤ L → L < i + n → ∃ (w : Int32) (s2 : pv_F) (T2 : pv_T), pv_lp (f_law_b1 xs L) n (nI i, s, T) = some (.inl (w, s2, T2)) := by
  intro n
  induction n with
  | zero => intro i s T hI hi hn; omega
  | succ n ih =>
    intro i s T hI hi hn
    by_cases h6 : i + 6 ≤ L
    · obtain ⟨s2, T2, h1, h2⟩ := law_step hops (xs := xs) hL h6 hI
      obtain ⟨w, s3, T3, h3⟩ := ih (i + 6) s2 T2 h2 h6 (by omega)
      refine ⟨w, s3, T3, ?_⟩
      unfold pv_lp
      rw [h1]
      exact h3
    · refine ⟨nI i, s, T, ?_⟩
      unfold pv_lp
      rw [law_exit hL (by omega) hi]
theorem law_pure {I : pv_F → pv_T → Prop} (hops : OPS I) (h0 : I ct_s0 ct_T0) (xs : Nat → Int32) (L : Nat) (hL : L ≤ 3072) : pv_Pure xs L := by
  obtain ⟨w, s2, T2, h⟩ := law_loop hops (xs := xs) hL 20000 0 ct_s0 ct_T0 h0 (Nat.zero_le _) (by omega)
  have hf : f_law xs L ct_s0 ct_T0 = some ((1:Int32), s2, T2) := by
    unfold f_law
    rw [show (0:Int32) = nI 0 from by decide, h]
    rfl
  obtain ⟨f, hr⟩ := ct_law (ee_law (xs := xs) (L := L) 24 hf)
  exact ⟨f, _, hr⟩
