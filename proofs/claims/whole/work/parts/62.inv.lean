/-! loops by an invariant -/
theorem lq_inv {S : Type} {B : S → Option (S ⊕ S)} (P : Nat → S → Prop) (Q : S → Prop) (n : Nat) (hs : ∀ i st, i < n → P i st → ∃ st', B st = some (.inl st') ∧ P (i + 1) st') (he : ∀ st, P n st → ∃ e, B st = some (.inr e) ∧ Q e) (st : S) (h0 : P 0 st) (hn : n < 20000 := by omega) : ∃ e, pv_lq B 20000 st = some e ∧ Q e := by
  have key : ∀ (m f i : Nat) (st : S), i + m = n → m < f → P i st → ∃ e, pv_lq B f st = some e ∧ Q e := by
    intro m
    induction m with
    | zero =>
      intro f i st h1 h2 h3
      obtain ⟨f, rfl⟩ : ∃ g, f = g + 1 := ⟨f - 1, by omega⟩
      obtain rfl : i = n := by omega
      obtain ⟨e, h4, h5⟩ := he st h3
      exact ⟨e, by unfold pv_lq; rw [h4], h5⟩
    | succ m ih =>
      intro f i st h1 h2 h3
      obtain ⟨f, rfl⟩ : ∃ g, f = g + 1 := ⟨f - 1, by omega⟩
      obtain ⟨st', h4, h5⟩ := hs i st (by omega) h3
      obtain ⟨e, h6, h7⟩ := ih f (i + 1) st' (by omega) (by omega) h5
      exact ⟨e, by unfold pv_lq; rw [h4]; exact h6, h7⟩
  exact key n 20000 0 st (by omega) hn h0
/-- a loop that may return: at each turn it goes on, ends, or returns; it cannot go on for ever -/
theorem lp_inv {S R : Type} {B : S → Option (S ⊕ (S ⊕ R))} (P : Nat → S → Prop) (Q : S ⊕ R → Prop) (n : Nat) (hs : ∀ i st, i ≤ n → P i st → (i < n ∧ ∃ st', B st = some (.inl st') ∧ P (i + 1) st') ∨ ∃ o, B st = some (.inr o) ∧ Q o) (st : S) (h0 : P 0 st) (hn : n < 20000 := by omega) : ∃ o, pv_lp B 20000 st = some o ∧ Q o := by
  have key : ∀ (m f i : Nat) (st : S), i + m = n → m < f → P i st → ∃ o, pv_lp B f st = some o ∧ Q o := by
    intro m
    induction m with
    | zero =>
      intro f i st h1 h2 h3
      obtain ⟨f, rfl⟩ : ∃ g, f = g + 1 := ⟨f - 1, by omega⟩
      rcases hs i st (by omega) h3 with ⟨h4, -⟩ | ⟨o, h4, h5⟩
      · omega
      · exact ⟨o, by unfold pv_lp; rw [h4], h5⟩
    | succ m ih =>
      intro f i st h1 h2 h3
      obtain ⟨f, rfl⟩ : ∃ g, f = g + 1 := ⟨f - 1, by omega⟩
      rcases hs i st (by omega) h3 with ⟨-, st', h4, h5⟩ | ⟨o, h4, h5⟩
      · obtain ⟨o, h6, h7⟩ := ih f (i + 1) st' (by omega) (by omega) h5
        exact ⟨o, by unfold pv_lp; rw [h4]; exact h6, h7⟩
      · exact ⟨o, by unfold pv_lp; rw [h4], h5⟩
  exact key n 20000 0 st (by omega) hn h0
/-! reads and writes by numbers -/
theorem up_ne {s : pv_F} {a j c : Nat} {x : Int32} (h : c ≠ a) : pv_up s a j x c = s c := if_neg h
theorem up_eq (s : pv_F) (a j : Nat) (x : Int32) : pv_up s a j x a = upd (s a) j x := if_pos rfl
theorem up_at (s : pv_F) (a j : Nat) (x : Int32) : pv_up s a j x a j = x := by rw [up_eq]; exact if_pos rfl
theorem up_nj {s : pv_F} {a j i : Nat} {x : Int32} (h : i ≠ j) : pv_up s a j x a i = s a i := by rw [up_eq]; exact if_neg h
theorem in_nI {i n : Nat} (h : i < n) (hn : n < 2 ^ 31 := by omega) : pv_in (nI i) n = true := by
  unfold pv_in
  have h1 : ¬ nI i < 0 := nI_pos (by omega)
  have h2 : (nI i).toNatClampNeg = i := nI_clamp (by omega)
  simp [h1, h2, h]
theorem rd_nI {s : pv_F} {a n i : Nat} (h : i < n) (hn : n < 2 ^ 31 := by omega) : pv_rd s a n (nI i) = some (s a i) := by
  unfold pv_rd
  rw [if_pos (in_nI h hn), nI_clamp (by omega)]
theorem wr_nI {s : pv_F} {a n i : Nat} {x : Int32} (h : i < n) (hn : n < 2 ^ 31 := by omega) : pv_wr s a n (nI i) x = some (pv_up s a i x) := by
  unfold pv_wr
  rw [if_pos (in_nI h hn), nI_clamp (by omega)]
theorem wm_nI {T : pv_T} {a n i : Nat} {x : Int32} (h : i < n) (hn : n < 2 ^ 31 := by omega) : pv_wm T a n (nI i) x = some (pv_up T.1 a i x, T.2) := by
  unfold pv_wm
  rw [if_pos (in_nI h hn), nI_clamp (by omega)]
theorem bl_0 : pv_bl 0 = some 0 := pv_bl0
theorem bl_1 : pv_bl 1 = some 1 := pv_bl1
/-! THE INVARIANT: s, the class's ints; T, the model's -/
def RowRel (most : Nat) (th sz : Int32) (pl : Nat → Int32) (szM : Int32) (ct : Nat → Int32) : Prop :=
  (th = 0 ∧ szM = -9) ∨ (th = 1 ∧ ∃ n : Nat, n ≤ most ∧ sz = nI n ∧ szM = nI n ∧ ∀ i, i < n → pl i = ct i)
def IRows (s : pv_F) (T : pv_T) : Prop := ∀ r, r < 6 → RowRel 40 (s (74 + 2 * r) 1) (s (74 + 2 * r) 2) (s (75 + 2 * r)) (T.1 96 r) (fun i => T.1 97 (40 * r + i))
def ITexts (s : pv_F) (T : pv_T) : Prop := ∀ r, r < 4 → RowRel 80 (s (86 + 2 * r) 1) (s (86 + 2 * r) 2) (s (87 + 2 * r)) (T.1 99 r) (fun i => T.1 100 (80 * r + i))
def IMisc (s : pv_F) (T : pv_T) : Prop := (∃ w, w ≤ 2 ∧ s 0 6 = nI w) ∧ (∃ p, p ≤ 99 ∧ s 0 7 = nI p) ∧ T.1 94 9 = s 0 6 ∧ T.1 94 10 = s 0 7 ∧ T.1 94 2 = s 0 8 ∧ T.1 94 0 = s 0 9 ∧ ∀ f, 1 ≤ f → f < 6 → T.1 95 f = s 73 f
/-- a deed: who, whom, the letter (0: a call), the way or the cost -/
abbrev Deed : Type := Nat × Nat × Nat × Nat
/-- names, dues, how often came, by mistake, called; paid -/
abbrev TS : Type := (Nat → List Nat) × (Nat → Nat) × (Nat → Nat) × (Nat → Nat) × (Nat → Nat) × Nat
def vow (l : Nat) : Bool := l == 1 || l == 5 || l == 9 || l == 15 || l == 21
def wearA (way : Nat) (l : List Nat) : List Nat := if way = 1 then l.tail else if way = 2 then (match l.findIdx? vow with
  | some i => l.eraseIdx i
  | none => l.dropLast) else l.dropLast
def canA (K : Nat → Nat) (nm : Nat → List Nat) (b x : Nat) : Bool := decide (b ≠ x) && decide (K b ≠ 3) && decide (K x ≠ 3) && decide (nm x ≠ [])
def comeB (K : Nat → Nat) (n : Nat) (nm : Nat → List Nat) (b x y : Nat) : Bool := decide (y < n) && decide (y ≠ b) && decide (K y ≠ 3) && (if K b = 5 then decide (nm y ≠ []) && decide ((nm y).head? = (nm x).head?) else decide (nm y = nm x))
def comeOne (K : Nat → Nat) (way y : Nat) (l : List Nat) (d : Nat) : List Nat × Nat := if K y = 4 ∧ d = 0 then (l, 1) else (wearA way l, 0)
def mom (k : Nat) : Bool := k == 1 || k == 5
def callA (K : Nat → Nat) (n b x way : Nat) (A : TS) : TS :=
  (fun y => if comeB K n A.1 b x y && !(mom (K b)) then (comeOne K way y (A.1 y) (A.2.1 y)).1 else A.1 y,
   fun y => if comeB K n A.1 b x y && !(mom (K b)) then (comeOne K way y (A.1 y) (A.2.1 y)).2 else A.2.1 y,
   fun y => if comeB K n A.1 b x y then A.2.2.1 y + 1 else A.2.2.1 y,
   fun y => if comeB K n A.1 b x y && decide (y ≠ x) then A.2.2.2.1 y + 1 else A.2.2.2.1 y,
   fun y => if y = b then A.2.2.2.2.1 y + 1 else A.2.2.2.2.1 y,
   A.2.2.2.2.2)
def mendA (x l c : Nat) (A : TS) : TS := (fun y => if y = x then A.1 y ++ [l] else A.1 y, A.2.1, A.2.2.1, A.2.2.2.1, A.2.2.2.2.1, A.2.2.2.2.2 + c)
def stepA (K : Nat → Nat) (n : Nat) (A : TS) (d : Deed) : TS := if d.2.2.1 = 0 then callA K n d.1 d.2.1 d.2.2.2 A else mendA d.2.1 d.2.2.1 d.2.2.2 A
def runA (K : Nat → Nat) (n : Nat) (A : TS) (ds : List Deed) : TS := ds.foldl (stepA K n) A
def pack (l : List Nat) : Nat := l.getD 0 0 * 33554432 + l.getD 1 0 * 1048576 + l.getD 2 0 * 32768 + l.getD 3 0 * 1024 + l.getD 4 0 * 32 + l.getD 5 0
def okN (l : List Nat) : Prop := l.length ≤ 6 ∧ ∀ a ∈ l, 1 ≤ a ∧ a ≤ 26
def CRep (s : pv_F) (n : Nat) (A : TS) : Prop := (∀ x, x < n → s 10 x = nI (pack (A.1 x)) ∧ s 11 x = nI (A.2.1 x) ∧ s 12 x = nI (A.2.2.1 x) ∧ s 13 x = nI (A.2.2.2.1 x) ∧ s 14 x = nI (A.2.2.2.2.1 x)) ∧ s 3 7 = nI A.2.2.2.2.2
def MRep (t : Nat → Int32) (o n : Nat) (A : TS) : Prop := (∀ x, x < n → (∀ i, i < (A.1 x).length → t (o + (6 * x + i)) = nI (96 + (A.1 x).getD i 0)) ∧ t (o + (42 + x)) = nI (A.1 x).length ∧ t (o + (49 + x)) = nI (A.2.1 x) ∧ t (o + (56 + x)) = nI (A.2.2.1 x) ∧ t (o + (63 + x)) = nI (A.2.2.2.1 x) ∧ t (o + (70 + x)) = nI (A.2.2.2.2.1 x)) ∧ t (o + 77) = nI A.2.2.2.2.2
def okD (K : Nat → Nat) (n : Nat) (A : TS) (d : Deed) : Prop := d.1 < n ∧ d.2.1 < n ∧ (if d.2.2.1 = 0 then canA K A.1 d.1 d.2.1 = true ∧ d.2.2.2 ≤ 2 else K d.2.1 ≠ 3 ∧ (A.1 d.2.1).length < 6 ∧ d.2.2.1 ≤ 26 ∧ d.2.2.2 ≤ 99)
def okDs (K : Nat → Nat) (n : Nat) (A : TS) (ds : List Deed) : Prop := ds.length ≤ 60 ∧ ∀ j d, ds[j]? = some d → okD K n (runA K n A (ds.take j)) d
def CDeeds (s : pv_F) (c : Nat) (ds : List Deed) : Prop := s c 4 = nI ds.length ∧ ∀ j d, ds[j]? = some d → s (c + 1) j = nI d.1 ∧ s (c + 2) j = nI d.2.1 ∧ s (c + 3) j = nI d.2.2.1 ∧ s (c + 4) j = nI d.2.2.2
def A_0 (nm : Nat → List Nat) : TS := (nm, fun _ => 0, fun _ => 0, fun _ => 0, fun _ => 0, 0)
/-- the town, by its people, first names, deeds; kept towns by their deeds -/
def Town (s : pv_F) (T : pv_T) (n : Nat) (K : Nat → Nat) (nm : Nat → List Nat) (ds : List Deed) (kd : Nat → Option (List Deed)) : Prop :=
  (n ≤ 7 ∧ (∀ x, x < n → K x ≤ 5 ∧ okN (nm x) ∧ s 5 x = nI (K x) ∧ s 9 x = nI (K x) ∧ T.1 101 x = nI (K x) ∧ s 6 x = nI (pack (nm x)) ∧ s 7 x = 0) ∧ s 4 3 = nI n ∧ s 8 3 = nI n ∧ T.1 94 8 = nI n) ∧
  (okDs K n (A_0 nm) ds ∧ CDeeds s 15 ds ∧ CRep s n (runA K n (A_0 nm) ds) ∧ T.1 94 18 = nI ds.length ∧ MRep (T.1 105) 0 n (runA K n (A_0 nm) ds) ∧ ∀ j, j < ds.length → MRep (T.1 106) (78 * j) n (runA K n (A_0 nm) (ds.take j))) ∧
  ∀ k, k < 3 → (kd k = none ∧ s (21 + 5 * k) 5 = 0 ∧ T.1 107 k = -9) ∨ (∃ d, kd k = some d ∧ okDs K n (A_0 nm) d ∧ s (21 + 5 * k) 5 = 1 ∧ CDeeds s (21 + 5 * k) d ∧ T.1 107 k = nI d.length ∧ MRep (T.1 108) (78 * k) n (runA K n (A_0 nm) d) ∧ ∀ j, j < d.length → MRep (T.1 109) (4680 * k + 78 * j) n (runA K n (A_0 nm) (d.take j)))
def ITown (s : pv_F) (T : pv_T) : Prop := ∃ (n : Nat) (K : Nat → Nat) (nm : Nat → List Nat) (ds : List Deed) (kd : Nat → Option (List Deed)), Town s T n K nm ds kd
def Inv (s : pv_F) (T : pv_T) : Prop := IMisc s T ∧ IRows s T ∧ ITexts s T ∧ ITown s T
/-! the invariant's parts stay where their ints stay -/
theorem Town.frame {s s' : pv_F} {T T' : pv_T} {n : Nat} {K : Nat → Nat} {nm : Nat → List Nat} {ds : List Deed} {kd : Nat → Option (List Deed)} (h : Town s T n K nm ds kd) (hs : ∀ a, 3 ≤ a → a ≤ 35 → s' a = s a) (hT : ∀ a, a = 101 ∨ (105 ≤ a ∧ a ≤ 109) → T'.1 a = T.1 a) (h8 : T'.1 94 8 = T.1 94 8) (h18 : T'.1 94 18 = T.1 94 18) : Town s' T' n K nm ds kd := by
  obtain ⟨⟨a1, a2, a3, a4, a5⟩, ⟨b1, b2, b3, b4, b5, b6⟩, c⟩ := h
  have t101 := hT 101 (by omega)
  have t105 := hT 105 (by omega)
  have t106 := hT 106 (by omega)
  have t107 := hT 107 (by omega)
  have t108 := hT 108 (by omega)
  have t109 := hT 109 (by omega)
  refine ⟨⟨a1, fun x hx => ?_, ?_, ?_, ?_⟩, ⟨b1, ?_, ?_, ?_, ?_, fun j hj => ?_⟩, fun k hk => ?_⟩
  · rw [hs 5 (by omega) (by omega), hs 9 (by omega) (by omega), hs 6 (by omega) (by omega), hs 7 (by omega) (by omega), t101]
    exact a2 x hx
  · rw [hs 4 (by omega) (by omega)]; exact a3
  · rw [hs 8 (by omega) (by omega)]; exact a4
  · rw [h8]; exact a5
  · unfold CDeeds
    rw [hs 15 (by omega) (by omega), hs (15 + 1) (by omega) (by omega), hs (15 + 2) (by omega) (by omega), hs (15 + 3) (by omega) (by omega), hs (15 + 4) (by omega) (by omega)]
    exact b2
  · unfold CRep
    rw [hs 10 (by omega) (by omega), hs 11 (by omega) (by omega), hs 12 (by omega) (by omega), hs 13 (by omega) (by omega), hs 14 (by omega) (by omega), hs 3 (by omega) (by omega)]
    exact b3
  · rw [h18]; exact b4
  · rw [t105]; exact b5
  · rw [t106]; exact b6 j hj
  · rw [hs (21 + 5 * k) (by omega) (by omega), t107, t108]
    rcases c k hk with q | ⟨d, d1, d2, d3, d4, d5, d6, d7⟩
    · exact Or.inl q
    · refine Or.inr ⟨d, d1, d2, d3, ?_, d5, d6, fun j hj => ?_⟩
      · unfold CDeeds
        rw [hs (21 + 5 * k) (by omega) (by omega), hs (21 + 5 * k + 1) (by omega) (by omega), hs (21 + 5 * k + 2) (by omega) (by omega), hs (21 + 5 * k + 3) (by omega) (by omega), hs (21 + 5 * k + 4) (by omega) (by omega)]
        exact d4
      · rw [t109]; exact d7 j hj
theorem ITown.frame {s s' : pv_F} {T T' : pv_T} (h : ITown s T) (hs : ∀ a, 3 ≤ a → a ≤ 35 → s' a = s a) (hT : ∀ a, a = 101 ∨ (105 ≤ a ∧ a ≤ 109) → T'.1 a = T.1 a) (h8 : T'.1 94 8 = T.1 94 8) (h18 : T'.1 94 18 = T.1 94 18) : ITown s' T' := by
  obtain ⟨n, K, nm, ds, kd, h⟩ := h
  exact ⟨n, K, nm, ds, kd, h.frame hs hT h8 h18⟩
theorem IRows.frame {s s' : pv_F} {T T' : pv_T} (h : IRows s T) (hs : ∀ a, 74 ≤ a → a ≤ 85 → s' a = s a) (h1 : T'.1 96 = T.1 96) (h2 : T'.1 97 = T.1 97) : IRows s' T' := by
  intro r hr
  have := h r hr
  rw [hs (74 + 2 * r) (by omega) (by omega), hs (75 + 2 * r) (by omega) (by omega), h1, h2]
  exact this
theorem ITexts.frame {s s' : pv_F} {T T' : pv_T} (h : ITexts s T) (hs : ∀ a, 86 ≤ a → a ≤ 93 → s' a = s a) (h1 : T'.1 99 = T.1 99) (h2 : T'.1 100 = T.1 100) : ITexts s' T' := by
  intro r hr
  have := h r hr
  rw [hs (86 + 2 * r) (by omega) (by omega), hs (87 + 2 * r) (by omega) (by omega), h1, h2]
  exact this
/-- it holds at the start -/
theorem Inv_start : Inv ct_s0 ct_T0 := by
  refine ⟨⟨⟨0, by omega, rfl⟩, ⟨3, by omega, by decide +kernel⟩, rfl, rfl, rfl, rfl, fun f h1 h2 => ?_⟩, fun r hr => ?_, fun r hr => ?_, 0, fun _ => 0, fun _ => [], [], fun _ => none, ⟨Nat.zero_le _, fun x hx => absurd hx (Nat.not_lt_zero x), rfl, rfl, rfl⟩, ⟨⟨Nat.zero_le _, fun j d h => by simp at h⟩, ⟨rfl, fun j d h => by simp at h⟩, ⟨fun x hx => absurd hx (Nat.not_lt_zero x), rfl⟩, rfl, ⟨fun x hx => absurd hx (Nat.not_lt_zero x), rfl⟩, fun j hj => absurd hj (Nat.not_lt_zero j)⟩, fun k hk => Or.inl ⟨rfl, ?_, ?_⟩⟩
  · rfl
  · match r, hr with
    | 0, _ => exact Or.inl ⟨rfl, rfl⟩
    | 1, _ => exact Or.inl ⟨rfl, rfl⟩
    | 2, _ => exact Or.inl ⟨rfl, rfl⟩
    | 3, _ => exact Or.inl ⟨rfl, rfl⟩
    | 4, _ => exact Or.inl ⟨rfl, rfl⟩
    | 5, _ => exact Or.inl ⟨rfl, rfl⟩
  · match r, hr with
    | 0, _ => exact Or.inl ⟨rfl, rfl⟩
    | 1, _ => exact Or.inl ⟨rfl, rfl⟩
    | 2, _ => exact Or.inl ⟨rfl, rfl⟩
    | 3, _ => exact Or.inl ⟨rfl, rfl⟩
  · match k, hk with
    | 0, _ => rfl
    | 1, _ => rfl
    | 2, _ => rfl
  · match k, hk with
    | 0, _ => rfl
    | 1, _ => rfl
    | 2, _ => rfl
