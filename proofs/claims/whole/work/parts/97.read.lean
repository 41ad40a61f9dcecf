/-! READING a text: steps of the class's reader -/
theorem iteS {α : Type} (c : Prop) [Decidable c] (a b : α) : ((if c then some a else some b) : Option α) = some (if c then a else b) := by
  by_cases h : c
  · rw [if_pos h, if_pos h]
  · rw [if_neg h, if_neg h]
def wantC (w : Int32) (S : pv_F) : Option Int32 := if w = 0 then some (0:Int32) else (pv_rd S (36 + 2) 7 ((S 36 3) - (1:Int32))).bind fun q39 => if q39 = 0 then some (1:Int32) else some (0:Int32)
theorem rd_step {S : pv_F} {r n p : Nat} {w t ch : Int32} (hr : r < 4) (hn : n ≤ 80) (hz : S (86 + 2 * r) 2 = nI n) (hp : p < n) (hch : S (87 + 2 * r) p = ch) (hw : wantC w S = some t) : f6_read_b1 36 (86 + 2 * r) (w, nI p, S) = ((f216_isLetter ch).bind fun q8 => if q8 = 0 then (if t = 0 then (if ch = (32:Int32) then some (.inl ((0:Int32), nI (p + 1), S)) else (f7_add 36 (ch - (49:Int32)) S).bind fun x => if x.1 = 0 then some (.inr (.inr (nI p, x.2))) else some (.inl ((1:Int32), nI (p + 1), x.2))) else some (.inr (.inr (nI p, S)))) else (if w = 0 then some (.inr (.inr (nI p, S))) else (pv_rd S (36 + 2) 7 ((S 36 3) - (1:Int32))).bind fun q25 => (f218_size q25).bind fun q28 => if q28 = (6:Int32) then some (.inr (.inr (nI p, S))) else (pv_rd S (36 + 2) 7 ((S 36 3) - (1:Int32))).bind fun q30 => (f221_with q30 (ch - (96:Int32))).bind fun q33 => (pv_wr S (36 + 2) 7 ((S 36 3) - (1:Int32)) q33).bind fun s34 => some (.inl (w, nI (p + 1), s34)))) := by
  unfold f6_read_b1
  simp only
  rw [hz, if_neg (nI_ge hp (by omega)), an_t hr, rd_nI (by omega), show 86 + 2 * r + 1 = 87 + 2 * r by omega, hch, nI_1]
  simp only [bs]
  have hw' : ((if w = 0 then some (0:Int32) else (pv_rd S (36 + 2) 7 ((S 36 3) - (1:Int32))).bind fun q39 => if q39 = 0 then some (1:Int32) else some (0:Int32)) : Option Int32) = some t := hw
  rw [hw']
  simp only [bs]
  rw [(letC_ok ch).1]
  simp only [bs]
  by_cases hl : 97 ≤ ch ∧ ch ≤ 122
  · rw [if_pos hl, if_neg (show ¬ (1:Int32) = 0 by decide), if_neg (show ¬ (1:Int32) = 0 by decide)]
  · rw [if_neg hl, if_pos rfl, if_pos rfl]
    by_cases ht : t = 0
    · rw [if_pos ht, if_pos ht]
      by_cases h32 : ch = 32
      · rw [if_pos h32, if_pos h32, if_pos h32]
        rfl
      · rw [if_neg h32, if_neg h32, if_neg h32]
        rfl
    · rw [if_neg ht, if_neg ht]
theorem rd_end {S : pv_F} {r n : Nat} {w : Int32} (hz : S (86 + 2 * r) 2 = nI n) (hn : n ≤ 80) : f6_read_b1 36 (86 + 2 * r) (w, nI n, S) = some (.inr (.inl (w, nI n, S))) := by
  unfold f6_read_b1
  simp only
  rw [hz, if_pos (nI_le (by omega) (by omega))]
theorem notLet {ch : Int32} (h : ¬ (97 ≤ ch ∧ ch ≤ 122)) : f216_isLetter ch = some 0 ∧ f134_isLetter ch = some 0 := by
  rw [(letC_ok ch).1, (letC_ok ch).2, if_neg h]
  exact ⟨rfl, rfl⟩
theorem isLet {ch : Int32} (h : 97 ≤ ch ∧ ch ≤ 122) : f216_isLetter ch = some 1 ∧ f134_isLetter ch = some 1 := by
  rw [(letC_ok ch).1, (letC_ok ch).2, if_pos h]
  exact ⟨rfl, rfl⟩
/-- a blank -/
theorem rd_blank {S : pv_F} {r n p : Nat} {w : Int32} (hr : r < 4) (hn : n ≤ 80) (hz : S (86 + 2 * r) 2 = nI n) (hp : p < n) (hch : S (87 + 2 * r) p = 32) (hw : wantC w S = some 0) : f6_read_b1 36 (86 + 2 * r) (w, nI p, S) = some (.inl (0, nI (p + 1), S)) := by
  rw [rd_step hr hn hz hp hch hw, (notLet (by decide)).1]
  simp only [bs]
  rw [if_pos True.intro, if_pos True.intro, if_pos True.intro]
/-- letters are wanted, none is there -/
theorem rd_want {S : pv_F} {r n p : Nat} {w ch : Int32} (hr : r < 4) (hn : n ≤ 80) (hz : S (86 + 2 * r) 2 = nI n) (hp : p < n) (hch : S (87 + 2 * r) p = ch) (hl : ¬ (97 ≤ ch ∧ ch ≤ 122)) (hw : wantC w S = some 1) : f6_read_b1 36 (86 + 2 * r) (w, nI p, S) = some (.inr (.inr (nI p, S))) := by
  rw [rd_step hr hn hz hp hch hw, (notLet hl).1]
  simp only [bs]
  rw [if_pos True.intro, if_neg (show ¬ (1:Int32) = 0 by decide)]
/-- a letter, nobody's -/
theorem rd_out {S : pv_F} {r n p : Nat} {ch : Int32} (hr : r < 4) (hn : n ≤ 80) (hz : S (86 + 2 * r) 2 = nI n) (hp : p < n) (hch : S (87 + 2 * r) p = ch) (hl : 97 ≤ ch ∧ ch ≤ 122) : f6_read_b1 36 (86 + 2 * r) (0, nI p, S) = some (.inr (.inr (nI p, S))) := by
  rw [rd_step (t := 0) hr hn hz hp hch (by unfold wantC; rw [if_pos rfl]), (isLet hl).1]
  simp only [bs]
  rw [if_neg (show ¬ (1:Int32) = 0 by decide), if_pos True.intro]
/-- a sign that is none, or one too many -/
theorem rd_bad {S : pv_F} {r n p : Nat} {w ch : Int32} (hr : r < 4) (hn : n ≤ 80) (hz : S (86 + 2 * r) 2 = nI n) (hp : p < n) (hch : S (87 + 2 * r) p = ch) (hl : ¬ (97 ≤ ch ∧ ch ≤ 122)) (h32 : ¬ ch = 32) (hw : wantC w S = some 0) (ha : f7_add 36 (ch - (49:Int32)) S = some (0, S)) : f6_read_b1 36 (86 + 2 * r) (w, nI p, S) = some (.inr (.inr (nI p, S))) := by
  rw [rd_step hr hn hz hp hch hw, (notLet hl).1]
  simp only [bs]
  rw [if_pos True.intro, if_pos True.intro, if_neg h32, ha]
  simp only [bs]
  rw [if_pos True.intro]
theorem rd_sign {S S1 : pv_F} {r n p : Nat} {w ch : Int32} (hr : r < 4) (hn : n ≤ 80) (hz : S (86 + 2 * r) 2 = nI n) (hp : p < n) (hch : S (87 + 2 * r) p = ch) (hl : ¬ (97 ≤ ch ∧ ch ≤ 122)) (h32 : ¬ ch = 32) (hw : wantC w S = some 0) (ha : f7_add 36 (ch - (49:Int32)) S = some (1, S1)) : f6_read_b1 36 (86 + 2 * r) (w, nI p, S) = some (.inl (1, nI (p + 1), S1)) := by
  rw [rd_step hr hn hz hp hch hw, (notLet hl).1]
  simp only [bs]
  rw [if_pos True.intro, if_pos True.intro, if_neg h32, ha]
  simp only [bs]
  rw [if_neg (show ¬ (1:Int32) = 0 by decide)]
/-- the people read, the last one's name apart -/
def nmS (nm : Nat → List Nat) (q : Nat) (l : List Nat) : Nat → List Nat := fun x => if x = q then l else nm x
theorem want_l {S : pv_F} {q : Nat} {K : Nat → Nat} {nm : Nat → List Nat} (hq : q < 7) (hC : FC S 36 (q + 1) K nm (fun _ => 0)) (hok : okN (nm q)) : wantC 1 S = some (if nm q = [] then 1 else 0) := by
  unfold wantC
  rw [if_neg (show ¬ (1:Int32) = 0 by decide), hC.1, nI_pred, rd_nI (by omega), (hC.2 q (by omega)).2.1]
  simp only [bs]
  by_cases e : nm q = []
  · rw [if_pos e, if_pos ((pack_0 hok).mpr e)]
  · rw [if_neg e, if_neg (fun q => e ((pack_0 hok).mp q))]
theorem rd_full {S : pv_F} {r n p q : Nat} {ch : Int32} {K : Nat → Nat} {nm : Nat → List Nat} (hr : r < 4) (hn : n ≤ 80) (hz : S (86 + 2 * r) 2 = nI n) (hp : p < n) (hch : S (87 + 2 * r) p = ch) (hl : 97 ≤ ch ∧ ch ≤ 122) (hq : q < 7) (hC : FC S 36 (q + 1) K nm (fun _ => 0)) (hok : okN (nm q)) (h6 : (nm q).length = 6) : f6_read_b1 36 (86 + 2 * r) (1, nI p, S) = some (.inr (.inr (nI p, S))) := by
  rw [rd_step hr hn hz hp hch (want_l hq hC hok), (isLet hl).1]
  simp only [bs]
  rw [if_neg (show ¬ (1:Int32) = 0 by decide), hC.1, nI_pred, rd_nI (by omega), (hC.2 q (by omega)).2.1]
  simp only [bs]
  rw [size_ok hok, h6]
  simp only [bs]
  rw [if_neg (show ¬ (1:Int32) = 0 by decide), if_pos (show nI 6 = (6:Int32) by decide)]
theorem FC_nmS {S : pv_F} {q : Nat} {K : Nat → Nat} {nm : Nat → List Nat} {l l' : List Nat} {du : Nat → Nat} (hC : FC S 36 (q + 1) K (nmS nm q l) du) : FC (pv_up S (36 + 2) q (nI (pack l'))) 36 (q + 1) K (nmS nm q l') du := by
  refine ⟨by rw [up_ne (by decide)]; exact hC.1, fun x hx => ⟨by rw [up_ne (by decide)]; exact (hC.2 x hx).1, ?_, by rw [up_ne (by decide)]; exact (hC.2 x hx).2.2⟩⟩
  have := (hC.2 x hx).2.1
  unfold nmS at this ⊢
  by_cases e : x = q
  · subst e; rw [up_at, if_pos rfl]
  · rw [up_nj e, if_neg e]
    rw [if_neg e] at this
    exact this
theorem rd_letter {S : pv_F} {r n p q a : Nat} {K : Nat → Nat} {nm : Nat → List Nat} {l : List Nat} (hr : r < 4) (hn : n ≤ 80) (hz : S (86 + 2 * r) 2 = nI n) (hp : p < n) (hch : S (87 + 2 * r) p = nI (96 + a)) (ha1 : 1 ≤ a) (ha : a ≤ 26) (hq : q < 7) (hC : FC S 36 (q + 1) K (nmS nm q l) (fun _ => 0)) (hok : okN l) (h6 : l.length < 6) : f6_read_b1 36 (86 + 2 * r) (1, nI p, S) = some (.inl (1, nI (p + 1), pv_up S (36 + 2) q (nI (pack (l ++ [a]))))) := by
  have hl : (97:Int32) ≤ nI (96 + a) ∧ nI (96 + a) ≤ (122:Int32) := ⟨nI_le (a := 97) (by omega) (by omega), nI_le (b := 122) (by omega) (by omega)⟩
  have e0 : nmS nm q l q = l := if_pos rfl
  rw [rd_step hr hn hz hp hch (want_l hq hC (by rw [e0]; exact hok)), (isLet hl).1]
  simp only [bs]
  rw [if_neg (show ¬ (1:Int32) = 0 by decide), hC.1, nI_pred, rd_nI (by omega), (hC.2 q (by omega)).2.1, e0]
  simp only [bs]
  rw [size_ok hok]
  simp only [bs]
  rw [if_neg (show ¬ nI l.length = (6:Int32) from fun q => by have := (nI_eq (b := 6) (by omega) (by omega)).mp q; omega), show nI (96 + a) - (96:Int32) = nI a from by
    rw [show (96:Int32) = nI 96 from by decide, pk_sub (by omega)]
    exact congrArg nI (by omega)]
  rw [with_ok hok ha h6]
  simp only [bs]
  rw [wr_nI (by omega)]
  rfl
theorem add_in {S : pv_F} {q k : Nat} {K : Nat → Nat} {nm : Nat → List Nat} (hq : q < 7) (hk : k ≤ 5) (hC : FC S 36 q K nm (fun _ => 0)) : ∃ S', f7_add 36 (nI k) S = some (1, S') ∧ FC S' 36 (q + 1) (fun x => if x = q then k else K x) (nmS nm q []) (fun _ => 0) ∧ ∀ c, c < 36 ∨ 39 < c → S' c = S c := by
  unfold f7_add
  rw [if_neg (nI_pos (by omega)), if_neg (show ¬ (5:Int32) < nI k from nI_nlt (a := 5) hk (by omega)), hC.1, if_neg (show ¬ nI q = (7:Int32) from fun e => by have := (nI_eq (b := 7) (by omega) (by omega)).mp e; omega), wr_nI (by omega)]
  simp only [bs]
  rw [up_ne (by decide), hC.1, wr_nI (by omega)]
  simp only [bs]
  rw [up_ne (by decide), up_ne (by decide), hC.1, wr_nI (by omega)]
  simp only [bs, pv_pf]
  rw [up_ne (by decide), up_ne (by decide), up_ne (by decide), hC.1, nI_1]
  refine ⟨_, rfl, ⟨up_at _ _ _ _, fun x hx => ⟨?_, ?_, ?_⟩⟩, fun c hc => ?_⟩
  · rw [up_ne (by decide), up_ne (by decide), up_ne (by decide)]
    by_cases e : x = q
    · subst e; rw [up_at]; exact congrArg nI (if_pos rfl).symm
    · rw [up_nj e]; exact ((hC.2 x (by omega)).1).trans (congrArg nI (if_neg e).symm)
  · rw [up_ne (by decide), up_ne (by decide)]
    unfold nmS
    by_cases e : x = q
    · subst e; rw [up_at, if_pos rfl]; exact nI_0.symm
    · rw [up_nj e, up_ne (by decide), if_neg e]; exact (hC.2 x (by omega)).2.1
  · rw [up_ne (by decide)]
    by_cases e : x = q
    · subst e; rw [up_at]; exact nI_0.symm
    · rw [up_nj e, up_ne (by decide), up_ne (by decide)]; exact (hC.2 x (by omega)).2.2
  · rw [up_ne (by omega), up_ne (by omega), up_ne (by omega), up_ne (by omega)]
theorem add_out {S : pv_F} {v : Int32} (h : v < 0 ∨ (5:Int32) < v ∨ S 36 3 = 7) : f7_add 36 v S = some (0, S) := by
  unfold f7_add
  by_cases h1 : v < 0
  · rw [if_pos h1]
  · rw [if_neg h1]
    by_cases h2 : (5:Int32) < v
    · rw [if_pos h2]
    · rw [if_neg h2, if_pos (by rcases h with q | q | q; exact absurd q h1; exact absurd q h2; exact q)]
/-! READING: class and model side by side -/
def FrC (s S : pv_F) : Prop := ∀ c, c < 36 ∨ 39 < c → S c = s c
def FrM (T U : pv_T) : Prop := (∀ c, c ≠ 94 → c ≠ 102 → c ≠ 103 → c ≠ 104 → U.1 c = T.1 c) ∧ ∀ j, j ≠ 12 → j ≠ 13 → U.1 94 j = T.1 94 j
def RdM (U : pv_T) (q : Nat) (K : Nat → Nat) (nm : Nat → List Nat) : Prop := ∀ x, x < q → U.1 102 x = nI (K x) ∧ U.1 103 x = nI (nm x).length ∧ ∀ i, i < (nm x).length → U.1 104 (6 * x + i) = nI (96 + (nm x).getD i 0)
def RdOk (q : Nat) (K : Nat → Nat) (nm : Nat → List Nat) : Prop := q ≤ 7 ∧ ∀ x, x < q → K x ≤ 5 ∧ okN (nm x) ∧ nm x ≠ []
def ltr (ch : Int32) : Prop := 97 ≤ ch ∧ ch ≤ 122
theorem here_ok {U : pv_T} {r n p : Nat} (hr : r < 4) (hn : n ≤ 80) (hp : p ≤ n) (h12 : U.1 94 12 = nI p) (h99 : U.1 99 r = nI n) : f133_here (nI r) U = some (if p < n then U.1 100 (80 * r + p) else -9) := by
  unfold f133_here
  rw [rd_nI hr, h99, h12]
  simp only [bs]
  by_cases e : p < n
  · rw [if_neg (nI_ge e (by omega)), if_pos e, ix80, rd_nI (by omega)]
    rfl
  · rw [if_pos (nI_le (by omega) (by omega)), if_neg e]
    rfl
def cRes (r : Nat) (o : (Int32 × Int32 × pv_F) ⊕ (Int32 × pv_F)) : Option (Int32 × pv_F) := match o with
  | .inl (w42, _, s44) => ((if w42 = 0 then some (-9:Int32) else (pv_rd s44 (36 + 2) 7 ((s44 36 3) - (1:Int32))).bind fun q49 => if q49 = 0 then some (s44 (86 + 2 * r) 2) else some (-9:Int32)) : Option Int32).bind fun t45 => some (t45, s44)
  | .inr q => some q
theorem cres_0 {r : Nat} {w x : Int32} {S : pv_F} (h : wantC w S = some 0) : cRes r (.inl (w, x, S)) = some (-9, S) := by
  unfold wantC at h
  unfold cRes
  simp only
  by_cases hw : w = 0
  · rw [if_pos hw]; rfl
  · rw [if_neg hw] at h
    rw [if_neg hw]
    cases hq : pv_rd S (36 + 2) 7 ((S 36 3) - (1:Int32)) with
    | none => rw [hq] at h; cases h
    | some y =>
      rw [hq] at h
      simp only [bs] at h ⊢
      by_cases hy : y = 0
      · rw [if_pos hy] at h
        exact absurd (Option.some.inj h) (by decide)
      · rw [if_neg hy]; rfl
theorem cres_1 {r : Nat} {w x : Int32} {S : pv_F} (h : wantC w S = some 1) : cRes r (.inl (w, x, S)) = some (S (86 + 2 * r) 2, S) := by
  unfold wantC at h
  unfold cRes
  simp only
  by_cases hw : w = 0
  · rw [if_pos hw] at h
    exact absurd (Option.some.inj h) (by decide)
  · rw [if_neg hw] at h
    rw [if_neg hw]
    cases hq : pv_rd S (36 + 2) 7 ((S 36 3) - (1:Int32)) with
    | none => rw [hq] at h; cases h
    | some y =>
      rw [hq] at h
      simp only [bs] at h ⊢
      by_cases hy : y = 0
      · rw [if_pos hy]; rfl
      · rw [if_neg hy] at h
        exact absurd (Option.some.inj h) (by decide)
theorem lp_go {S R : Type} {B : S → Option (S ⊕ (S ⊕ R))} {st st' : S} (h : B st = some (.inl st')) (f : Nat) : pv_lp B (f + 1) st = pv_lp B f st' := by rw [pv_lp, h]
theorem lp_stop {S R : Type} {B : S → Option (S ⊕ (S ⊕ R))} {st : S} {o : S ⊕ R} (h : B st = some (.inr o)) (f : Nat) : pv_lp B (f + 1) st = some o := by rw [pv_lp, h]
theorem readLets {s : pv_F} {T : pv_T} {r n : Nat} (hr : r < 4) (hn : n ≤ 80) (hz : s (86 + 2 * r) 2 = nI n) (hzM : T.1 99 r = nI n) (hc : ∀ i, i < n → s (87 + 2 * r) i = T.1 100 (80 * r + i)) {S : pv_F} {U : pv_T} {p q : Nat} {K : Nat → Nat} {nm : Nat → List Nat} {v2 : Int32} (hp : p ≤ n) (hq : q < 7) (hC : FC S 36 (q + 1) K (nmS nm q []) (fun _ => 0)) (hS : FrC s S) (hU : FrM T U) (h12 : U.1 94 12 = nI p) (h13 : U.1 94 13 = nI q) (hR : RdM U q K nm) (hok : ∀ x, x < q → (nm x).length ≤ 6) : ∃ (l : List Nat) (S' : pv_F) (U' : pv_T), pv_lq (f136_readsPerson_b1 (nI r) v2) 20000 ((0:Int32), U) = some (nI l.length, U') ∧ p + l.length ≤ n ∧ okN l ∧ FC S' 36 (q + 1) K (nmS nm q l) (fun _ => 0) ∧ FrC s S' ∧ FrM T U' ∧ U'.1 94 12 = nI (p + l.length) ∧ U'.1 94 13 = nI q ∧ RdM U' q K nm ∧ (∀ i, i < l.length → U'.1 104 (6 * q + i) = nI (96 + l.getD i 0)) ∧ (∀ f, pv_lp (f6_read_b1 36 (86 + 2 * r)) (f + l.length) (1, nI p, S) = pv_lp (f6_read_b1 36 (86 + 2 * r)) f (1, nI (p + l.length), S')) ∧ (l.length = 6 ∨ p + l.length = n ∨ ¬ ltr (T.1 100 (80 * r + (p + l.length)))) := by
  obtain ⟨e, g1, g2⟩ := lq_inv2 (B := f136_readsPerson_b1 (nI r) v2) (P := fun i st => ∃ (l : List Nat) (S' : pv_F), st.1 = nI i ∧ l.length = i ∧ p + i ≤ n ∧ okN l ∧ FC S' 36 (q + 1) K (nmS nm q l) (fun _ => 0) ∧ FrC s S' ∧ FrM T st.2 ∧ st.2.1 94 12 = nI (p + i) ∧ st.2.1 94 13 = nI q ∧ RdM st.2 q K nm ∧ (∀ j, j < i → st.2.1 104 (6 * q + j) = nI (96 + l.getD j 0)) ∧ (∀ f, pv_lp (f6_read_b1 36 (86 + 2 * r)) (f + i) (1, nI p, S) = pv_lp (f6_read_b1 36 (86 + 2 * r)) f (1, nI (p + i), S'))) (Q := fun st => ∃ (l : List Nat) (S' : pv_F), st.1 = nI l.length ∧ p + l.length ≤ n ∧ okN l ∧ FC S' 36 (q + 1) K (nmS nm q l) (fun _ => 0) ∧ FrC s S' ∧ FrM T st.2 ∧ st.2.1 94 12 = nI (p + l.length) ∧ st.2.1 94 13 = nI q ∧ RdM st.2 q K nm ∧ (∀ j, j < l.length → st.2.1 104 (6 * q + j) = nI (96 + l.getD j 0)) ∧ (∀ f, pv_lp (f6_read_b1 36 (86 + 2 * r)) (f + l.length) (1, nI p, S) = pv_lp (f6_read_b1 36 (86 + 2 * r)) f (1, nI (p + l.length), S')) ∧ (l.length = 6 ∨ p + l.length = n ∨ ¬ ltr (T.1 100 (80 * r + (p + l.length))))) 6 (fun i st hi hP => by
    obtain ⟨v, V⟩ := st
    obtain ⟨l, S', p1, p2, p3, p4, p5, p6, p7, p8, p9, p10, p11, p12⟩ := hP
    simp only at p1 p7 p8 p9 p10 p11
    subst p1 p2
    unfold f136_readsPerson_b1
    simp only
    by_cases e6 : l.length = 6
    · rw [if_pos (show (6:Int32) ≤ nI l.length from nI_le (a := 6) (by omega) (by omega))]
      exact Or.inr ⟨_, rfl, l, S', rfl, p3, p4, p5, p6, p7, p8, p9, p10, p11, p12, Or.inl e6⟩
    rw [if_neg (show ¬ (6:Int32) ≤ nI l.length from nI_ge (b := 6) (by omega) (by omega)), here_ok hr hn p3 p8 (by rw [p7.1 99 (by decide) (by decide) (by decide) (by decide)]; exact hzM), p7.1 100 (by decide) (by decide) (by decide) (by decide)]
    simp only [bs]
    by_cases en : p + l.length = n
    · rw [if_neg (show ¬ p + l.length < n by omega), (notLet (show ¬ ((97:Int32) ≤ -9 ∧ (-9:Int32) ≤ 122) by decide)).2]
      simp only [bs]
      rw [if_pos True.intro]
      exact Or.inr ⟨_, rfl, l, S', rfl, p3, p4, p5, p6, p7, p8, p9, p10, p11, p12, Or.inr (Or.inl en)⟩
    have hlt : p + l.length < n := by omega
    rw [if_pos hlt]
    by_cases hl : ltr (T.1 100 (80 * r + (p + l.length)))
    · obtain ⟨a, a1, a2, a3, -⟩ := let_num hl
      rw [(isLet hl).2]
      simp only [bs]
      rw [if_neg (show ¬ (1:Int32) = 0 by decide), p9, nI6m, nI_add, a3, wm_nI (by omega)]
      simp only [bs, pv_pm]
      rw [up_ne (by decide), p8, nI_1, nI_1]
      have hst := rd_letter (S := S') (p := p + l.length) (q := q) (a := a) (K := K) (nm := nm) (l := l) hr hn (by rw [p6 _ (by omega)]; exact hz) hlt (by rw [p6 _ (by omega), hc _ hlt]; exact a3) a1 a2 hq p5 p4 (by omega)
      have hlen : (l ++ [a]).length = l.length + 1 := by rw [List.length_append]; rfl
      refine Or.inl ⟨by omega, _, rfl, l ++ [a], pv_up S' (36 + 2) q (nI (pack (l ++ [a]))), rfl, hlen, by omega, okN_app p4 a1 a2 (by omega), FC_nmS p5, fun c hc => ?_, ⟨fun c c1 c2 c3 c4 => ?_, fun j j1 j2 => ?_⟩, ?_, ?_, fun x hx => ?_, fun j hj => ?_, fun f => ?_⟩
      · rw [up_ne (by omega)]; exact p6 c hc
      · simp only
        rw [up_ne c1, up_ne c4]; exact p7.1 c c1 c2 c3 c4
      · simp only
        rw [up_nj j1, up_ne (by decide)]; exact p7.2 j j1 j2
      · simp only
        rw [up_at]
        exact congrArg nI (by omega)
      · simp only
        rw [up_nj (by decide), up_ne (by decide)]; exact p9
      · simp only
        obtain ⟨x1, x2, x3⟩ := p10 x hx
        have := hok x hx
        rw [up_ne (by decide), up_ne (by decide), up_ne (by decide), up_ne (by decide), up_ne (by decide)]
        exact ⟨x1, x2, fun i hi => by rw [up_nj (by omega)]; exact x3 i hi⟩
      · simp only
        rw [up_ne (by decide), getD_app]
        by_cases ej : j = l.length
        · subst ej
          rw [up_at, if_neg (by omega), if_pos rfl]
        · rw [up_nj (by omega), if_pos (by omega)]
          exact p11 j (by omega)
      · rw [show f + (l.length + 1) = (f + 1) + l.length by omega, p12 (f + 1), lp_go hst f, show p + l.length + 1 = p + (l.length + 1) by omega]
    · rw [(notLet hl).2]
      simp only [bs]
      rw [if_pos True.intro]
      exact Or.inr ⟨_, rfl, l, S', rfl, p3, p4, p5, p6, p7, p8, p9, p10, p11, p12, Or.inr (Or.inr hl)⟩) ((0:Int32), U) ⟨[], S, nI_0.symm, rfl, by omega, okN_nil, hC, hS, hU, h12, h13, hR, fun j hj => by omega, fun f => rfl⟩
  obtain ⟨v, V⟩ := e
  obtain ⟨l, S', q1, q2⟩ := g2
  simp only at q1 q2
  subst q1
  exact ⟨l, S', V, g1, q2⟩
theorem sign_num {ch : Int32} (h : ¬ (ch - 49 < 0) ∧ ¬ ((5:Int32) < ch - 49)) : ∃ k, k ≤ 5 ∧ ch = nI (49 + k) ∧ ch - 49 = nI k := by
  obtain ⟨k, hk, e⟩ := nI_of2 (x := ch - 49) (M := 5) (n := 5) (by decide) h.1 (Int32.not_lt.mp h.2)
  refine ⟨k, hk, ?_, e⟩
  have h2 : ch = ch - 49 + 49 := (Int32.sub_add_cancel ch 49).symm
  rw [h2, e, show (49:Int32) = nI 49 from by decide, nI_add, Nat.add_comm]
theorem sign_in {ch : Int32} (h : 49 ≤ ch ∧ ch ≤ 54) : ∃ k, k ≤ 5 ∧ ch = nI (49 + k) ∧ ch - 49 = nI k := by
  have h0 : ¬ ch < 0 := fun q => by
    have h1 := h.1
    rw [Int32.le_iff_toInt_le, show (49:Int32).toInt = 49 from by decide] at h1
    rw [Int32.lt_iff_toInt_lt, Int32.toInt_zero] at q
    omega
  obtain ⟨u, hu, rfl⟩ := nI_of h0
  have h1 : 49 ≤ u := (nI_leI (a := 49) (by omega) hu).mp h.1
  have h2 : u ≤ 54 := (nI_leI (b := 54) hu (by omega)).mp h.2
  refine ⟨u - 49, by omega, congrArg nI (by omega), ?_⟩
  exact pk_sub (b := 49) h1
