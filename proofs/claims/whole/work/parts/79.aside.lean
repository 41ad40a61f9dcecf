/-! LASTS, BECOMES: one who comes again and again, aside -/
theorem Inv.aside {s s' : pv_F} {T T' : pv_T} (h : Inv s T) (hs : ∀ a, a = 0 ∨ (3 ≤ a ∧ a ≤ 35) ∨ 73 ≤ a → s' a = s a) (hT : ∀ c, (95 ≤ c ∧ c ≤ 97) ∨ (99 ≤ c ∧ c ≤ 101) ∨ (106 ≤ c ∧ c ≤ 109) → T'.1 c = T.1 c) (h105 : ∀ i, i < 78 → T'.1 105 i = T.1 105 i) (h94 : ∀ j, j = 0 ∨ j = 2 ∨ j = 8 ∨ j = 9 ∨ j = 10 ∨ j = 18 → T'.1 94 j = T.1 94 j) : Inv s' T' := by
  refine h.town ?_ (fun a ha => hs a (by omega)) (fun c hc => hT c (by omega)) (fun j hj => h94 j (by omega))
  obtain ⟨n, K, nm, ds, kd, ht⟩ := h.2.2.2
  have hv := ht.view
  have h0 := ht.ok0
  refine ⟨n, K, nm, ds, kd, ?_⟩
  obtain ⟨⟨a1, a2, a3, a4, a5⟩, ⟨b1, b2, b3, b4, b5, b6⟩, c⟩ := ht
  have hS : ∀ a, 3 ≤ a ∧ a ≤ 35 → s' a = s a := fun a ha => hs a (Or.inr (Or.inl ha))
  refine ⟨⟨a1, fun x hx => ?_, ?_, ?_, ?_⟩, ⟨b1, b2.frame (fun a ha => hS a (by omega)), b3.frame (fun a ha => hS a (by omega)), ?_, b5.copy hv.1 (fun i hi => by rw [Nat.zero_add]; exact h105 i hi), fun j hj => ?_⟩, fun k hk => ?_⟩
  · rw [hS 5 (by omega), hS 9 (by omega), hS 6 (by omega), hS 7 (by omega), hT 101 (by omega)]
    exact a2 x hx
  · rw [hS 4 (by omega)]; exact a3
  · rw [hS 8 (by omega)]; exact a4
  · rw [h94 8 (by omega)]; exact a5
  · rw [h94 18 (by omega)]; exact b4
  · rw [hT 106 (by omega)]; exact b6 j hj
  · rw [hS (21 + 5 * k) (by omega), hT 107 (by omega), hT 108 (by omega)]
    rcases c k hk with q | ⟨d, d1, d2, d3, d4, d5, d6, d7⟩
    · exact Or.inl q
    · refine Or.inr ⟨d, d1, d2, d3, d4.frame (fun a ha => hS a (by omega)), d5, d6, fun j hj => ?_⟩
      rw [hT 109 (by omega)]; exact d7 j hj
theorem putAside_ok (T : pv_T) : ∃ T', f168_putAside T = some T' ∧ (∀ i, i < 78 → T'.1 110 i = T.1 105 i) ∧ ∀ c, c ≠ 110 → T'.1 c = T.1 c := by
  unfold f168_putAside
  rw [← nI_0]
  obtain ⟨T', h1, h2, h3, -⟩ := copies_ok (T := T) (a := 105) (b := 110) (p := 0) (q := 0) (N := 78) (M := 78) (by decide) rfl rfl (by omega) (by omega) (by omega) (by omega)
  rw [h1]
  exact ⟨T', rfl, fun i hi => by have := h2 i hi; rwa [Nat.zero_add] at this, h3⟩
theorem comeBack_ok (T : pv_T) : ∃ T', f169_comeBack T = some T' ∧ (∀ i, i < 78 → T'.1 105 i = T.1 110 i) ∧ ∀ c, c ≠ 105 → T'.1 c = T.1 c := by
  unfold f169_comeBack
  rw [← nI_0]
  obtain ⟨T', h1, h2, h3, -⟩ := copies_ok (T := T) (a := 110) (b := 105) (p := 0) (q := 0) (N := 78) (M := 78) (by decide) rfl rfl (by omega) (by omega) (by omega) (by omega)
  rw [h1]
  exact ⟨T', rfl, fun i hi => by have := h2 i hi; rwa [Nat.zero_add] at this, h3⟩
def cmN (K : Nat → Nat) (w x : Nat) (l : List Nat) (d : Nat) : Nat → List Nat × Nat
  | 0 => (l, d)
  | n + 1 => comeOne K w x (cmN K w x l d n).1 (cmN K w x l d n).2
theorem cmN_ok (K : Nat → Nat) (w x : Nat) {l : List Nat} {d : Nat} (h : okN l) (hd : d ≤ 1) : ∀ n, okN (cmN K w x l d n).1 ∧ (cmN K w x l d n).2 ≤ 1
  | 0 => ⟨h, hd⟩
  | n + 1 => comeOne_ok K w x (cmN_ok K w x h hd n).1
theorem come_len (K : Nat → Nat) (w x : Nat) (l : List Nat) (d : Nat) : (K x = 4 ∧ d = 0 ∧ comeOne K w x l d = (l, 1)) ∨ (¬ (K x = 4 ∧ d = 0) ∧ comeOne K w x l d = (wearA w l, 0) ∧ (wearA w l).length = l.length - 1) := by
  unfold comeOne
  by_cases h : K x = 4 ∧ d = 0
  · exact Or.inl ⟨h.1, h.2, if_pos h⟩
  · exact Or.inr ⟨h, if_neg h, wearA_len w l⟩
theorem cmN_mu (K : Nat → Nat) (w x : Nat) {l : List Nat} {d : Nat} (h : okN l) (hd : d ≤ 1) : ∀ n, (cmN K w x l d n).1.length = 0 ∨ 2 * (cmN K w x l d n).1.length + n ≤ 2 * l.length + (cmN K w x l d n).2
  | 0 => Or.inr (by show 2 * l.length + 0 ≤ 2 * l.length + d; omega)
  | n + 1 => by
    have ih := cmN_mu K w x h hd n
    have hd' := (cmN_ok K w x h hd n).2
    show (comeOne K w x (cmN K w x l d n).1 (cmN K w x l d n).2).1.length = 0 ∨ 2 * (comeOne K w x (cmN K w x l d n).1 (cmN K w x l d n).2).1.length + (n + 1) ≤ 2 * l.length + (comeOne K w x (cmN K w x l d n).1 (cmN K w x l d n).2).2
    generalize cmN K w x l d n = p at *
    rcases come_len K w x p.1 p.2 with ⟨-, e2, e3⟩ | ⟨-, e3, e4⟩
    · rw [e3]
      simp only
      omega
    · rw [e3]
      simp only
      rw [e4]
      omega
theorem cmN_12 (K : Nat → Nat) (w x : Nat) {l : List Nat} {d : Nat} (h : okN l) (hd : d ≤ 1) : (cmN K w x l d 12).1 = [] := by
  have h1 := cmN_mu K w x h hd 12
  have h2 := (cmN_ok K w x h hd 12).2
  have h3 := h.1
  exact List.length_eq_zero_iff.mp (by omega)
theorem come_nil (K : Nat → Nat) (w x d : Nat) : (comeOne K w x [] d).1 = [] := by
  unfold comeOne
  split
  · rfl
  · exact wearA_nil w
theorem cmN_nil (K : Nat → Nat) (w x : Nat) {l : List Nat} {d : Nat} {n : Nat} (h : (cmN K w x l d n).1 = []) : ∀ m, n ≤ m → (cmN K w x l d m).1 = [] := by
  intro m
  induction m with
  | zero =>
    intro hm
    obtain rfl : n = 0 := by omega
    exact h
  | succ m ih =>
    intro hm
    by_cases e : n = m + 1
    · subst e; exact h
    · show (comeOne K w x (cmN K w x l d m).1 (cmN K w x l d m).2).1 = []
      rw [ih (by omega)]
      exact come_nil K w x _
/-- the first of so many times -/
def Till (p : Nat → Prop) (r : Int32) : Prop := (∃ n, n ≤ 12 ∧ p n ∧ (∀ m, m < n → ¬ p m) ∧ r = nI n) ∨ ((∀ n, n ≤ 12 → ¬ p n) ∧ r = -9)
theorem Till.eq {p : Nat → Prop} {r r' : Int32} (h : Till p r) (h' : Till p r') : r = r' := by
  rcases h with ⟨n, n1, n2, n3, rfl⟩ | ⟨n1, rfl⟩
  · rcases h' with ⟨m, m1, m2, m3, rfl⟩ | ⟨m1, rfl⟩
    · rcases Nat.lt_trichotomy n m with q | q | q
      · exact absurd n2 (m3 n q)
      · rw [q]
      · exact absurd m2 (n3 m q)
    · exact absurd n2 (m1 n n1)
  · rcases h' with ⟨m, m1, m2, m3, rfl⟩ | ⟨m1, rfl⟩
    · exact absurd m2 (n1 m m1)
    · rfl
theorem timesTill_ok {s : pv_F} {o n : Nat} {K : Nat → Nat} {nm : Nat → List Nat} {du : Nat → Nat} (hF : okF n K nm du) (h : FC s o n K nm du) {x w : Nat} {l : List Nat} (hx : x < n) (hl : okN l) (hw : w ≤ 2) : ∃ r, f18_timesTill o (nI x) (nI (pack l)) (nI w) s = some r ∧ Till (fun k => (cmN K w x (nm x) (du x) k).1 = l) r := by
  have h7 := hF.1
  obtain ⟨h5, hN, h1⟩ := hF.2 x hx
  unfold f18_timesTill
  rw [rd_nI (by omega), (h.2 x hx).2.1]
  simp only [bs]
  rw [rd_nI (by omega), (h.2 x hx).1]
  simp only [bs]
  have ht : ((if nI (K x) = (4:Int32) then (pv_rd s (o + 3) 7 (nI x)).bind fun q30 => if q30 = 0 then some (1:Int32) else some 0 else some 0) : Option Int32) = some (if K x = 4 ∧ du x = 0 then 1 else 0) := by
    by_cases h4 : K x = 4
    · rw [if_pos (by rw [h4]; decide), rd_nI (by omega), (h.2 x hx).2.2]
      simp only [bs]
      by_cases hd : du x = 0
      · rw [hd, if_pos nI_0, if_pos ⟨h4, rfl⟩]
      · rw [if_neg (nI_ne0 (by omega) (by omega)), if_neg (fun q => hd q.2)]
    · rw [if_neg (show ¬ nI (K x) = (4:Int32) from fun q => h4 ((nI_eq (by omega) (by omega)).mp (show nI (K x) = nI 4 from q))), if_neg (fun q => h4 q.1)]
  rw [ht]
  simp only [bs]
  obtain ⟨r, h2, h3⟩ := lp_inv (B := f18_timesTill_b1 o (nI x) (nI (pack l)) (nI w) s) (P := fun i st => st = (nI (pack (cmN K w x (nm x) (du x) i).1), (if K x = 4 ∧ (cmN K w x (nm x) (du x) i).2 = 0 then 1 else 0), nI i) ∧ ∀ m, m < i → ¬ (cmN K w x (nm x) (du x) m).1 = l) (Q := fun r => match r with
    | .inl _ => ∀ k, k ≤ 12 → ¬ (cmN K w x (nm x) (du x) k).1 = l
    | .inr q => ∃ n, n ≤ 12 ∧ (cmN K w x (nm x) (du x) n).1 = l ∧ (∀ m, m < n → ¬ (cmN K w x (nm x) (du x) m).1 = l) ∧ q = nI n) 13 (fun i st hi hP => by
    obtain ⟨rfl, p1⟩ := hP
    have hok := cmN_ok K w x hN h1 i
    unfold f18_timesTill_b1
    simp only
    by_cases hi13 : i = 13
    · subst hi13
      rw [if_pos (by decide)]
      exact Or.inr ⟨_, rfl, fun k hk => p1 k (by omega)⟩
    · rw [if_neg (show ¬ (12:Int32) < nI i from nI_nlt (a := 12) (by omega) (by omega))]
      by_cases he : (cmN K w x (nm x) (du x) i).1 = l
      · rw [if_pos (by rw [he])]
        exact Or.inr ⟨_, rfl, i, by omega, he, p1, rfl⟩
      · rw [if_neg (fun q => he ((pack_inj hok.1 hl).mp q)), rd_nI (by omega), (h.2 x hx).1]
        have hstep : cmN K w x (nm x) (du x) (i + 1) = comeOne K w x (cmN K w x (nm x) (du x) i).1 (cmN K w x (nm x) (du x) i).2 := rfl
        have hlast : ∀ m, m < i + 1 → ¬ (cmN K w x (nm x) (du x) m).1 = l := fun m hm => by
          by_cases e : m = i
          · subst e; exact he
          · exact p1 m (by omega)
        refine Or.inl ⟨by omega, ?_⟩
        rcases come_len K w x (cmN K w x (nm x) (du x) i).1 (cmN K w x (nm x) (du x) i).2 with ⟨e1, e2, e3⟩ | ⟨e1, e3, -⟩
        · rw [show (if K x = 4 ∧ (cmN K w x (nm x) (du x) i).2 = 0 then (1:Int32) else 0) = 1 from if_pos ⟨e1, e2⟩, if_neg (show ¬ (1:Int32) = 0 by decide), show nI (K x) = (4:Int32) from by rw [e1]; decide]
          simp only [bs]
          rw [if_pos True.intro, if_neg (show ¬ (1:Int32) = 0 by decide)]
          simp only [bs]
          refine ⟨_, rfl, ?_, hlast⟩
          rw [hstep, e3, nI_1, if_neg (fun q => by simp at q)]
        · rw [show (if K x = 4 ∧ (cmN K w x (nm x) (du x) i).2 = 0 then (1:Int32) else 0) = 0 from if_neg e1, if_pos (show (0:Int32) = 0 from rfl), worn_ok hok.1 hw]
          simp only [bs]
          by_cases e4 : K x = 4
          · rw [show nI (K x) = (4:Int32) from by rw [e4]; decide, if_pos rfl, if_pos True.intro]
            simp only [bs]
            refine ⟨_, rfl, ?_, hlast⟩
            rw [hstep, e3, nI_1, if_pos ⟨e4, rfl⟩]
          · rw [if_neg (show ¬ nI (K x) = (4:Int32) from fun q => e4 ((nI_eq (by omega) (by omega)).mp (show nI (K x) = nI 4 from q)))]
            simp only [bs]
            refine ⟨_, rfl, ?_, hlast⟩
            rw [hstep, e3, nI_1, if_neg (fun q => e4 q.1)]) (nI (pack (nm x)), (if K x = 4 ∧ du x = 0 then 1 else 0), (0:Int32)) ⟨rfl, fun m hm => by omega⟩
  rw [h2]
  simp only [bs]
  match r, h3 with
  | .inl z, h3 => exact ⟨-9, rfl, Or.inr ⟨h3, rfl⟩⟩
  | .inr q, ⟨n, n1, n2, n3, n4⟩ => exact ⟨q, rfl, Or.inl ⟨n, n1, n2, n3, n4⟩⟩
/-- one of the model's people comes -/
def setP (A : TS) (x : Nat) (p : List Nat × Nat) : TS := (fun z => if z = x then p.1 else A.1 z, fun z => if z = x then p.2 else A.2.1 z, A.2.2)
theorem okT_setP {n : Nat} {K : Nat → Nat} {A : TS} (hF : okT n K A) {x : Nat} {p : List Nat × Nat} (h1 : okN p.1) (h2 : p.2 ≤ 1) : okT n K (setP A x p) := by
  refine ⟨hF.1, fun z hz => ⟨(hF.2 z hz).1, ?_, ?_⟩⟩
  · unfold setP
    simp only
    split
    · exact h1
    · exact (hF.2 z hz).2.1
  · unfold setP
    simp only
    split
    · exact h2
    · exact (hF.2 z hz).2.2
theorem setP_same (A : TS) (x : Nat) : setP A x (A.1 x, A.2.1 x) = A := by
  unfold setP
  refine Prod.ext ?_ (Prod.ext ?_ rfl)
  · funext z
    simp only
    split
    · rename_i e; rw [e]
    · rfl
  · funext z
    simp only
    split
    · rename_i e; rw [e]
    · rfl
theorem setP_setP (A : TS) (x : Nat) (p q : List Nat × Nat) : setP (setP A x p) x q = setP A x q := by
  unfold setP
  refine Prod.ext ?_ (Prod.ext ?_ rfl)
  · funext z
    simp only
    split <;> rfl
  · funext z
    simp only
    split <;> rfl
theorem comeMR {T : pv_T} {n : Nat} {K : Nat → Nat} {A : TS} (hF : okT n K A) (hM : MR T n K A) {x w : Nat} (hx : x < n) (hw : w ≤ 2) (hT : T.1 94 9 = nI w) : ∃ T', f156_comeOne (nI x) T = some T' ∧ MR T' n K (setP A x (comeOne K w x (A.1 x) (A.2.1 x))) ∧ ∀ c, c ≠ 105 → T'.1 c = T.1 c := by
  have hn := hF.1
  obtain ⟨h5, hN, hd⟩ := hF.2 x hx
  obtain ⟨T', h1, h2, h3, h4, h6, h7⟩ := comeM_ok (T := T) (x := x) (w := w) (d := A.2.1 x) (K := K) (l := A.1 x) (by omega) h5 (hM.2.1 x hx) hw hT hN hd (fun i hi => hM.let_ hx hi) (hM.len hx) (hM.due hx)
  refine ⟨T', h1, ⟨by rw [h6 94 (by decide)]; exact hM.1, fun z hz => by rw [h6 101 (by decide)]; exact hM.2.1 z hz, fun z hz => ?_, ?_⟩, h6⟩
  · have hz6 := (hF.2 z hz).2.1.1
    obtain ⟨r1, r2, r3, r4, r5, r6⟩ := hM.2.2.1 z hz
    simp only [Nat.zero_add] at r1 r2 r3 r4 r5 r6 ⊢
    unfold setP
    simp only
    by_cases e : z = x
    · subst e
      rw [if_pos rfl, if_pos rfl]
      exact ⟨h2, h3, h4, by rw [h7 _ (by omega) (by omega) (by omega)]; exact r4, by rw [h7 _ (by omega) (by omega) (by omega)]; exact r5, by rw [h7 _ (by omega) (by omega) (by omega)]; exact r6⟩
    · rw [if_neg e, if_neg e]
      exact ⟨fun i hi => by rw [h7 _ (by omega) (by omega) (by omega)]; exact r1 i hi, by rw [h7 _ (by omega) (by omega) (by omega)]; exact r2, by rw [h7 _ (by omega) (by omega) (by omega)]; exact r3, by rw [h7 _ (by omega) (by omega) (by omega)]; exact r4, by rw [h7 _ (by omega) (by omega) (by omega)]; exact r5, by rw [h7 _ (by omega) (by omega) (by omega)]; exact r6⟩
  · rw [h7 _ (by omega) (by omega) (by omega)]
    exact hM.2.2.2
theorem Inv.way_ {s : pv_F} {T : pv_T} (h : Inv s T) : ∃ w, w ≤ 2 ∧ s 0 6 = nI w ∧ T.1 94 9 = nI w := by
  obtain ⟨w, hw, hwC⟩ := h.1.1
  exact ⟨w, hw, hwC, by rw [h.1.2.2.1]; exact hwC⟩
theorem op22 : OP22 Inv := by
  intro a s T h
  obtain ⟨n, K, A, hn, hF, hC, hM, hR⟩ := h.2.2.2.view
  obtain ⟨w, hw, hwC, hwM⟩ := h.way_
  unfold f76_lasts f170_lasts
  rcases per_cases a hn with ha | ⟨x, hx, rfl⟩
  · rw [perC_out hC.1 ha, perM_out hM.1 ha hn]
    exact ⟨-1, s, T, rfl, rfl, h⟩
  obtain ⟨h5, hN, hd⟩ := hF.2 x hx
  rw [perC_in hC.1 hx hn, perM_in hM.1 hx hn]
  simp only [bs]
  rw [if_neg (show ¬ (1:Int32) = 0 by decide), if_neg (show ¬ (1:Int32) = 0 by decide), lives_ok hF hC hx, rd_nI (by omega), hM.2.1 x hx]
  simp only [bs]
  by_cases h3 : K x = 3
  · rw [if_pos h3, if_pos rfl, if_pos (by rw [h3]; decide), find_ok 4 (by omega), meet_ok 4 (by omega)]
    exact ⟨_, _, _, rfl, rfl, h.fnd (by omega) (by omega)⟩
  rw [if_neg h3, if_neg (show ¬ (1:Int32) = 0 by decide), if_neg (show ¬ nI (K x) = (3:Int32) from fun q => h3 ((nI_eq (by omega) (by omega)).mp (show nI (K x) = nI 3 from q))), hwC]
  obtain ⟨r, t1, t2⟩ := timesTill_ok hF hC hx okN_nil hw
  rw [pack_nil, nI_0] at t1
  rw [t1]
  obtain ⟨T1, k1, k2, k3⟩ := putAside_ok T
  rw [k1]
  simp only [bs]
  have hM1 : MR T1 n K A := ⟨by rw [k3 94 (by decide)]; exact hM.1, fun z hz => by rw [k3 101 (by decide)]; exact hM.2.1 z hz, by rw [k3 105 (by decide)]; exact hM.2.2⟩
  obtain ⟨e, g1, g2⟩ := lq_inv2 (B := f170_lasts_b1 (nI x)) (P := fun i st => st.1 = nI i ∧ i ≤ 12 ∧ MR st.2 n K (setP A x (cmN K w x (A.1 x) (A.2.1 x) i)) ∧ (∀ c, c ≠ 105 → st.2.1 c = T1.1 c) ∧ ∀ m, m < i → ¬ (cmN K w x (A.1 x) (A.2.1 x) m).1 = []) (Q := fun st => Till (fun k => (cmN K w x (A.1 x) (A.2.1 x) k).1 = []) st.1 ∧ ∀ c, c ≠ 105 → st.2.1 c = T1.1 c) 12 (fun i st hi hP => by
    obtain ⟨v, U⟩ := st
    obtain ⟨p1, p2, p3, p4, p5⟩ := hP
    simp only at p1 p3 p4
    subst p1
    have hok := cmN_ok K w x hN hd i
    have hFi := okT_setP hF (x := x) hok.1 hok.2
    have e0 : (setP A x (cmN K w x (A.1 x) (A.2.1 x) i)).1 x = (cmN K w x (A.1 x) (A.2.1 x) i).1 := if_pos rfl
    have e1 : (setP A x (cmN K w x (A.1 x) (A.2.1 x) i)).2.1 x = (cmN K w x (A.1 x) (A.2.1 x) i).2 := if_pos rfl
    unfold f170_lasts_b1
    simp only
    rw [lenOf_ok hn p3 hx, e0]
    simp only [bs]
    by_cases he : (cmN K w x (A.1 x) (A.2.1 x) i).1 = []
    · rw [he, if_pos (show nI [].length ≤ (0:Int32) by decide)]
      exact Or.inr ⟨_, rfl, Or.inl ⟨i, p2, he, p5, rfl⟩, p4⟩
    · have hi12 : i < 12 := by
        rcases Nat.lt_or_ge i 12 with q | q
        · exact q
        · obtain rfl : i = 12 := by omega
          exact absurd (cmN_12 K w x hN hd) he
      have h6 := hok.1.1
      rw [if_neg (nI_nle (List.length_pos_iff.mpr he) (by omega))]
      obtain ⟨V, v1, v2, v3⟩ := comeMR hFi p3 hx hw (by rw [p4 94 (by decide), k3 94 (by decide)]; exact hwM)
      rw [v1]
      simp only [bs]
      rw [setP_setP, e0, e1] at v2
      refine Or.inl ⟨hi12, _, rfl, by rw [nI_1], by omega, v2, fun c hc => by rw [← p4 c hc]; exact v3 c hc, fun m hm => ?_⟩
      by_cases em : m = i
      · subst em; exact he
      · exact p5 m (by omega)) ((0:Int32), T1) ⟨rfl, by omega, by
      show MR T1 n K (setP A x (A.1 x, A.2.1 x))
      rw [setP_same]; exact hM1, fun c hc => rfl, fun m hm => by omega⟩
  rw [g1]
  obtain ⟨v, U⟩ := e
  obtain ⟨q1, q2⟩ := g2
  simp only at q1 q2
  simp only [bs]
  obtain ⟨T2, l1, l2, l3⟩ := comeBack_ok U
  rw [l1]
  rw [q1.eq t2]
  refine ⟨r, s, T2, rfl, rfl, h.aside (fun _ _ => rfl) (fun c hc => ?_) (fun i hi => ?_) (fun j hj => ?_)⟩
  · rw [l3 c (by omega), q2 c (by omega), k3 c (by omega)]
  · rw [l2 i hi, q2 110 (by decide), k2 i hi]
  · rw [l3 94 (by decide), q2 94 (by decide), k3 94 (by decide)]
theorem op23 : OP23 Inv := by
  intro a b s T h
  obtain ⟨n, K, A, hn, hF, hC, hM, hR⟩ := h.2.2.2.view
  obtain ⟨w, hw, hwC, hwM⟩ := h.way_
  unfold f77_becomes f171_becomes
  rcases pair_ok (a := a) (b := b) hn hC.1 hM.1 with ⟨h1, h2⟩ | ⟨x, y, hx, hy, hxy, rfl, rfl, h1, h2⟩
  · rw [h1, h2]
    exact ⟨-1, s, T, rfl, rfl, h⟩
  obtain ⟨h5, hN, hd⟩ := hF.2 x hx
  have hyN := (hF.2 y hy).2.1
  rw [h1, h2]
  simp only [bs]
  rw [if_neg (show ¬ (1:Int32) = 0 by decide), if_neg (show ¬ (1:Int32) = 0 by decide), lives_ok hF hC hx, rd_nI (s := T.1) (by omega), hM.2.1 x hx]
  simp only [bs]
  by_cases h3 : K x = 3
  · rw [if_pos h3, if_pos rfl, if_pos (by rw [h3]; decide), find_ok 4 (by omega), meet_ok 4 (by omega)]
    exact ⟨_, _, _, rfl, rfl, h.fnd (by omega) (by omega)⟩
  rw [if_neg h3, if_neg (show ¬ (1:Int32) = 0 by decide), if_neg (show ¬ nI (K x) = (3:Int32) from fun q => h3 ((nI_eq (by omega) (by omega)).mp (show nI (K x) = nI 3 from q))), rd_nI (by omega), (hR.1 y hy).1, hwC]
  simp only [bs]
  obtain ⟨r, t1, t2⟩ := timesTill_ok hF hC hx hyN hw
  rw [t1]
  obtain ⟨T1, k1, k2, k3⟩ := putAside_ok T
  rw [k1]
  simp only [bs]
  have hM1 : MR T1 n K A := ⟨by rw [k3 94 (by decide)]; exact hM.1, fun z hz => by rw [k3 101 (by decide)]; exact hM.2.1 z hz, by rw [k3 105 (by decide)]; exact hM.2.2⟩
  rw [isLike_ok hF hM1 hx hy]
  simp only [bs]
  obtain ⟨e, g1, g2⟩ := lq_inv2 (B := f171_becomes_b1 (nI x) (nI y)) (P := fun i st => st.1 = nI i ∧ i ≤ 12 ∧ st.2.1 = (if (cmN K w x (A.1 x) (A.2.1 x) i).1 = A.1 y then 1 else 0) ∧ MR st.2.2 n K (setP A x (cmN K w x (A.1 x) (A.2.1 x) i)) ∧ (∀ c, c ≠ 105 → st.2.2.1 c = T1.1 c) ∧ ∀ m, m < i → ¬ (cmN K w x (A.1 x) (A.2.1 x) m).1 = A.1 y) (Q := fun st => (∃ r, ((if st.2.1 = 0 then some (-9:Int32) else some st.1) : Option Int32) = some r ∧ Till (fun k => (cmN K w x (A.1 x) (A.2.1 x) k).1 = A.1 y) r) ∧ ∀ c, c ≠ 105 → st.2.2.1 c = T1.1 c) 12 (fun i st hi hP => by
    obtain ⟨v, z, U⟩ := st
    obtain ⟨p1, p2, p0, p3, p4, p5⟩ := hP
    simp only at p1 p0 p3 p4
    subst p1
    have hok := cmN_ok K w x hN hd i
    have hFi := okT_setP hF (x := x) hok.1 hok.2
    have e0 : (setP A x (cmN K w x (A.1 x) (A.2.1 x) i)).1 x = (cmN K w x (A.1 x) (A.2.1 x) i).1 := if_pos rfl
    have e1 : (setP A x (cmN K w x (A.1 x) (A.2.1 x) i)).2.1 x = (cmN K w x (A.1 x) (A.2.1 x) i).2 := if_pos rfl
    unfold f171_becomes_b1
    simp only
    by_cases hy1 : (cmN K w x (A.1 x) (A.2.1 x) i).1 = A.1 y
    · rw [if_pos hy1] at p0
      rw [p0, if_neg (by decide)]
      refine Or.inr ⟨_, rfl, ⟨nI i, if_neg (show ¬ (1:Int32) = 0 by decide), Or.inl ⟨i, p2, hy1, p5, rfl⟩⟩, p4⟩
    rw [if_neg hy1] at p0
    rw [p0, if_pos rfl, lenOf_ok hn p3 hx, e0]
    simp only [bs]
    by_cases he : (cmN K w x (A.1 x) (A.2.1 x) i).1 = []
    · rw [he, if_pos (show nI [].length ≤ (0:Int32) by decide)]
      refine Or.inr ⟨_, rfl, ⟨-9, if_pos rfl, Or.inr ⟨fun k hk q => ?_, rfl⟩⟩, p4⟩
      rcases Nat.lt_or_ge k i with c1 | c1
      · exact p5 k c1 q
      · have := cmN_nil K w x he k c1
        exact hy1 (by rw [he, ← q, this])
    · have hi12 : i < 12 := by
        rcases Nat.lt_or_ge i 12 with q | q
        · exact q
        · obtain rfl : i = 12 := by omega
          exact absurd (cmN_12 K w x hN hd) he
      have h6 := hok.1.1
      rw [if_neg (nI_nle (List.length_pos_iff.mpr he) (by omega))]
      obtain ⟨V, v1, v2, v3⟩ := comeMR hFi p3 hx hw (by rw [p4 94 (by decide), k3 94 (by decide)]; exact hwM)
      rw [v1]
      simp only [bs]
      rw [setP_setP, e0, e1] at v2
      have hok' := cmN_ok K w x hN hd (i + 1)
      rw [isLike_ok (okT_setP hF (x := x) hok'.1 hok'.2) v2 hx hy]
      simp only [bs]
      refine Or.inl ⟨hi12, _, rfl, by rw [nI_1], by omega, ?_, v2, fun c hc => by rw [← p4 c hc]; exact v3 c hc, fun m hm => ?_⟩
      · have q1 : (setP A x (cmN K w x (A.1 x) (A.2.1 x) (i + 1))).1 x = (cmN K w x (A.1 x) (A.2.1 x) (i + 1)).1 := if_pos rfl
        have q2 : (setP A x (cmN K w x (A.1 x) (A.2.1 x) (i + 1))).1 y = A.1 y := if_neg (Ne.symm hxy)
        show (if (setP A x (cmN K w x (A.1 x) (A.2.1 x) (i + 1))).1 x = (setP A x (cmN K w x (A.1 x) (A.2.1 x) (i + 1))).1 y then (1:Int32) else 0) = _
        rw [q1, q2]
      · by_cases em : m = i
        · subst em; exact hy1
        · exact p5 m (by omega)) ((0:Int32), (if A.1 x = A.1 y then 1 else 0), T1) ⟨rfl, by omega, rfl, by
      show MR T1 n K (setP A x (A.1 x, A.2.1 x))
      rw [setP_same]; exact hM1, fun c hc => rfl, fun m hm => by omega⟩
  rw [g1]
  obtain ⟨v, z, U⟩ := e
  obtain ⟨⟨r', q0, q1⟩, q2⟩ := g2
  simp only at q0 q1 q2
  simp only [bs]
  obtain ⟨T2, l1, l2, l3⟩ := comeBack_ok U
  rw [l1]
  simp only [bs]
  rw [q0, q1.eq t2]
  refine ⟨r, s, T2, rfl, rfl, h.aside (fun _ _ => rfl) (fun c hc => ?_) (fun i hi => ?_) (fun j hj => ?_)⟩
  · rw [l3 c (by omega), q2 c (by omega), k3 c (by omega)]
  · rw [l2 i hi, q2 110 (by decide), k2 i hi]
  · rw [l3 94 (by decide), q2 94 (by decide), k3 94 (by decide)]
