/-! ORDER, CALLERS: the fewest mistakes -/
def bR (o : Option Nat) (z : Nat) (s : pv_F) (T : pv_T) : Prop := match o with
  | none => s 40 6 = 1000 ∧ T.1 94 30 = 1048576
  | some f => f ≤ 999 ∧ s 40 6 = nI f ∧ T.1 94 30 = nI f ∧ ∀ j, j < z → s 43 j = T.1 114 j
def olt (m : Nat) (o : Option Nat) : Prop := match o with
  | none => True
  | some f => m < f
theorem bR.frame {o : Option Nat} {z : Nat} {s s' : pv_F} {T T' : pv_T} (h : bR o z s T) (h1 : s' 40 = s 40) (h2 : s' 43 = s 43) (h3 : T'.1 94 = T.1 94) (h4 : T'.1 114 = T.1 114) : bR o z s' T' := by
  unfold bR at h ⊢
  rw [h1, h2, h3, h4]
  exact h
/-- the class's test whether to go on -/
theorem bR.test {o : Option Nat} {z m : Nat} {s : pv_F} {T : pv_T} (h : bR o z s T) (hm : m ≤ 999) : (¬ s 40 6 ≤ nI m ∧ olt m o) ∨ (s 40 6 ≤ nI m ∧ ∃ f, f ≤ m ∧ T.1 94 30 = nI f) := by
  match o, h with
  | none, h =>
    refine Or.inl ⟨?_, True.intro⟩
    rw [h.1]
    exact nI_ge (b := 1000) (by omega) (by omega)
  | some f, h =>
    obtain ⟨h1, h2, h3, h4⟩ := h
    by_cases e : f ≤ m
    · exact Or.inr ⟨by rw [h2]; exact nI_le e (by omega), f, e, h3⟩
    · exact Or.inl ⟨by rw [h2]; exact nI_ge (by omega) (by omega), by show m < f; omega⟩
/-- the model's own side of a level -/
def oLm (n w a0 : Nat) (K : Nat → Nat) (k m : Nat) (A : TS) (T : pv_T) : Prop := okT n K A ∧ MR T n K A ∧ T.1 94 9 = nI w ∧ T.1 94 31 = nI a0 ∧ misN A n = a0 + m ∧ m ≤ 7 * k
def oLv (n w a0 : Nat) (K : Nat → Nat) (k m : Nat) (A : TS) (s : pv_F) (T : pv_T) : Prop := oLm n w a0 K k m A T ∧ FC s (45 + 4 * k) n K A.1 A.2.1 ∧ s 40 4 = nI w ∧ ∀ j, j < k → s 42 j = T.1 113 j
def iKeep (k : Nat) (T T' : pv_T) : Prop := (∀ c, c ≠ 105 → c ≠ 112 → c ≠ 113 → T'.1 c = T.1 c) ∧ (∀ j, j < 78 * k → T'.1 112 j = T.1 112 j) ∧ (∀ j, j < k → T'.1 113 j = T.1 113 j) ∧ ∀ i, i < 78 → T'.1 105 i = T.1 105 i
theorem iKeep.keep {k : Nat} {T T' : pv_T} (h : iKeep k T T') (s : pv_F) : sKeep k s s T T' := ⟨⟨fun _ _ _ _ _ _ => rfl, rfl, fun _ _ => rfl⟩, fun c _ c2 c3 c4 _ _ => h.1 c c2 c3 c4, fun j _ _ _ => by rw [h.1 94 (by decide) (by decide) (by decide)], h.2.1, h.2.2.1⟩
theorem oLm.frame {n w a0 : Nat} {K : Nat → Nat} {k m : Nat} {A : TS} {T T' : pv_T} (h : oLm n w a0 K k m A T) (h94 : ∀ j, j = 8 ∨ j = 9 ∨ j = 31 → T'.1 94 j = T.1 94 j) (h1 : T'.1 101 = T.1 101) (h2 : ∀ i, i < 78 → T'.1 105 i = T.1 105 i) : oLm n w a0 K k m A T' := ⟨h.1, h.2.1.same h.1 (h94 8 (by omega)) h1 h2, by rw [h94 9 (by omega)]; exact h.2.2.1, by rw [h94 31 (by omega)]; exact h.2.2.2.1, h.2.2.2.2⟩
theorem meet_idle {n w a0 : Nat} {K : Nat → Nat} {k m f : Nat} {A : TS} {T : pv_T} (h : oLm n w a0 K k m A T) (hk : k ≤ 6) (hf : T.1 94 30 = nI f) (hfm : f ≤ m) (v : Int32) : f187_meetLaid v T = some T := by
  obtain ⟨h1, h2, h3, h4, h5, h6⟩ := h
  unfold f187_meetLaid
  rw [missed_ok h1.1 h2, h4, h5, hf]
  simp only [bs]
  rw [pk_sub (Nat.le_add_right _ _), Nat.add_sub_cancel_left]
  rw [if_pos (nI_le hfm (by omega))]
  rfl
theorem leafSim {n w a0 : Nat} {K : Nat → Nat} {k m : Nat} {A : TS} {s : pv_F} {T : pv_T} {o : Option Nat} (h : oLv n w a0 K k m A s T) (hk : k ≤ 6) (hB : bR o k s T) (hlt : olt m o) : ∃ s' T', f36_takeTrial (nI k) (nI m) s = some s' ∧ f187_meetLaid (nI k) T = some T' ∧ bR (some m) k s' T' ∧ sKeep k s s' T T' ∧ ∀ i, i < 78 → T'.1 105 i = T.1 105 i := by
  obtain ⟨⟨h1, h2, h3, h4, h5, h6⟩, hC, h40, h42⟩ := h
  unfold f36_takeTrial f187_meetLaid
  rw [missed_ok h1.1 h2, h4, h5]
  simp only [bs, pv_pf, pv_pm]
  rw [pk_sub (Nat.le_add_right _ _), Nat.add_sub_cancel_left]
  obtain ⟨s1, a1, a2, a3⟩ := cy_ex (s := pv_up s 40 6 (nI m)) (a := 42) (za := 6) (b := 43) (zb := 6) (n := k) (z := nI k) rfl hk hk (by omega)
  rw [a1]
  have hno : ¬ T.1 94 30 ≤ nI m := by
    match o, hB, hlt with
    | none, hB, _ =>
      rw [hB.2]
      exact nI_ge (b := 1048576) (by omega) (by omega)
    | some f, hB, hlt =>
      rw [hB.2.2.1]
      have h7 : m < f := hlt
      have h8 := hB.1
      exact nI_ge h7 (by omega)
  rw [if_neg hno]
  obtain ⟨e, b1, b2⟩ := lq_inv (B := f187_meetLaid_b1 (nI k)) (P := fun i st => st.1 = nI i ∧ (∀ j, j < i → st.2.1 114 j = T.1 113 j) ∧ ∀ c, c ≠ 114 → st.2.1 c = pv_up T.1 94 30 (nI m) c) (Q := fun st => (∀ j, j < k → st.2.1 114 j = T.1 113 j) ∧ ∀ c, c ≠ 114 → st.2.1 c = pv_up T.1 94 30 (nI m) c) k (fun i st hi hP => by
    obtain ⟨v, U⟩ := st
    obtain ⟨p1, p2, p3⟩ := hP
    simp only at p1 p2 p3
    subst p1
    unfold f187_meetLaid_b1
    simp only
    rw [if_neg (nI_ge hi (by omega)), rd_nI (by omega), p3 113 (by decide), up_ne (by decide)]
    simp only [bs]
    rw [wm_nI (by omega), nI_1]
    simp only [bs]
    refine ⟨_, rfl, rfl, fun j hj => ?_, fun c hc => ?_⟩
    · simp only
      by_cases e : j = i
      · subst e; rw [up_at]
      · rw [up_nj e]; exact p2 j (by omega)
    · simp only
      rw [up_ne hc]; exact p3 c hc) (fun st hP => by
    obtain ⟨v, U⟩ := st
    obtain ⟨p1, p2, p3⟩ := hP
    simp only at p1 p2 p3
    subst p1
    unfold f187_meetLaid_b1
    simp only
    rw [if_pos (nI_le (by omega) (by omega))]
    exact ⟨_, rfl, p2, p3⟩) ((0:Int32), (pv_up T.1 94 30 (nI m), T.2)) ⟨nI_0.symm, fun j hj => by omega, fun c hc => rfl⟩
  rw [b1]
  obtain ⟨v, U⟩ := e
  obtain ⟨b3, b4⟩ := b2
  simp only at b3 b4
  simp only [bs]
  have b94 : ∀ j, j ≠ 30 → U.1 94 j = T.1 94 j := fun j hj => by rw [b4 94 (by decide), up_nj hj]
  have bc : ∀ c, c ≠ 94 → c ≠ 114 → U.1 c = T.1 c := fun c c1 c2 => by rw [b4 c c2, up_ne c1]
  refine ⟨s1, U, rfl, rfl, ⟨by omega, ?_, ?_, fun j hj => ?_⟩, ⟨⟨fun c c1 c2 c3 c4 c5 => ?_, ?_, fun j hj => ?_⟩, fun c c1 c2 c3 c4 c5 c6 => bc c c1 c5, fun j j1 j2 j3 => b94 j j1, fun j hj => by rw [bc 112 (by decide) (by decide)], fun j hj => by rw [bc 113 (by decide) (by decide)]⟩, fun i hi => by rw [bc 105 (by decide) (by decide)]⟩
  · rw [a3 40 (by decide), up_at]
  · rw [b4 94 (by decide), up_at]
  · rw [a2 j hj, up_ne (by decide), b3 j hj]; exact h42 j hj
  · rw [a3 c c3, up_ne c1]
  · rw [a3 40 (by decide), up_nj (by decide)]
  · rw [a3 42 (by decide), up_ne (by decide)]
/-- a branch that the model alone goes through -/
theorem branchIdle {n w a0 : Nat} {K : Nat → Nat} {k m f b x : Nat} {A : TS} {U : pv_T} {v : Int32} {recM : pv_T → Option pv_T} (hk : k < 6) (hw : w ≤ 2) (hb : b < n) (hx : x < n) (hL : oLm n w a0 K k m A U) (hc : canA K A.1 b x = true) (hrec : ∀ U2, oLm n w a0 K (k + 1) (m + (popc (bits (comeB K n A.1 b x) n) - 1)) (callA K n b x w A) U2 → (∀ c, c ≠ 105 → c ≠ 113 → U2.1 c = U.1 c) → ∃ U3, recM U2 = some U3 ∧ iKeep (k + 1) U2 U3) (h112 : ∀ i, i < 78 → U.1 112 (78 * k + i) = U.1 105 i) : ∃ q U2 U3 U4, pv_wm U 113 6 (nI k) v = some (pv_up U.1 113 k v, U.2) ∧ f157_doCall (nI b) (nI x) (pv_up U.1 113 k v, U.2) = some (q, U2) ∧ recM U2 = some U3 ∧ f162_copies 112 ((78:Int32) * nI k) 105 (0:Int32) U3 = some U4 ∧ iKeep k U U4 ∧ ∀ i, i < 78 → U4.1 112 (78 * k + i) = U4.1 105 i := by
  obtain ⟨h1, h2, h3, h4, h5, h6⟩ := hL
  have hp := call_pos (n := n) hx hc
  have hb8 := bits_128 (comeB K n A.1 b x) h1.1
  have hpp := popc_pos hp hb8
  have hpl := popc_le (bits (comeB K n A.1 b x) n)
  have hmis := mis_call (w := w) h1.1 hx hc
  obtain ⟨U2, d1, d2, d3⟩ := doCall_ok (T := (pv_up U.1 113 k v, U.2)) h1 (h2.up (by decide) (by decide) (by omega)) hb hx hc hw (by
    show pv_up U.1 113 k v 94 9 = _
    rw [up_ne (by decide)]; exact h3)
  have hU2 : ∀ c, c ≠ 105 → c ≠ 113 → U2.1 c = U.1 c := fun c e1 e2 => by
    rw [d3 c e1]
    show pv_up U.1 113 k v c = _
    rw [up_ne e2]
  obtain ⟨U3, r1, r2⟩ := hrec U2 ⟨okT_call h1 hb hx hc hw, d2, by rw [hU2 94 (by decide) (by decide)]; exact h3, by rw [hU2 94 (by decide) (by decide)]; exact h4, by omega, by omega⟩ hU2
  obtain ⟨U4, l1, l2, l3⟩ := loadM U3 hk
  have e112 : ∀ i, i < 78 → U3.1 112 (78 * k + i) = U.1 105 i := fun i hi => by
    rw [r2.2.1 (78 * k + i) (by omega), hU2 112 (by decide) (by decide)]; exact h112 i hi
  refine ⟨_, U2, U3, U4, wm_nI (by omega), d1, r1, l1, ⟨fun c c1 c2 c3 => ?_, fun j hj => ?_, fun j hj => ?_, fun i hi => ?_⟩, fun i hi => ?_⟩
  · rw [l3 c c1, r2.1 c c1 c2 c3, hU2 c c1 c3]
  · rw [l3 112 (by decide), r2.2.1 j (by omega), hU2 112 (by decide) (by decide)]
  · rw [l3 113 (by decide), r2.2.2.1 j (by omega), d3 113 (by decide)]
    show pv_up U.1 113 k v 113 j = _
    rw [up_nj (by omega)]
  · rw [l2 i hi]; exact e112 i hi
  · rw [l3 112 (by decide), l2 i hi]
/-- a branch that both go through -/
theorem branchSim {n w a0 z : Nat} {K : Nat → Nat} {k m b x : Nat} {A : TS} {S : pv_F} {U : pv_T} {v : Int32} {o : Option Nat} {recC : pv_F → Option pv_F} {recM : pv_T → Option pv_T} (hk : k < 6) (hw : w ≤ 2) (hb : b < n) (hx : x < n) (hL : oLv n w a0 K k m A S U) (hc : canA K A.1 b x = true) (hB : bR o z S U) (hrec : ∀ S2 U2, oLv n w a0 K (k + 1) (m + (popc (bits (comeB K n A.1 b x) n) - 1)) (callA K n b x w A) S2 U2 → (∀ c, 73 ≤ c → S2 c = S c) → (∀ c, c ≠ 105 → c ≠ 113 → U2.1 c = U.1 c) → bR o z S2 U2 → ∃ S3 U3 o', recC S2 = some S3 ∧ recM U2 = some U3 ∧ bR o' z S3 U3 ∧ sKeep (k + 1) S2 S3 U2 U3) (h112 : ∀ i, i < 78 → U.1 112 (78 * k + i) = U.1 105 i) : ∃ S2 S3 q U2 U3 U4 o', pv_wr S 42 6 (nI k) v = some (pv_up S 42 k v) ∧ f35_goOn (nI k) (nI b) (nI (bits (comeB K n A.1 b x) n)) (pv_up S 42 k v) = some S2 ∧ recC S2 = some S3 ∧ pv_wm U 113 6 (nI k) v = some (pv_up U.1 113 k v, U.2) ∧ f157_doCall (nI b) (nI x) (pv_up U.1 113 k v, U.2) = some (q, U2) ∧ recM U2 = some U3 ∧ f162_copies 112 ((78:Int32) * nI k) 105 (0:Int32) U3 = some U4 ∧ bR o' z S3 U4 ∧ sKeep k S S3 U U4 ∧ (∀ i, i < 78 → U4.1 105 i = U.1 105 i) ∧ ∀ i, i < 78 → U4.1 112 (78 * k + i) = U4.1 105 i := by
  obtain ⟨⟨h1, h2, h3, h4, h5, h6⟩, hC, h40, h42⟩ := hL
  have hp := call_pos (n := n) hx hc
  have hb8 := bits_128 (comeB K n A.1 b x) h1.1
  have hpp := popc_pos hp hb8
  have hpl := popc_le (bits (comeB K n A.1 b x) n)
  have hmis := mis_call (w := w) h1.1 hx hc
  obtain ⟨S2, c1, c2, c3⟩ := goOn_ok (s := pv_up S 42 k v) (x := x) (w := w) hk h1 (hC.frame (fun c hc => up_ne (by omega))) (by rw [up_ne (by decide)]; exact h40) hb hw
  have hS2 : ∀ c, c ≠ 42 → (c < 49 + 4 * k ∨ 52 + 4 * k < c) → S2 c = S c := fun c e1 e2 => by rw [c3 c e2, up_ne e1]
  obtain ⟨U2, d1, d2, d3⟩ := doCall_ok (T := (pv_up U.1 113 k v, U.2)) h1 (h2.up (by decide) (by decide) (by omega)) hb hx hc hw (by
    show pv_up U.1 113 k v 94 9 = _
    rw [up_ne (by decide)]; exact h3)
  have hU2 : ∀ c, c ≠ 105 → c ≠ 113 → U2.1 c = U.1 c := fun c e1 e2 => by
    rw [d3 c e1]
    show pv_up U.1 113 k v c = _
    rw [up_ne e2]
  obtain ⟨S3, U3, o', r1, r2, r3, r4⟩ := hrec S2 U2 ⟨⟨okT_call h1 hb hx hc hw, d2, by rw [hU2 94 (by decide) (by decide)]; exact h3, by rw [hU2 94 (by decide) (by decide)]; exact h4, by omega, by omega⟩, c2, by rw [hS2 40 (by omega) (by omega)]; exact h40, fun j hj => by
    rw [c3 42 (by omega), d3 113 (by decide)]
    show pv_up S 42 k v 42 j = pv_up U.1 113 k v 113 j
    by_cases ej : j = k
    · subst ej; rw [up_at, up_at]
    · rw [up_nj ej, up_nj ej]; exact h42 j (by omega)⟩ (fun c hc => hS2 c (by omega) (by omega)) hU2 (hB.frame (hS2 40 (by omega) (by omega)) (hS2 43 (by omega) (by omega)) (hU2 94 (by decide) (by decide)) (hU2 114 (by decide) (by decide)))
  obtain ⟨U4, l1, l2, l3⟩ := loadM U3 hk
  have e112 : ∀ i, i < 78 → U3.1 112 (78 * k + i) = U.1 105 i := fun i hi => by
    rw [r4.2.2.2.1 (78 * k + i) (by omega), hU2 112 (by decide) (by decide)]; exact h112 i hi
  refine ⟨S2, S3, _, U2, U3, U4, o', wr_nI (by omega), c1, r1, wm_nI (by omega), d1, r2, l1, r3.frame rfl rfl (l3 94 (by decide)) (l3 114 (by decide)), branchKeep hk c3 (fun c hc => d3 c hc) r4 l3, fun i hi => ?_, fun i hi => ?_⟩
  · rw [l2 i hi]; exact e112 i hi
  · rw [l3 112 (by decide), l2 i hi]
