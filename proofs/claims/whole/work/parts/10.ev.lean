/-! runs of the pure machine, and its memory once both objects are made -/
def pv_Ev (xs : Nat → Int32) (L d y : Nat) (t : pv_St) (r : Option Value × pv_M) : Prop := ∃ f, pv_run xs L f d y t = some r
section EV
variable {xs : Nat → Int32} {L d y k n pc pc' len i j ci a b z : Nat} {lv : pv_Lv} {st rs : List Value} {M M1 : pv_M} {t t' : pv_St} {r : Option Value × pv_M} {ins : Instr} {v : Option Value} {as : List Value}
theorem pv_Ev.next (h : pv_one xs L d y k n pc lv st M = some (.inl t)) (kk : pv_Ev xs L d y t r) : pv_Ev xs L d y (k, n, pc, lv, st, M) r := by
  obtain ⟨f, hf⟩ := kk
  exact ⟨f + 1, by unfold pv_run; rw [h]; exact hf⟩
theorem pv_Ev.ret (h : pv_one xs L d y k n pc lv st M = some (.inr (.inr v))) : pv_Ev xs L d y (k, n, pc, lv, st, M) (v, M) := ⟨1, by unfold pv_run; rw [h]⟩
theorem pv_Ev.call (h : pv_one xs L (d + 1) y k n pc lv st M = some (.inr (.inl (z, as, rs)))) (hz : pv_Ev xs L d z (0, 0, 0, pv_en z as, [], M) (v, M1)) (kk : pv_Ev xs L (d + 1) y (k + pv_mc z, n + pv_ms z, pc + 3, lv, v.toList ++ rs, M1) r) : pv_Ev xs L (d + 1) y (k, n, pc, lv, st, M) r := by
  obtain ⟨f1, h1⟩ := hz
  obtain ⟨f2, h2⟩ := kk
  refine ⟨max f1 f2 + 1, ?_⟩
  unfold pv_run
  rw [h]
  dsimp only
  rw [pv_run_mono xs L f1 (max f1 f2) d z _ _ (Nat.le_max_left _ _) h1]
  exact pv_run_mono xs L f2 (max f1 f2) _ y _ _ (Nat.le_max_right _ _) h2
/-- loads, stores, arithmetic, branches -/
def pv_b1 (ins : Instr) (o k n pc : Nat) (lv : pv_Lv) (st : List Value) (M : pv_M) : Option pv_St := match pv_ld ins o k n pc lv st M with
  | some s => some s
  | none => match pv_so ins k n pc lv st M with
    | some s => some s
    | none => match pv_al ins k n pc lv st M with
      | some s => some s
      | none => pv_br ins k n pc lv st M
theorem pv_one_b1 (hd : decode (pv_by y) pc = .ok (ins, len)) (hln : pv_ln ins len = len) (h : pv_b1 ins (pv_oc y) k n pc lv st M = some t) : pv_one xs L d y k n pc lv st M = some (.inl t) := by
  unfold pv_one
  rw [hd]
  dsimp only
  rw [if_pos hln]
  unfold pv_b1 at h
  split at h
  · next h1 => cases h; rw [h1]
  · next h1 =>
    rw [h1]
    split at h
    · next h2 => cases h; rw [h2]
    · next h2 =>
      rw [h2]
      split at h
      · next h3 => cases h; rw [h3]
      · next h3 => rw [h3, h]
def pv_dk (y : Nat) (ps : List (Nat × Instr × Nat)) : Bool := ps.all fun q => decide (decode (pv_by y) q.1 = .ok (q.2.1, q.2.2)) && decide (pv_ln q.2.1 q.2.2 = q.2.2)
def pv_bk (o : Nat) : List (Nat × Instr × Nat) → pv_St → Option pv_St
  | [], t => some t
  | (p, i, _) :: r, (k, n, pc, lv, st, M) => if p = pc then (pv_b1 i o k n pc lv st M).bind (pv_bk o r) else none
theorem pv_e_bk : ∀ {ps : List (Nat × Instr × Nat)} {t t' : pv_St}, pv_dk y ps = true → pv_bk (pv_oc y) ps t = some t' → pv_Ev xs L d y t' r → pv_Ev xs L d y t r := by
  intro ps
  induction ps with
  | nil => intro t t' _ h kk; cases h; exact kk
  | cons q ps ih =>
    intro t t' hd h kk
    obtain ⟨p, i, len⟩ := q
    obtain ⟨k, n, pc, lv, st, M⟩ := t
    unfold pv_dk at hd
    rw [List.all_cons, Bool.and_eq_true] at hd
    obtain ⟨h1, h2⟩ := hd
    rw [Bool.and_eq_true] at h1
    unfold pv_bk at h
    split at h
    · next hp =>
      subst hp
      obtain ⟨t1, h3, h4⟩ := Option.bind_eq_some_iff.mp h
      exact pv_Ev.next (pv_one_b1 (of_decide_eq_true h1.1) (of_decide_eq_true h1.2) h3) (ih h2 h4 kk)
    · cases h
/-- branches -/
theorem pv_e_ifeq {x : Int32} {off : Int} (hd : pv_dk y [(pc, .ifCond .eq off, 3)] = true) (ht : pv_tg pc off = some b) (hp : pc + 3 = pc') (h1 : x = 0 → pv_Ev xs L d y (k, n, b, lv, st, M) r) (h2 : ¬ x = 0 → pv_Ev xs L d y (k, n, pc', lv, st, M) r) : pv_Ev xs L d y (k, n, pc, lv, .int x :: st, M) r := by
  subst hp
  by_cases hc : x = 0
  · exact pv_e_bk hd (by simp [pv_bk, pv_b1, pv_ld, pv_so, pv_al, pv_ax, pv_br, pv_bx, ht, hc]) (h1 hc)
  · exact pv_e_bk hd (by simp [pv_bk, pv_b1, pv_ld, pv_so, pv_al, pv_ax, pv_br, pv_bx, ht, hc]) (h2 hc)
theorem pv_e_ifne {x : Int32} {off : Int} (hd : pv_dk y [(pc, .ifCond .ne off, 3)] = true) (ht : pv_tg pc off = some b) (hp : pc + 3 = pc') (h1 : x = 0 → pv_Ev xs L d y (k, n, pc', lv, st, M) r) (h2 : ¬ x = 0 → pv_Ev xs L d y (k, n, b, lv, st, M) r) : pv_Ev xs L d y (k, n, pc, lv, .int x :: st, M) r := by
  subst hp
  by_cases hc : x = 0
  · exact pv_e_bk hd (by simp [pv_bk, pv_b1, pv_ld, pv_so, pv_al, pv_ax, pv_br, pv_bx, ht, hc]) (h1 hc)
  · exact pv_e_bk hd (by simp [pv_bk, pv_b1, pv_ld, pv_so, pv_al, pv_ax, pv_br, pv_bx, ht, hc]) (h2 hc)
theorem pv_e_iflt {x : Int32} {off : Int} (hd : pv_dk y [(pc, .ifCond .lt off, 3)] = true) (ht : pv_tg pc off = some b) (hp : pc + 3 = pc') (h1 : x < 0 → pv_Ev xs L d y (k, n, b, lv, st, M) r) (h2 : ¬ x < 0 → pv_Ev xs L d y (k, n, pc', lv, st, M) r) : pv_Ev xs L d y (k, n, pc, lv, .int x :: st, M) r := by
  subst hp
  by_cases hc : x < 0
  · exact pv_e_bk hd (by simp [pv_bk, pv_b1, pv_ld, pv_so, pv_al, pv_ax, pv_br, pv_bx, ht, hc]) (h1 hc)
  · exact pv_e_bk hd (by simp only [pv_bk, pv_b1, pv_ld, pv_so, pv_al, pv_ax, pv_br, pv_bx, ht, hc]; simp) (h2 hc)
theorem pv_e_ifge {x : Int32} {off : Int} (hd : pv_dk y [(pc, .ifCond .ge off, 3)] = true) (ht : pv_tg pc off = some b) (hp : pc + 3 = pc') (h1 : 0 ≤ x → pv_Ev xs L d y (k, n, b, lv, st, M) r) (h2 : ¬ 0 ≤ x → pv_Ev xs L d y (k, n, pc', lv, st, M) r) : pv_Ev xs L d y (k, n, pc, lv, .int x :: st, M) r := by
  subst hp
  by_cases hc : 0 ≤ x
  · exact pv_e_bk hd (by simp [pv_bk, pv_b1, pv_ld, pv_so, pv_al, pv_ax, pv_br, pv_bx, ht, hc]) (h1 hc)
  · exact pv_e_bk hd (by simp only [pv_bk, pv_b1, pv_ld, pv_so, pv_al, pv_ax, pv_br, pv_bx, ht, hc]; simp) (h2 hc)
theorem pv_e_ifgt {x : Int32} {off : Int} (hd : pv_dk y [(pc, .ifCond .gt off, 3)] = true) (ht : pv_tg pc off = some b) (hp : pc + 3 = pc') (h1 : 0 < x → pv_Ev xs L d y (k, n, b, lv, st, M) r) (h2 : ¬ 0 < x → pv_Ev xs L d y (k, n, pc', lv, st, M) r) : pv_Ev xs L d y (k, n, pc, lv, .int x :: st, M) r := by
  subst hp
  by_cases hc : 0 < x
  · exact pv_e_bk hd (by simp [pv_bk, pv_b1, pv_ld, pv_so, pv_al, pv_ax, pv_br, pv_bx, ht, hc]) (h1 hc)
  · exact pv_e_bk hd (by simp only [pv_bk, pv_b1, pv_ld, pv_so, pv_al, pv_ax, pv_br, pv_bx, ht, hc]; simp) (h2 hc)
theorem pv_e_ifle {x : Int32} {off : Int} (hd : pv_dk y [(pc, .ifCond .le off, 3)] = true) (ht : pv_tg pc off = some b) (hp : pc + 3 = pc') (h1 : x ≤ 0 → pv_Ev xs L d y (k, n, b, lv, st, M) r) (h2 : ¬ x ≤ 0 → pv_Ev xs L d y (k, n, pc', lv, st, M) r) : pv_Ev xs L d y (k, n, pc, lv, .int x :: st, M) r := by
  subst hp
  by_cases hc : x ≤ 0
  · exact pv_e_bk hd (by simp [pv_bk, pv_b1, pv_ld, pv_so, pv_al, pv_ax, pv_br, pv_bx, ht, hc]) (h1 hc)
  · exact pv_e_bk hd (by simp only [pv_bk, pv_b1, pv_ld, pv_so, pv_al, pv_ax, pv_br, pv_bx, ht, hc]; simp) (h2 hc)
theorem pv_e_icmpeq {x q : Int32} {off : Int} (hd : pv_dk y [(pc, .if_icmp .eq off, 3)] = true) (ht : pv_tg pc off = some b) (hp : pc + 3 = pc') (h1 : x = q → pv_Ev xs L d y (k, n, b, lv, st, M) r) (h2 : ¬ x = q → pv_Ev xs L d y (k, n, pc', lv, st, M) r) : pv_Ev xs L d y (k, n, pc, lv, .int q :: .int x :: st, M) r := by
  subst hp
  by_cases hc : x = q
  · exact pv_e_bk hd (by simp [pv_bk, pv_b1, pv_ld, pv_so, pv_al, pv_ax, pv_br, pv_bx, ht, hc]) (h1 hc)
  · exact pv_e_bk hd (by simp [pv_bk, pv_b1, pv_ld, pv_so, pv_al, pv_ax, pv_br, pv_bx, ht, hc]) (h2 hc)
theorem pv_e_icmpne {x q : Int32} {off : Int} (hd : pv_dk y [(pc, .if_icmp .ne off, 3)] = true) (ht : pv_tg pc off = some b) (hp : pc + 3 = pc') (h1 : x = q → pv_Ev xs L d y (k, n, pc', lv, st, M) r) (h2 : ¬ x = q → pv_Ev xs L d y (k, n, b, lv, st, M) r) : pv_Ev xs L d y (k, n, pc, lv, .int q :: .int x :: st, M) r := by
  subst hp
  by_cases hc : x = q
  · exact pv_e_bk hd (by simp [pv_bk, pv_b1, pv_ld, pv_so, pv_al, pv_ax, pv_br, pv_bx, ht, hc]) (h1 hc)
  · exact pv_e_bk hd (by simp [pv_bk, pv_b1, pv_ld, pv_so, pv_al, pv_ax, pv_br, pv_bx, ht, hc]) (h2 hc)
theorem pv_e_icmplt {x q : Int32} {off : Int} (hd : pv_dk y [(pc, .if_icmp .lt off, 3)] = true) (ht : pv_tg pc off = some b) (hp : pc + 3 = pc') (h1 : x < q → pv_Ev xs L d y (k, n, b, lv, st, M) r) (h2 : ¬ x < q → pv_Ev xs L d y (k, n, pc', lv, st, M) r) : pv_Ev xs L d y (k, n, pc, lv, .int q :: .int x :: st, M) r := by
  subst hp
  by_cases hc : x < q
  · exact pv_e_bk hd (by simp [pv_bk, pv_b1, pv_ld, pv_so, pv_al, pv_ax, pv_br, pv_bx, ht, hc]) (h1 hc)
  · exact pv_e_bk hd (by simp only [pv_bk, pv_b1, pv_ld, pv_so, pv_al, pv_ax, pv_br, pv_bx, ht, hc]; simp) (h2 hc)
theorem pv_e_icmpge {x q : Int32} {off : Int} (hd : pv_dk y [(pc, .if_icmp .ge off, 3)] = true) (ht : pv_tg pc off = some b) (hp : pc + 3 = pc') (h1 : q ≤ x → pv_Ev xs L d y (k, n, b, lv, st, M) r) (h2 : ¬ q ≤ x → pv_Ev xs L d y (k, n, pc', lv, st, M) r) : pv_Ev xs L d y (k, n, pc, lv, .int q :: .int x :: st, M) r := by
  subst hp
  by_cases hc : q ≤ x
  · exact pv_e_bk hd (by simp [pv_bk, pv_b1, pv_ld, pv_so, pv_al, pv_ax, pv_br, pv_bx, ht, hc]) (h1 hc)
  · exact pv_e_bk hd (by simp only [pv_bk, pv_b1, pv_ld, pv_so, pv_al, pv_ax, pv_br, pv_bx, ht, hc]; simp) (h2 hc)
theorem pv_e_icmpgt {x q : Int32} {off : Int} (hd : pv_dk y [(pc, .if_icmp .gt off, 3)] = true) (ht : pv_tg pc off = some b) (hp : pc + 3 = pc') (h1 : q < x → pv_Ev xs L d y (k, n, b, lv, st, M) r) (h2 : ¬ q < x → pv_Ev xs L d y (k, n, pc', lv, st, M) r) : pv_Ev xs L d y (k, n, pc, lv, .int q :: .int x :: st, M) r := by
  subst hp
  by_cases hc : q < x
  · exact pv_e_bk hd (by simp [pv_bk, pv_b1, pv_ld, pv_so, pv_al, pv_ax, pv_br, pv_bx, ht, hc]) (h1 hc)
  · exact pv_e_bk hd (by simp only [pv_bk, pv_b1, pv_ld, pv_so, pv_al, pv_ax, pv_br, pv_bx, ht, hc]; simp) (h2 hc)
theorem pv_e_icmple {x q : Int32} {off : Int} (hd : pv_dk y [(pc, .if_icmp .le off, 3)] = true) (ht : pv_tg pc off = some b) (hp : pc + 3 = pc') (h1 : x ≤ q → pv_Ev xs L d y (k, n, b, lv, st, M) r) (h2 : ¬ x ≤ q → pv_Ev xs L d y (k, n, pc', lv, st, M) r) : pv_Ev xs L d y (k, n, pc, lv, .int q :: .int x :: st, M) r := by
  subst hp
  by_cases hc : x ≤ q
  · exact pv_e_bk hd (by simp [pv_bk, pv_b1, pv_ld, pv_so, pv_al, pv_ax, pv_br, pv_bx, ht, hc]) (h1 hc)
  · exact pv_e_bk hd (by simp only [pv_bk, pv_b1, pv_ld, pv_so, pv_al, pv_ax, pv_br, pv_bx, ht, hc]; simp) (h2 hc)
theorem pv_e_swin {x : Int32} {dflt lo hi off : Int} {offs : Array Int} (hd : pv_dk y [(pc, .tableswitch dflt lo hi offs, len)] = true) (hx : ¬ (x.toInt < lo ∨ hi < x.toInt)) (ho : offs[(x.toInt - lo).toNat]? = some off) (ht : pv_tg pc off = some b) (kk : pv_Ev xs L d y (k, n, b, lv, st, M) r) : pv_Ev xs L d y (k, n, pc, lv, .int x :: st, M) r :=
  pv_e_bk hd (by simp [pv_bk, pv_b1, pv_ld, pv_so, pv_al, pv_ax, pv_br, pv_bx, ht, hx, ho]) kk
theorem pv_e_swout {x : Int32} {dflt lo hi : Int} {offs : Array Int} (hd : pv_dk y [(pc, .tableswitch dflt lo hi offs, len)] = true) (hx : x.toInt < lo ∨ hi < x.toInt) (ht : pv_tg pc dflt = some b) (kk : pv_Ev xs L d y (k, n, b, lv, st, M) r) : pv_Ev xs L d y (k, n, pc, lv, .int x :: st, M) r :=
  pv_e_bk hd (by simp [pv_bk, pv_b1, pv_ld, pv_so, pv_al, pv_ax, pv_br, pv_bx, ht, hx]) kk
end EV
