/-! DIGEST -/
def itL (F : Nat → Int64 → Int64) (a : Int64) : Nat → Int64
  | 0 => a
  | n + 1 => F n (itL F a n)
theorem itL_congr {F G : Nat → Int64 → Int64} {a : Int64} {n : Nat} (h : ∀ k b, k < n → F k b = G k b) : itL F a n = itL G a n := by
  induction n with
  | zero => rfl
  | succ n ih =>
    unfold itL
    rw [ih (fun k b hk => h k b (by omega)), h n _ (by omega)]
theorem itC {B : Int64 × Int32 → Option ((Int64 × Int32) ⊕ (Int64 × Int32))} (F : Nat → Int64 → Int64) {n : Nat} (hn : n < 20000) (hs : ∀ k a, k < n → B (a, nI k) = some (.inl (F k a, nI (k + 1)))) (he : ∀ a, B (a, nI n) = some (.inr (a, nI n))) (a : Int64) : pv_lq B 20000 (a, (0:Int32)) = some (itL F a n, nI n) := by
  obtain ⟨e, h1, h2⟩ := lq_inv (B := B) (P := fun i st => st = (itL F a i, nI i)) (Q := fun e => e = (itL F a n, nI n)) n (fun i st hi hP => by
    subst hP
    exact ⟨_, hs i _ hi, rfl⟩) (fun st hP => by
    subst hP
    exact ⟨_, he _, rfl⟩) (a, (0:Int32)) rfl
  rw [h1, h2]
theorem itM {B : Int32 × pv_T → Option ((Int32 × pv_T) ⊕ (Int32 × pv_T))} (F : Nat → Int64 → Int64) {f : pv_F} {n : Nat} (hn : n < 20000) (hs : ∀ k a, k < n → B (nI k, (f, a)) = some (.inl (nI (k + 1), (f, F k a)))) (he : ∀ a, B (nI n, (f, a)) = some (.inr (nI n, (f, a)))) (a : Int64) : pv_lq B 20000 ((0:Int32), (f, a)) = some (nI n, (f, itL F a n)) := by
  obtain ⟨e, h1, h2⟩ := lq_inv (B := B) (P := fun i st => st = (nI i, (f, itL F a i))) (Q := fun e => e = (nI n, (f, itL F a n))) n (fun i st hi hP => by
    subst hP
    exact ⟨_, hs i _ hi, rfl⟩) (fun st hP => by
    subst hP
    exact ⟨_, he _, rfl⟩) ((0:Int32), (f, a)) rfl
  rw [h1, h2]
def mx (a : Int64) (v : Int32) : Int64 := (31:Int64) * a + v.toInt64
theorem mix_ok (v : Int32) (f : pv_F) (a : Int64) : f213_mix v (f, a) = some (f, mx a v) := rfl
theorem Inv.at2 {s : pv_F} {T : pv_T} (h : Inv s T) (a : Int64) : Inv s (T.1, a) := h
theorem run_due (K : Nat → Nat) (n y : Nat) (hy : K y ≠ 4) : ∀ (ds : List Deed) (A : TS), A.2.1 y = 0 → (runA K n A ds).2.1 y = 0
  | [], A, h => h
  | d :: ds, A, h => by
    refine run_due K n y hy ds (stepA K n A d) ?_
    unfold stepA
    split
    · unfold callA
      simp only
      split
      · unfold comeOne
        rw [if_neg (fun q => hy q.1)]
      · exact h
    · exact h
theorem fact_ok {s : pv_F} {T : pv_T} {n : Nat} {K : Nat → Nat} {A : TS} (hF : okT n K A) (hC : FC s 8 n K A.1 A.2.1) (hM : MR T n K A) (hR : CRep s n A) {x k : Nat} (hx : x < n) (hk : k < 5) : ∃ v, f49_fact (nI x) (nI k) s = some v ∧ f146_personOf (nI x) (nI k) T = some v := by
  have hn := hF.1
  have hm := hM.2.2.1 x hx
  have hr := hR.1 x hx
  unfold f49_fact f146_personOf
  match k, hk with
  | 0, _ =>
    rw [if_pos (show nI 0 = (0:Int32) by decide), if_pos (show nI 0 = (0:Int32) by decide), rd_nI (by omega), rd_nI (by omega), (hC.2 x hx).1, hM.2.1 x hx]
    exact ⟨_, rfl, rfl⟩
  | 1, _ =>
    rw [if_neg (show ¬ nI 1 = (0:Int32) by decide), if_neg (show ¬ nI 1 = (0:Int32) by decide), if_pos (show nI 1 = (1:Int32) by decide), if_pos (show nI 1 = (1:Int32) by decide), rd_nI (by omega), hr.1, lenOf_ok hn hM hx]
    simp only [bs]
    rw [size_ok (hF.2 x hx).2.1]
    exact ⟨_, rfl, rfl⟩
  | 2, _ =>
    rw [if_neg (show ¬ nI 2 = (0:Int32) by decide), if_neg (show ¬ nI 2 = (0:Int32) by decide), if_neg (show ¬ nI 2 = (1:Int32) by decide), if_neg (show ¬ nI 2 = (1:Int32) by decide), if_pos (show nI 2 = (2:Int32) by decide), if_pos (show nI 2 = (2:Int32) by decide), rd_nI (by omega), hr.2.2.1, nI56, rd_nI (by omega), ← Nat.zero_add (56 + x), hm.2.2.2.1]
    exact ⟨_, rfl, rfl⟩
  | 3, _ =>
    rw [if_neg (show ¬ nI 3 = (0:Int32) by decide), if_neg (show ¬ nI 3 = (0:Int32) by decide), if_neg (show ¬ nI 3 = (1:Int32) by decide), if_neg (show ¬ nI 3 = (1:Int32) by decide), if_neg (show ¬ nI 3 = (2:Int32) by decide), if_neg (show ¬ nI 3 = (2:Int32) by decide), if_pos (show nI 3 = (3:Int32) by decide), if_pos (show nI 3 = (3:Int32) by decide), rd_nI (by omega), hr.2.2.2.1, nI63, rd_nI (by omega), ← Nat.zero_add (63 + x), hm.2.2.2.2.1]
    exact ⟨_, rfl, rfl⟩
  | 4, _ =>
    rw [if_neg (show ¬ nI 4 = (0:Int32) by decide), if_neg (show ¬ nI 4 = (0:Int32) by decide), if_neg (show ¬ nI 4 = (1:Int32) by decide), if_neg (show ¬ nI 4 = (1:Int32) by decide), if_neg (show ¬ nI 4 = (2:Int32) by decide), if_neg (show ¬ nI 4 = (2:Int32) by decide), if_neg (show ¬ nI 4 = (3:Int32) by decide), if_neg (show ¬ nI 4 = (3:Int32) by decide), rd_nI (by omega), hr.2.2.2.2, nI70, rd_nI (by omega), ← Nat.zero_add (70 + x), hm.2.2.2.2.2]
    exact ⟨_, rfl, rfl⟩
theorem let_mix {a : Int64} {d : Nat} (h : d ≤ 26) : ((31:Int64) * a + (96:Int64)) + (nI d).toInt64 = mx a (nI (96 + d)) := by
  unfold mx
  rw [nI_l (by omega), nI_l (by omega), ← lN_add, ← Int64.add_assoc]
  rfl
def tnF (c : Nat → Nat → Int32) (A : TS) (x : Nat) (a : Int64) : Int64 := mx (itL (fun i b => mx b (nI (96 + (A.1 x).getD i 0))) (itL (fun k b => mx b (c x k)) a 5) (A.1 x).length) (nI (A.2.1 x))
theorem mixTown_ok {s : pv_F} {f : pv_F} {n : Nat} {K : Nat → Nat} {A : TS} (hF : okT n K A) (hC : FC s 8 n K A.1 A.2.1) (hM : ∀ a, MR (f, a) n K A) (hR : CRep s n A) (hd : ∀ x, K x ≠ 4 → A.2.1 x = 0) (hk : ∀ k, k < 3 → ∃ v : Int32, ((s (21 + 5 * k) 5 = 0 ∧ v = -1 ∧ f 107 k = -9) ∨ (s (21 + 5 * k) 5 = 1 ∧ s (21 + 5 * k) 4 = v ∧ f 107 k = v ∧ ¬ v = -9))) {w p : Int32} (hw : f 94 9 = w) (hp : f 94 10 = p) (a : Int64) : ∃ b, f52_mixedInto (mx (mx a w) p) s = some b ∧ f214_mixTown (f, a) = some (f, b) := by
  have hn := hF.1
  obtain ⟨c, hc⟩ : ∃ c : Nat → Nat → Int32, ∀ x k, x < n → k < 5 → f49_fact (nI x) (nI k) s = some (c x k) ∧ ∀ b, f146_personOf (nI x) (nI k) (f, b) = some (c x k) := by
    refine ⟨fun x k => (f49_fact (nI x) (nI k) s).getD 0, fun x k hx hk => ?_⟩
    obtain ⟨v, h1, -⟩ := fact_ok hF hC (hM 0) hR hx hk
    dsimp only
    rw [h1]
    refine ⟨rfl, fun b => ?_⟩
    obtain ⟨v', h1', h2'⟩ := fact_ok hF hC (hM b) hR hx hk
    rw [h2']
    rw [h1] at h1'
    exact h1'.symm
  obtain ⟨kv, hkv⟩ : ∃ kv : Nat → Int32, ∀ k, k < 3 → ((s (21 + 5 * k) 5 = 0 ∧ kv k = -1 ∧ f 107 k = -9) ∨ (s (21 + 5 * k) 5 = 1 ∧ s (21 + 5 * k) 4 = kv k ∧ f 107 k = kv k ∧ ¬ kv k = -9)) := by
    refine ⟨fun k => if s (21 + 5 * k) 5 = 0 then -1 else f 107 k, fun k h3 => ?_⟩
    obtain ⟨v, ⟨q1, q2, q3⟩ | ⟨q1, q2, q3, q4⟩⟩ := hk k h3
    · exact Or.inl ⟨q1, if_pos q1, q3⟩
    · have q5 : ¬ s (21 + 5 * k) 5 = 0 := by rw [q1]; decide
      exact Or.inr ⟨q1, by dsimp only; rw [if_neg q5, q2, q3], by dsimp only; rw [if_neg q5], by dsimp only; rw [if_neg q5, q3]; exact q4⟩
  unfold f52_mixedInto f214_mixTown
  rw [mix_ok, show (f, a).1 94 9 = w from hw]
  simp only [bs]
  rw [mix_ok, hp]
  simp only [bs]
  have hb1 := itC (B := f52_mixedInto_b1 s) (tnF c A) (n := n) (by omega) (fun x b hx => by
    have hN := (hF.2 x hx).2.1
    have h6 := hN.1
    unfold f52_mixedInto_b1
    simp only
    rw [hC.1, if_neg (nI_ge hx (by omega)), itC (B := f52_mixedInto_b2 (nI x) s) (fun k b => mx b (c x k)) (n := 5) (by omega) (fun k b hk => by
      unfold f52_mixedInto_b2
      simp only
      rw [if_neg (show ¬ (5:Int32) ≤ nI k from nI_ge (b := 5) hk (by omega)), (hc x k hx hk).1, nI_1]
      rfl) (fun b => by
      unfold f52_mixedInto_b2
      simp only
      rw [if_pos (by decide)])]
    simp only [bs]
    rw [itC (B := f52_mixedInto_b3 (nI x) s) (fun i b => mx b (nI (96 + (A.1 x).getD i 0))) (n := (A.1 x).length) (by omega) (fun k b hk => by
      unfold f52_mixedInto_b3
      simp only
      rw [rd_nI (by omega), (hR.1 x hx).1]
      simp only [bs]
      rw [size_ok hN]
      simp only [bs]
      rw [if_neg (nI_ge hk (by omega)), letterAt_ok hN (by omega)]
      simp only [bs]
      rw [let_mix (okN_d hN k).1, nI_1]) (fun b => by
      unfold f52_mixedInto_b3
      simp only
      rw [rd_nI (by omega), (hR.1 x hx).1]
      simp only [bs]
      rw [size_ok hN]
      simp only [bs]
      rw [if_pos (nI_le (by omega) (by omega))])]
    simp only [bs]
    rw [rd_nI (by omega), (hR.1 x hx).2.1, nI_1]
    rfl) (fun b => by
    unfold f52_mixedInto_b1
    simp only
    rw [hC.1, if_pos (nI_le (by omega) (by omega))]) (mx (mx a w) p)
  have hm1 := itM (B := f214_mixTown_b1) (tnF c A) (f := f) (n := n) (by omega) (fun x b hx => by
    have hN := (hF.2 x hx).2.1
    have h6 := hN.1
    have h5 := (hF.2 x hx).1
    unfold f214_mixTown_b1
    simp only
    rw [show f 94 8 = nI n from (hM b).1, if_neg (nI_ge hx (by omega)), itM (B := f214_mixTown_b2 (nI x)) (fun k b => mx b (c x k)) (f := f) (n := 5) (by omega) (fun k b hk => by
      unfold f214_mixTown_b2
      simp only
      rw [if_neg (show ¬ (4:Int32) < nI k from nI_nlt (a := 4) (by omega) (by omega)), (hc x k hx hk).2 b]
      simp only [bs]
      rw [mix_ok]
      simp only [bs]
      rw [nI_1]) (fun b => by
      unfold f214_mixTown_b2
      simp only
      rw [if_pos (by decide)])]
    simp only [bs]
    rw [itM (B := f214_mixTown_b3 (nI x)) (fun i b => mx b (nI (96 + (A.1 x).getD i 0))) (f := f) (n := (A.1 x).length) (by omega) (fun k b hk => by
      unfold f214_mixTown_b3
      simp only
      rw [lenOf_ok hn (hM b) hx]
      simp only [bs]
      rw [if_neg (nI_ge hk (by omega)), letterOf_ok hF (hM b) hx hk]
      simp only [bs]
      rw [mix_ok]
      simp only [bs]
      rw [nI_1]) (fun b => by
      unfold f214_mixTown_b3
      simp only
      rw [lenOf_ok hn (hM b) hx]
      simp only [bs]
      rw [if_pos (nI_le (by omega) (by omega))])]
    simp only [bs]
    rw [rd_nI (by omega), show f 101 x = nI (K x) from (hM 0).2.1 x hx]
    simp only [bs]
    have ht : ((if nI (K x) = (4:Int32) then (pv_rd f 105 78 ((49:Int32) + nI x)).bind fun q30 => some q30 else some (0:Int32)) : Option Int32) = some (nI (A.2.1 x)) := by
      by_cases h4 : K x = 4
      · rw [if_pos (by rw [h4]; decide), nI49, rd_nI (by omega), show f 105 (49 + x) = nI (A.2.1 x) from (hM 0).due hx]
        rfl
      · rw [if_neg (show ¬ nI (K x) = (4:Int32) from fun q => h4 ((nI_eq (by omega) (by omega)).mp (show nI (K x) = nI 4 from q))), hd x h4]
        rfl
    rw [ht]
    simp only [bs]
    rw [mix_ok]
    simp only [bs]
    rw [nI_1]
    rfl) (fun b => by
    unfold f214_mixTown_b1
    simp only
    rw [show f 94 8 = nI n from (hM b).1, if_pos (nI_le (by omega) (by omega))]) (mx (mx a w) p)
  rw [hb1, hm1]
  simp only [bs]
  rw [itC (B := f52_mixedInto_b4 s) (fun k b => mx b (kv k)) (n := 3) (by omega) (fun k b hk => by
    unfold f52_mixedInto_b4
    simp only
    rw [if_neg (show ¬ (3:Int32) ≤ nI k from nI_ge (b := 3) hk (by omega)), ra_k hk]
    simp only [bs]
    rcases hkv k hk with ⟨q1, q2, q3⟩ | ⟨q1, q2, q3, q4⟩
    · rw [q1, if_pos rfl, q2, nI_1]
      rfl
    · rw [q1, if_neg (by decide), q2, nI_1]
      rfl) (fun b => by
    unfold f52_mixedInto_b4
    simp only
    rw [if_pos (by decide)])]
  rw [itM (B := f214_mixTown_b4) (fun k b => mx b (kv k)) (f := f) (n := 3) (by omega) (fun k b hk => by
    unfold f214_mixTown_b4
    simp only
    rw [if_neg (show ¬ (3:Int32) ≤ nI k from nI_ge (b := 3) hk (by omega)), rd_nI hk]
    simp only [bs]
    rcases hkv k hk with ⟨q1, q2, q3⟩ | ⟨q1, q2, q3, q4⟩
    · rw [q3, if_pos rfl, q2]
      simp only [bs]
      rw [mix_ok]
      simp only [bs]
      rw [nI_1]
    · rw [q3, if_neg q4]
      simp only [bs]
      rw [mix_ok]
      simp only [bs]
      rw [nI_1]) (fun b => by
    unfold f214_mixTown_b4
    simp only
    rw [if_pos (by decide)])]
  exact ⟨_, rfl, rfl⟩
theorem mx_m1 (a : Int64) : (31:Int64) * a - (1:Int64) = mx a (-1) := by
  unfold mx
  rw [Int64.sub_eq_add_neg]
  rfl
theorem mixRowC {s : pv_F} {c N n : Nat} {a : Int64} (hN : pv_an (c + 1) = N) (ht : s c 1 = 1) (hz : s c 2 = nI n) (hn : n ≤ N) (hb : N ≤ 1000) : f31_mixedInto c a s = some (itL (fun i b => mx b (s (c + 1) i)) (mx a (nI n)) n) := by
  unfold f31_mixedInto
  rw [ht, if_neg (by decide), hz]
  have := itC (B := f31_mixedInto_b1 c s) (fun i b => mx b (s (c + 1) i)) (n := n) (by omega) (fun k b hk => by
    unfold f31_mixedInto_b1
    simp only
    rw [hz, if_neg (nI_ge hk (by omega)), hN, rd_nI (by omega)]
    simp only [bs]
    rw [nI_1]
    rfl) (fun b => by
    unfold f31_mixedInto_b1
    simp only
    rw [hz, if_pos (nI_le (by omega) (by omega))]) (mx a (nI n))
  unfold mx at this ⊢
  rw [this]
  rfl
theorem op44 : OP44 Inv := by
  intro s T h
  obtain ⟨f, a0⟩ := T
  have h0 : ∀ a, Inv s (f, a) := fun a => h.at2 a
  obtain ⟨cv, hcv⟩ : ∃ cv : Nat → Int32, ∀ k, k ≤ 8 → f95_count (nI k) s = some (cv k) ∧ ∀ a, f209_tells (nI k) (f, a) = some (cv k) := by
    refine ⟨fun k => (f95_count (nI k) s).getD 0, fun k hk => ?_⟩
    obtain ⟨v, h1, -⟩ := cnt_ok (h0 0) hk
    dsimp only
    rw [h1]
    refine ⟨rfl, fun b => ?_⟩
    obtain ⟨v', h1', h2'⟩ := cnt_ok (h0 b) hk
    rw [h2']
    rw [h1] at h1'
    exact h1'.symm
  unfold f98_digest f215_digest
  simp only [pv_plg, bs]
  rw [itC (B := f98_digest_b1 s) (fun k b => mx b (cv k)) (n := 9) (by omega) (fun k b hk => by
    unfold f98_digest_b1
    simp only
    rw [if_neg (show ¬ (9:Int32) ≤ nI k from nI_ge (b := 9) hk (by omega)), (hcv k (by omega)).1, nI_1]
    rfl) (fun b => by
    unfold f98_digest_b1
    simp only
    rw [if_pos (by decide)])]
  rw [itM (B := f215_digest_b1) (fun k b => mx b (cv k)) (f := f) (n := 9) (by omega) (fun k b hk => by
    unfold f215_digest_b1
    simp only
    rw [if_neg (show ¬ (8:Int32) < nI k from nI_nlt (a := 8) (by omega) (by omega)), (hcv k (by omega)).2 b]
    simp only [bs]
    rw [mix_ok]
    simp only [bs]
    rw [nI_1]) (fun b => by
    unfold f215_digest_b1
    simp only
    rw [if_pos (by decide)])]
  simp only [bs]
  generalize itL (fun k b => mx b (cv k)) 17 9 = b1
  have hmix : ∃ b, f52_mixedInto ((31:Int64) * ((31:Int64) * b1 + (s 0 6).toInt64) + (s 0 7).toInt64) s = some b ∧ f214_mixTown (f, b1) = some (f, b) := by
    obtain ⟨n, K, nm, ds, kd, ht⟩ := h.2.2.2
    obtain ⟨hF, hC, hM, hR⟩ := ht.view
    have m3 : f 94 9 = s 0 6 := h.1.2.2.1
    have m4 : f 94 10 = s 0 7 := h.1.2.2.2.1
    exact mixTown_ok hF hC (fun a => hM) hR (fun x hx => run_due K n x hx ds (A_0 nm) rfl) (fun k hk => by
      rcases ht.2.2 k hk with ⟨-, q1, q2⟩ | ⟨d, -, q0, q1, q3, q2, -⟩
      · exact ⟨-1, Or.inl ⟨q1, rfl, q2⟩⟩
      · exact ⟨_, Or.inr ⟨q1, q3.1, q2, nI_len_ne q0.1⟩⟩) m3 m4 b1
  obtain ⟨b2, e1, e2⟩ := hmix
  rw [e1, e2]
  simp only [bs]
  obtain ⟨G, hG⟩ : ∃ G : Nat → Int64 → Int64, ∀ r b, r < 6 → f31_mixedInto (74 + 2 * r) b s = some (G r b) ∧ f215_digest_b2 (nI r, (f, b)) = some (.inl (nI (r + 1), (f, G r b))) := by
    refine ⟨fun r b => (f31_mixedInto (74 + 2 * r) b s).getD 0, fun r b hr => ?_⟩
    have hrow := h.2.1 r hr
    unfold f215_digest_b2
    simp only
    rw [if_neg (show ¬ (6:Int32) ≤ nI r from nI_ge (b := 6) hr (by omega)), rd_nI hr]
    simp only [bs]
    rcases hrow with ⟨q1, q2⟩ | ⟨q1, m, q2, q3, q4, q5⟩
    · have q2' : f 96 r = -9 := q2
      rw [q2', if_neg (by decide)]
      simp only [bs]
      rw [mix_ok]
      simp only [bs]
      rw [itM (B := f215_digest_b3 (nI r)) (fun i b => b) (f := f) (n := 0) (by omega) (fun k b hk => by omega) (fun b => by
        unfold f215_digest_b3
        simp only
        rw [rd_nI hr, q2']
        simp only [bs]
        rw [if_pos (by decide)])]
      have : f31_mixedInto (74 + 2 * r) b s = some (mx b (-1)) := by
        unfold f31_mixedInto
        rw [q1, if_pos rfl, mx_m1]
      rw [this]
      simp only [bs]
      rw [nI_1]
      exact ⟨rfl, rfl⟩
    · have q4' : f 96 r = nI m := q4
      rw [q4', if_pos (nI_pos' (by omega))]
      simp only [bs]
      rw [mix_ok]
      simp only [bs]
      rw [itM (B := f215_digest_b3 (nI r)) (fun i b => mx b (f 97 (40 * r + i))) (f := f) (n := m) (by omega) (fun k b hk => by
        unfold f215_digest_b3
        simp only
        rw [rd_nI hr, q4']
        simp only [bs]
        rw [if_neg (nI_ge hk (by omega))]
        unfold f123_rowAt
        rw [ix40, rd_nI (by omega)]
        simp only [bs]
        rw [mix_ok]
        simp only [bs]
        rw [nI_1]) (fun b => by
        unfold f215_digest_b3
        simp only
        rw [rd_nI hr, q4']
        simp only [bs]
        rw [if_pos (nI_le (by omega) (by omega))])]
      rw [mixRowC (an_r hr) q1 q3 q2 (by omega)]
      simp only [bs]
      rw [nI_1]
      refine ⟨rfl, ?_⟩
      congr 4
      refine itL_congr fun k b hk => ?_
      rw [show 74 + 2 * r + 1 = 75 + 2 * r by omega, q5 k hk]
  rw [itC (B := f98_digest_b2 s) G (n := 6) (by omega) (fun k b hk => by
    unfold f98_digest_b2
    simp only
    rw [if_neg (show ¬ (6:Int32) ≤ nI k from nI_ge (b := 6) hk (by omega)), ra_r hk]
    simp only [bs]
    rw [(hG k b hk).1, nI_1]
    rfl) (fun b => by
    unfold f98_digest_b2
    simp only
    rw [if_pos (by decide)])]
  rw [itM (B := f215_digest_b2) G (f := f) (n := 6) (by omega) (fun k b hk => (hG k b hk).2) (fun b => by
    unfold f215_digest_b2
    simp only
    rw [if_pos (by decide)])]
  simp only [bs]
  generalize itL G b2 6 = b3
  obtain ⟨H, hH⟩ : ∃ H : Nat → Int64 → Int64, ∀ r b, r < 4 → f31_mixedInto (86 + 2 * r) b s = some (H r b) ∧ f215_digest_b4 (nI r, (f, b)) = some (.inl (nI (r + 1), (f, H r b))) := by
    refine ⟨fun r b => (f31_mixedInto (86 + 2 * r) b s).getD 0, fun r b hr => ?_⟩
    have hrow := h.2.2.1 r hr
    unfold f215_digest_b4
    simp only
    rw [if_neg (show ¬ (4:Int32) ≤ nI r from nI_ge (b := 4) hr (by omega)), rd_nI hr]
    simp only [bs]
    rcases hrow with ⟨q1, q2⟩ | ⟨q1, m, q2, q3, q4, q5⟩
    · have q2' : f 99 r = -9 := q2
      rw [q2', if_neg (by decide)]
      simp only [bs]
      rw [mix_ok]
      simp only [bs]
      rw [itM (B := f215_digest_b5 (nI r)) (fun i b => b) (f := f) (n := 0) (by omega) (fun k b hk => by omega) (fun b => by
        unfold f215_digest_b5
        simp only
        rw [rd_nI hr, q2']
        simp only [bs]
        rw [if_pos (by decide)])]
      have : f31_mixedInto (86 + 2 * r) b s = some (mx b (-1)) := by
        unfold f31_mixedInto
        rw [q1, if_pos rfl, mx_m1]
      rw [this]
      simp only [bs]
      rw [nI_1]
      exact ⟨rfl, rfl⟩
    · have q4' : f 99 r = nI m := q4
      rw [q4', if_pos (nI_pos' (by omega))]
      simp only [bs]
      rw [mix_ok]
      simp only [bs]
      rw [itM (B := f215_digest_b5 (nI r)) (fun i b => mx b (f 100 (80 * r + i))) (f := f) (n := m) (by omega) (fun k b hk => by
        unfold f215_digest_b5
        simp only
        rw [rd_nI hr, q4']
        simp only [bs]
        rw [if_neg (nI_ge hk (by omega)), ix80, rd_nI (by omega)]
        simp only [bs]
        rw [mix_ok]
        simp only [bs]
        rw [nI_1]) (fun b => by
        unfold f215_digest_b5
        simp only
        rw [rd_nI hr, q4']
        simp only [bs]
        rw [if_pos (nI_le (by omega) (by omega))])]
      rw [mixRowC (an_t hr) q1 q3 q2 (by omega)]
      simp only [bs]
      rw [nI_1]
      refine ⟨rfl, ?_⟩
      congr 4
      refine itL_congr fun k b hk => ?_
      rw [show 86 + 2 * r + 1 = 87 + 2 * r by omega, q5 k hk]
  rw [itC (B := f98_digest_b3 s) H (n := 4) (by omega) (fun k b hk => by
    unfold f98_digest_b3
    simp only
    rw [if_neg (show ¬ (4:Int32) ≤ nI k from nI_ge (b := 4) hk (by omega)), ra_t hk]
    simp only [bs]
    rw [(hH k b hk).1, nI_1]
    rfl) (fun b => by
    unfold f98_digest_b3
    simp only
    rw [if_pos (by decide)])]
  rw [itM (B := f215_digest_b4) H (f := f) (n := 4) (by omega) (fun k b hk => (hH k b hk).2) (fun b => by
    unfold f215_digest_b4
    simp only
    rw [if_pos (by decide)])]
  exact ⟨_, _, rfl, rfl, h0 _⟩
