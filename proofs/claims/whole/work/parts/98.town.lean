/-! READING: a person, a text; FAULT, TOWN -/
theorem readP {s : pv_F} {T : pv_T} {r n : Nat} (hr : r < 4) (hn : n ≤ 80) (hz : s (86 + 2 * r) 2 = nI n) (hzM : T.1 99 r = nI n) (hc : ∀ i, i < n → s (87 + 2 * r) i = T.1 100 (80 * r + i)) {S : pv_F} {U : pv_T} {p q : Nat} {K : Nat → Nat} {nm : Nat → List Nat} {w : Int32} (hp : p < n) (hOk : RdOk q K nm) (hC : FC S 36 q K nm (fun _ => 0)) (hS : FrC s S) (hU : FrM T U) (h12 : U.1 94 12 = nI p) (h13 : U.1 94 13 = nI q) (hR : RdM U q K nm) (hw : w = 0 ∨ ¬ ltr (T.1 100 (80 * r + p))) (hwant : wantC w S = some 0) (h32 : ¬ T.1 100 (80 * r + p) = 32) : (∃ (pos : Nat) (S' : pv_F) (U' : pv_T), f136_readsPerson (nI r) U = some (0, U') ∧ U'.1 94 12 = nI pos ∧ pos ≤ 100 ∧ FrC s S' ∧ FrM T U' ∧ ∀ f, (pv_lp (f6_read_b1 36 (86 + 2 * r)) (f + 10) (w, nI p, S)).bind (cRes r) = some (nI pos, S')) ∨ ∃ (p' : Nat) (K' : Nat → Nat) (nm' : Nat → List Nat) (S' : pv_F) (U' : pv_T), f136_readsPerson (nI r) U = some (1, U') ∧ p < p' ∧ p' ≤ n ∧ RdOk (q + 1) K' nm' ∧ FC S' 36 (q + 1) K' nm' (fun _ => 0) ∧ FrC s S' ∧ FrM T U' ∧ U'.1 94 12 = nI p' ∧ U'.1 94 13 = nI (q + 1) ∧ RdM U' (q + 1) K' nm' ∧ (p' < n → ¬ ltr (T.1 100 (80 * r + p'))) ∧ ∀ f, pv_lp (f6_read_b1 36 (86 + 2 * r)) (f + (p' - p)) (w, nI p, S) = pv_lp (f6_read_b1 36 (86 + 2 * r)) f (1, nI p', S') := by
  have hq7 := hOk.1
  have hchS : S (87 + 2 * r) p = T.1 100 (80 * r + p) := by rw [hS _ (by omega), hc p hp]
  have hzS : S (86 + 2 * r) 2 = nI n := by rw [hS _ (by omega)]; exact hz
  have h99 : ∀ V, FrM T V → V.1 99 r = nI n := fun V hV => by rw [hV.1 99 (by decide) (by decide) (by decide) (by decide)]; exact hzM
  unfold f136_readsPerson
  rw [here_ok hr hn (by omega) h12 (h99 U hU), if_pos hp, hU.1 100 (by decide) (by decide) (by decide) (by decide)]
  simp only [bs]
  rw [in_eq]
  generalize hch : T.1 100 (80 * r + p) = ch at *
  have hstop : f6_read_b1 36 (86 + 2 * r) (w, nI p, S) = some (.inr (.inr (nI p, S))) → ∀ f, (pv_lp (f6_read_b1 36 (86 + 2 * r)) (f + 10) (w, nI p, S)).bind (cRes r) = some (nI p, S) := fun hB f => by
    rw [show f + 10 = (f + 9) + 1 by omega, lp_stop hB (f + 9)]
    rfl
  by_cases hin : 49 ≤ ch ∧ ch ≤ 54
  · obtain ⟨k, hk, e1, e2⟩ := sign_in hin
    have hnl : ¬ ltr ch := fun q => by
      have h1 := q.1
      rw [e1] at h1
      have := (nI_leI (a := 97) (by omega) (by omega)).mp h1
      omega
    rw [show (if ch < (49:Int32) then (0:Int32) else if (54:Int32) < ch then 0 else 1) = 1 from by
      rw [if_neg (Int32.not_lt.mpr hin.1), if_neg (Int32.not_lt.mpr hin.2)]]
    simp only [bs]
    rw [if_neg (show ¬ (1:Int32) = 0 by decide), h13]
    by_cases h7 : q = 7
    · rw [if_pos (by rw [h7]; decide)]
      exact Or.inl ⟨p, S, U, rfl, h12, by omega, hS, hU, hstop (rd_bad hr hn hzS hp hchS hnl h32 hwant (add_out (Or.inr (Or.inr (by rw [hC.1, h7]; decide)))))⟩
    rw [if_neg (show ¬ nI q = (7:Int32) from fun e => h7 ((nI_eq (b := 7) (by omega) (by omega)).mp e)), h12, nI_1]
    simp only [bs, pv_pm]
    obtain ⟨S1, a1, a2, a3⟩ := add_in (k := k) (show q < 7 by omega) hk hC
    have hgo := rd_sign (S1 := S1) hr hn hzS hp hchS hnl h32 hwant (by rw [e2]; exact a1)
    have hU1 : FrM T (pv_up U.1 94 12 (nI (p + 1)), U.2) := ⟨fun c c1 c2 c3 c4 => by
      show pv_up U.1 94 12 (nI (p + 1)) c = _
      rw [up_ne c1]; exact hU.1 c c1 c2 c3 c4, fun j j1 j2 => by
      show pv_up U.1 94 12 (nI (p + 1)) 94 j = _
      rw [up_nj j1]; exact hU.2 j j1 j2⟩
    obtain ⟨l, S2, U2, g1, g2, g3, g4, g5, g6, g7, g8, g9, g10, g11, g12⟩ := readLets hr hn hz hzM hc (S := S1) (U := (pv_up U.1 94 12 (nI (p + 1)), U.2)) (p := p + 1) (q := q) (K := fun x => if x = q then k else K x) (nm := nm) (v2 := ch - 49) (by omega) (by omega) a2 (fun c hc => by rw [a3 c hc]; exact hS c hc) hU1 (by
      show pv_up U.1 94 12 (nI (p + 1)) 94 12 = _
      rw [up_at]) (by
      show pv_up U.1 94 12 (nI (p + 1)) 94 13 = _
      rw [up_nj (by decide)]; exact h13) (fun x hx => by
      show pv_up U.1 94 12 (nI (p + 1)) 102 x = nI (if x = q then k else K x) ∧ pv_up U.1 94 12 (nI (p + 1)) 103 x = _ ∧ ∀ i, i < (nm x).length → pv_up U.1 94 12 (nI (p + 1)) 104 (6 * x + i) = _
      rw [up_ne (by decide), up_ne (by decide), up_ne (by decide), if_neg (by omega)]
      exact hR x hx) (fun x hx => (hOk.2 x hx).2.1.1)
    rw [g1]
    simp only [bs]
    have hl6 := g3.1
    have e0 : nmS nm q l q = l := if_pos rfl
    have hrun : ∀ f, pv_lp (f6_read_b1 36 (86 + 2 * r)) (f + (1 + l.length)) (w, nI p, S) = pv_lp (f6_read_b1 36 (86 + 2 * r)) f (1, nI (p + 1 + l.length), S2) := fun f => by
      rw [show f + (1 + l.length) = (f + l.length) + 1 by omega, lp_go hgo (f + l.length), g11 f]
    have hfault : (∀ f, (pv_lp (f6_read_b1 36 (86 + 2 * r)) (f + 1) (1, nI (p + 1 + l.length), S2)).bind (cRes r) = some (nI (p + 1 + l.length), S2)) → ∀ f, (pv_lp (f6_read_b1 36 (86 + 2 * r)) (f + 10) (w, nI p, S)).bind (cRes r) = some (nI (p + 1 + l.length), S2) := fun hf f => by
      rw [show f + 10 = (f + (8 - l.length) + 1) + (1 + l.length) by omega, hrun (f + (8 - l.length) + 1)]
      exact hf _
    have hzS2 : S2 (86 + 2 * r) 2 = nI n := by rw [g5 _ (by omega)]; exact hz
    by_cases hj0 : l = []
    · have hl0 : l.length = 0 := by rw [hj0]; rfl
      rw [hl0, if_pos nI_0]
      have hwt : wantC 1 S2 = some 1 := by
        rw [want_l (show q < 7 by omega) g4 (by rw [e0]; exact g3), if_pos (by rw [e0]; exact hj0)]
      refine Or.inl ⟨p + 1 + l.length, S2, U2, rfl, g7, by omega, g5, g6, hfault fun f => ?_⟩
      by_cases hen : p + 1 + l.length = n
      · rw [hen, lp_stop (rd_end hzS2 hn) f]
        simp only [bs]
        rw [cres_1 hwt, hzS2]
      · have hlt : p + 1 + l.length < n := by omega
        rw [lp_stop (rd_want hr hn hzS2 hlt (by rw [g5 _ (by omega), hc _ hlt]) (by
          rcases g12 with q1 | q1 | q1
          · omega
          · omega
          · exact q1) hwt) f]
        rfl
    · have hlp : 0 < l.length := List.length_pos_iff.mpr hj0
      rw [if_neg (nI_ne0 hlp (by omega)), here_ok hr hn g2 g7 (h99 U2 g6), g6.1 100 (by decide) (by decide) (by decide) (by decide)]
      simp only [bs]
      by_cases hlet : p + 1 + l.length < n ∧ ltr (T.1 100 (80 * r + (p + 1 + l.length)))
      · rw [if_pos hlet.1, (isLet hlet.2).2]
        simp only [bs]
        rw [if_neg (show ¬ (1:Int32) = 0 by decide)]
        have hl6' : l.length = 6 := by
          rcases g12 with q1 | q1 | q1
          · exact q1
          · omega
          · exact absurd hlet.2 q1
        refine Or.inl ⟨p + 1 + l.length, S2, U2, rfl, g7, by omega, g5, g6, hfault fun f => ?_⟩
        rw [lp_stop (rd_full hr hn hzS2 hlet.1 (by rw [g5 _ (by omega), hc _ hlet.1]) hlet.2 (show q < 7 by omega) g4 (by rw [e0]; exact g3) (by rw [e0]; exact hl6')) f]
        rfl
      · have hnx : f134_isLetter (if p + 1 + l.length < n then T.1 100 (80 * r + (p + 1 + l.length)) else -9) = some 0 := by
          by_cases hlt : p + 1 + l.length < n
          · rw [if_pos hlt]; exact (notLet (fun q => hlet ⟨hlt, q⟩)).2
          · rw [if_neg hlt]; exact (notLet (by decide)).2
        rw [hnx]
        simp only [bs]
        rw [if_pos True.intro, g8, e2, wm_nI (by omega)]
        simp only [bs]
        rw [up_ne (by decide), g8, wm_nI (by omega)]
        simp only [bs, pv_pm]
        rw [up_ne (by decide), up_ne (by decide), g8, nI_1]
        refine Or.inr ⟨p + 1 + l.length, fun x => if x = q then k else K x, nmS nm q l, S2, _, rfl, by omega, g2, ⟨by omega, fun x hx => ?_⟩, g4, g5, ⟨fun c c1 c2 c3 c4 => ?_, fun j j1 j2 => ?_⟩, ?_, ?_, fun x hx => ?_, fun hlt hq => hlet ⟨hlt, hq⟩, fun f => ?_⟩
        · unfold nmS
          by_cases e : x = q
          · simp only [if_pos e]; exact ⟨hk, g3, hj0⟩
          · simp only [if_neg e]; exact hOk.2 x (by omega)
        · simp only
          rw [up_ne c1, up_ne c3, up_ne c2]; exact g6.1 c c1 c2 c3 c4
        · simp only
          rw [up_nj j2, up_ne (by decide), up_ne (by decide)]; exact g6.2 j j1 j2
        · simp only
          rw [up_nj (by decide), up_ne (by decide), up_ne (by decide)]; exact g7
        · simp only
          rw [up_at]
        · simp only
          by_cases e : x = q
          · subst e
            refine ⟨?_, ?_, fun i hi => ?_⟩
            · rw [up_ne (by decide), up_ne (by decide), up_at, if_pos rfl]
            · rw [up_ne (by decide), up_at, e0]
            · rw [e0] at hi
              rw [up_ne (by decide), up_ne (by decide), up_ne (by decide), e0]; exact g10 i hi
          · have e1' : nmS nm q l x = nm x := if_neg e
            have g := g9 x (by omega)
            simp only [if_neg e] at g
            refine ⟨?_, ?_, fun i hi => ?_⟩
            · rw [up_ne (by decide), up_ne (by decide), up_nj e, if_neg e]; exact g.1
            · rw [up_ne (by decide), up_nj e, e1']; exact g.2.1
            · rw [e1'] at hi
              rw [up_ne (by decide), up_ne (by decide), up_ne (by decide), e1']; exact g.2.2 i hi
        · rw [show p + 1 + l.length - p = 1 + l.length by omega]
          exact hrun f
  · rw [show (if ch < (49:Int32) then (0:Int32) else if (54:Int32) < ch then 0 else 1) = 0 from by
      by_cases h1 : ch < 49
      · rw [if_pos h1]
      · rw [if_neg h1]
        by_cases h2 : (54:Int32) < ch
        · rw [if_pos h2]
        · exact absurd ⟨Int32.not_lt.mp h1, Int32.not_lt.mp h2⟩ hin]
    simp only [bs]
    rw [if_pos True.intro]
    refine Or.inl ⟨p, S, U, rfl, h12, by omega, hS, hU, hstop ?_⟩
    by_cases hl : ltr ch
    · rcases hw with rfl | hw
      · exact rd_out hr hn hzS hp hchS hl
      · exact absurd hl hw
    · refine rd_bad hr hn hzS hp hchS hl h32 hwant (add_out ?_)
      by_cases h1 : ch - 49 < 0
      · exact Or.inl h1
      · by_cases h2 : (5:Int32) < ch - 49
        · exact Or.inr (Or.inl h2)
        · obtain ⟨k, hk, e1, -⟩ := sign_num ⟨h1, h2⟩
          exact absurd (by rw [e1]; exact ⟨nI_le (a := 49) (by omega) (by omega), nI_le (b := 54) (by omega) (by omega)⟩) hin
theorem read_ok {s : pv_F} {T : pv_T} {r n : Nat} (hr : r < 4) (hn : n ≤ 80) (hz : s (86 + 2 * r) 2 = nI n) (hzM : T.1 99 r = nI n) (hc : ∀ i, i < n → s (87 + 2 * r) i = T.1 100 (80 * r + i)) : ∃ v S U, f6_read 36 (86 + 2 * r) s = some (v, S) ∧ f137_goesOn (nI r) T = some (v, U) ∧ FrC s S ∧ FrM T U ∧ (v = -9 → ∃ q K nm, RdOk q K nm ∧ FC S 36 q K nm (fun _ => 0) ∧ U.1 94 13 = nI q ∧ RdM U q K nm) := by
  have hf6 : f6_read 36 (86 + 2 * r) s = (pv_lp (f6_read_b1 36 (86 + 2 * r)) 20000 ((0:Int32), (0:Int32), pv_up s 36 3 0)).bind (cRes r) := rfl
  rw [hf6]
  unfold f137_goesOn
  simp only [bs, pv_pm]
  generalize hRR : pv_lp (f6_read_b1 36 (86 + 2 * r)) 20000 ((0:Int32), (0:Int32), pv_up s 36 3 0) = R
  obtain ⟨o, g1, g2⟩ := lp_inv (B := f137_goesOn_b1 (nI r)) (P := fun i U => ∃ (p : Nat) (w : Int32) (S : pv_F) (q : Nat) (K : Nat → Nat) (nm : Nat → List Nat), i ≤ p ∧ p ≤ n ∧ R = pv_lp (f6_read_b1 36 (86 + 2 * r)) (20000 - p) (w, nI p, S) ∧ (w = 0 ∨ (p < n → ¬ ltr (T.1 100 (80 * r + p)))) ∧ wantC w S = some 0 ∧ RdOk q K nm ∧ FC S 36 q K nm (fun _ => 0) ∧ FrC s S ∧ FrM T U ∧ U.1 94 12 = nI p ∧ U.1 94 13 = nI q ∧ RdM U q K nm) (Q := fun o => match o with
    | .inl U => ∃ S, R.bind (cRes r) = some (-9, S) ∧ FrC s S ∧ FrM T U ∧ ∃ q K nm, RdOk q K nm ∧ FC S 36 q K nm (fun _ => 0) ∧ U.1 94 13 = nI q ∧ RdM U q K nm
    | .inr x => ∃ S pos, x.1 = nI pos ∧ pos ≤ 100 ∧ R.bind (cRes r) = some (nI pos, S) ∧ FrC s S ∧ FrM T x.2) n (fun i U hi hP => by
    obtain ⟨p, w, S, q, K, nm, b1, b2, b3, b4, b5, b6, b7, b8, b9, b10, b11, b12⟩ := hP
    have h99 : U.1 99 r = nI n := by rw [b9.1 99 (by decide) (by decide) (by decide) (by decide)]; exact hzM
    have hzS : S (86 + 2 * r) 2 = nI n := by rw [b8 _ (by omega)]; exact hz
    unfold f137_goesOn_b1
    simp only
    rw [rd_nI hr, h99, b10]
    simp only [bs]
    by_cases hpn : p = n
    · subst hpn
      rw [if_pos (nI_le (by omega) (by omega))]
      refine Or.inr ⟨_, rfl, S, ?_, b8, b9, q, K, nm, b6, b7, b11, b12⟩
      rw [b3, show 20000 - p = (19999 - p) + 1 by omega, lp_stop (rd_end hzS hn) (19999 - p)]
      simp only [bs]
      exact cres_0 b5
    have hlt : p < n := by omega
    have hch : S (87 + 2 * r) p = T.1 100 (80 * r + p) := by rw [b8 _ (by omega), hc p hlt]
    rw [if_neg (nI_ge hlt (by omega)), here_ok hr hn b2 b10 h99, if_pos hlt, b9.1 100 (by decide) (by decide) (by decide) (by decide)]
    simp only [bs]
    by_cases h32 : T.1 100 (80 * r + p) = 32
    · rw [if_pos h32, nI_1]
      simp only [bs, pv_pm]
      refine Or.inl ⟨by omega, _, rfl, p + 1, 0, S, q, K, nm, by omega, by omega, ?_, Or.inl rfl, ?_, b6, b7, b8, ⟨fun c c1 c2 c3 c4 => ?_, fun j j1 j2 => ?_⟩, ?_, ?_, fun x hx => ?_⟩
      · rw [b3, show 20000 - p = (20000 - (p + 1)) + 1 by omega, lp_go (rd_blank hr hn hzS hlt (hch.trans h32) b5)]
      · unfold wantC; rw [if_pos rfl]
      · show pv_up U.1 94 12 (nI (p + 1)) c = _
        rw [up_ne c1]; exact b9.1 c c1 c2 c3 c4
      · show pv_up U.1 94 12 (nI (p + 1)) 94 j = _
        rw [up_nj j1]; exact b9.2 j j1 j2
      · show pv_up U.1 94 12 (nI (p + 1)) 94 12 = _
        rw [up_at]
      · show pv_up U.1 94 12 (nI (p + 1)) 94 13 = _
        rw [up_nj (by decide)]; exact b11
      · show pv_up U.1 94 12 (nI (p + 1)) 102 x = _ ∧ pv_up U.1 94 12 (nI (p + 1)) 103 x = _ ∧ ∀ i, i < (nm x).length → pv_up U.1 94 12 (nI (p + 1)) 104 (6 * x + i) = _
        rw [up_ne (by decide), up_ne (by decide), up_ne (by decide)]
        exact b12 x hx
    · rw [if_neg h32]
      rcases readP hr hn hz hzM hc hlt b6 b7 b8 b9 b10 b11 b12 (b4.elim Or.inl (fun q => Or.inr (q hlt))) b5 h32 with ⟨pos, S', U', c1, c2, c3, c4, c5, c6⟩ | ⟨p', K', nm', S', U', c1, c2, c3, c4, c5, c6, c7, c8, c9, c10, c11, c12⟩
      · rw [c1]
        simp only [bs]
        rw [if_pos True.intro]
        refine Or.inr ⟨_, rfl, S', pos, c2, c3, ?_, c4, c5⟩
        rw [b3, show 20000 - p = (19990 - p) + 10 by omega]
        exact c6 _
      · rw [c1]
        simp only [bs]
        rw [if_neg (show ¬ (1:Int32) = 0 by decide)]
        refine Or.inl ⟨by omega, _, rfl, p', 1, S', q + 1, K', nm', by omega, c3, ?_, Or.inr c11, ?_, c4, c5, c6, c7, c8, c9, c10⟩
        · rw [b3, show 20000 - p = (20000 - p') + (p' - p) by omega]
          exact c12 _
        · have hq := c4.1
          rw [want_l (show q < 7 by omega) c5 (c4.2 q (by omega)).2.1, if_neg (c4.2 q (by omega)).2.2]) (pv_up (pv_up T.1 94 12 0) 94 13 0, T.2) ⟨0, 0, pv_up s 36 3 0, 0, fun _ => 0, fun _ => [], by omega, by omega, by rw [← hRR, nI_0], Or.inl rfl, by unfold wantC; rw [if_pos rfl], ⟨by omega, fun x hx => by omega⟩, ⟨by rw [up_at, nI_0], fun x hx => by omega⟩, fun c hc => up_ne (by omega), ⟨fun c c1 c2 c3 c4 => by
      show pv_up (pv_up T.1 94 12 0) 94 13 0 c = _
      rw [up_ne c1, up_ne c1], fun j j1 j2 => by
      show pv_up (pv_up T.1 94 12 0) 94 13 0 94 j = _
      rw [up_nj j2, up_nj j1]⟩, by
      show pv_up (pv_up T.1 94 12 0) 94 13 0 94 12 = _
      rw [up_nj (by decide), up_at, nI_0], by
      show pv_up (pv_up T.1 94 12 0) 94 13 0 94 13 = _
      rw [up_at, nI_0], fun x hx => by omega⟩
  rw [g1]
  simp only [bs]
  match o, g2 with
  | .inl U, g2 =>
    obtain ⟨S, y1, y2, y3, y4⟩ := g2
    exact ⟨-9, S, U, y1, rfl, y2, y3, fun _ => y4⟩
  | .inr (v, U), g2 =>
    obtain ⟨S, pos, y1, y2, y3, y4, y5⟩ := g2
    simp only at y1 y5
    subst y1
    exact ⟨nI pos, S, U, y3, rfl, y4, y5, fun e => absurd (show nI pos < 0 by rw [e]; decide) (nI_pos (by omega))⟩
theorem Inv.read {s S : pv_F} {T U : pv_T} (h : Inv s T) (hS : FrC s S) (hU : FrM T U) : Inv S U := h.aside (fun a ha => hS a (by omega)) (fun c hc => hU.1 c (by omega) (by omega) (by omega) (by omega)) (fun i _ => by rw [hU.1 105 (by decide) (by decide) (by decide) (by decide)]) (fun j hj => hU.2 j (by omega) (by omega))
theorem op8 : OP8 Inv := by
  intro a s T h
  unfold f62_fault f138_fault
  rcases pk_ix a (n := 4) (by omega) with ha | ha | ⟨r, hr, rfl⟩
  · rw [(noText (Or.inl ha)).1, askedT_no T (Or.inl ha)]
    exact ⟨-1, s, T, rfl, rfl, h⟩
  · rw [(noText (Or.inr ha)).1, askedT_no T (Or.inr ha)]
    exact ⟨-1, s, T, rfl, rfl, h⟩
  rw [isTextC_in hr]
  simp only [bs]
  rw [if_neg (show ¬ (1:Int32) = 0 by decide), ra_t hr]
  simp only [bs]
  rcases h.2.2.1 r hr with ⟨q1, q2⟩ | ⟨q1, n, q2, q3, q4, q5⟩
  · rw [q1, if_pos rfl, find_ok 1 (by omega), askedT_miss hr q2]
    exact ⟨_, _, _, rfl, rfl, h.fnd (by omega) (by omega)⟩
  · rw [q1, if_neg (show ¬ (1:Int32) = 0 by decide), askedT_there hr (by omega) q4]
    simp only [bs]
    rw [if_pos (show (0:Int32) ≤ 0 by decide)]
    obtain ⟨v, S, U, y1, y2, y3, y4, -⟩ := read_ok hr q2 q3 q4 q5
    rw [y1, y2]
    exact ⟨v, S, U, rfl, rfl, h.read y3 y4⟩
/-! TOWN -/
theorem found_ok {s : pv_F} {q : Nat} {K : Nat → Nat} {nm : Nat → List Nat} (hOk : RdOk q K nm) (hC : FC s 36 q K nm (fun _ => 0)) : ∃ s', f42_found 36 s = some s' ∧ FC s' 4 q K nm (fun _ => 0) ∧ s' 8 3 = nI q ∧ (∀ x, x < q → s' 9 x = nI (K x)) ∧ s' 15 4 = 0 ∧ CRep s' q (A_0 nm) ∧ (∀ k, k < 3 → s' (21 + 5 * k) 5 = 0) ∧ ∀ a, a < 3 ∨ 35 < a → s' a = s a := by
  unfold f42_found
  obtain ⟨s1, a1, a2, a3⟩ := take_ok (o := 4) hOk.1 hC (by omega)
  rw [a1]
  simp only [bs]
  obtain ⟨e, b1, b2⟩ := lq_inv (B := f42_found_b1) (P := fun i st => st.1 = nI i ∧ (∀ k, k < i → st.2 (21 + 5 * k) 5 = 0) ∧ ∀ a, a < 21 ∨ 35 < a → st.2 a = s1 a) (Q := fun st => (∀ k, k < 3 → st.2 (21 + 5 * k) 5 = 0) ∧ ∀ a, a < 21 ∨ 35 < a → st.2 a = s1 a) 3 (fun i st hi hP => by
    obtain ⟨v, S⟩ := st
    obtain ⟨p1, p2, p3⟩ := hP
    simp only at p1 p2 p3
    subst p1
    unfold f42_found_b1
    simp only
    rw [if_neg (show ¬ (3:Int32) ≤ nI i from nI_ge (b := 3) hi (by omega)), ra_k hi, nI_1]
    simp only [bs, pv_pf]
    refine ⟨_, rfl, rfl, fun k hk => ?_, fun a ha => ?_⟩
    · simp only
      by_cases e : k = i
      · subst e; rw [up_at]
      · rw [up_ne (by omega)]; exact p2 k (by omega)
    · simp only
      rw [up_ne (by omega)]; exact p3 a ha) (fun st hP => by
    obtain ⟨v, S⟩ := st
    obtain ⟨p1, p2, p3⟩ := hP
    simp only at p1 p2 p3
    subst p1
    unfold f42_found_b1
    simp only
    rw [if_pos (by decide)]
    exact ⟨_, rfl, p2, p3⟩) ((0:Int32), s1) ⟨nI_0.symm, fun k hk => by omega, fun a ha => rfl⟩
  rw [b1]
  obtain ⟨v, S⟩ := e
  obtain ⟨b3, b4⟩ := b2
  simp only at b3 b4
  simp only [bs]
  obtain ⟨s2, c1, c2, c3, c4, c5, c6⟩ := startOver_ok (s := S) (n := q) (K := K) (nm := nm) hOk.1 (a2.frame (fun a ha => b4 a (by omega)))
  rw [c1]
  refine ⟨s2, rfl, a2.frame (fun a ha => by rw [c6 a (by omega) (by omega), b4 a (by omega)]), c2, c3, c4, c5, fun k hk => by rw [c6 _ (by omega) (by omega)]; exact b3 k hk, fun a ha => ?_⟩
  rw [c6 a (by omega) (by omega), b4 a (by omega), a3 a (by omega) (by omega) (by omega) (by omega)]
theorem zeroM (T : pv_T) : ∃ v T', pv_lq f139_town_b1 20000 ((0:Int32), T) = some (v, T') ∧ (∀ j, j < 78 → T'.1 105 j = 0) ∧ ∀ c, c ≠ 105 → T'.1 c = T.1 c := by
  obtain ⟨e, h1, h2⟩ := lq_inv (B := f139_town_b1) (P := fun i st => st.1 = nI i ∧ (∀ j, j < i → st.2.1 105 j = 0) ∧ ∀ c, c ≠ 105 → st.2.1 c = T.1 c) (Q := fun st => (∀ j, j < 78 → st.2.1 105 j = 0) ∧ ∀ c, c ≠ 105 → st.2.1 c = T.1 c) 78 (fun i st hi hP => by
    obtain ⟨v, U⟩ := st
    obtain ⟨p1, p2, p3⟩ := hP
    simp only at p1 p2 p3
    subst p1
    unfold f139_town_b1
    simp only
    rw [if_neg (show ¬ (78:Int32) ≤ nI i from nI_ge (b := 78) hi (by omega)), wm_nI hi, nI_1]
    simp only [bs]
    refine ⟨_, rfl, rfl, fun j hj => ?_, fun c hc => ?_⟩
    · simp only
      by_cases e : j = i
      · subst e; rw [up_at]
      · rw [up_nj e]; exact p2 j (by omega)
    · simp only
      rw [up_ne hc]; exact p3 c hc) (fun st hP => by
    obtain ⟨v, U⟩ := st
    obtain ⟨p1, p2, p3⟩ := hP
    simp only at p1 p2 p3
    subst p1
    unfold f139_town_b1
    simp only
    rw [if_pos (by decide)]
    exact ⟨_, rfl, p2, p3⟩) ((0:Int32), T) ⟨nI_0.symm, fun j hj => by omega, fun c hc => rfl⟩
  obtain ⟨v, U⟩ := e
  exact ⟨v, U, h1, h2⟩
theorem keptM (T : pv_T) : ∃ v T', pv_lq f139_town_b4 20000 ((0:Int32), T) = some (v, T') ∧ (∀ j, j < 3 → T'.1 107 j = -9) ∧ ∀ c, c ≠ 107 → T'.1 c = T.1 c := by
  obtain ⟨e, h1, h2⟩ := lq_inv (B := f139_town_b4) (P := fun i st => st.1 = nI i ∧ (∀ j, j < i → st.2.1 107 j = -9) ∧ ∀ c, c ≠ 107 → st.2.1 c = T.1 c) (Q := fun st => (∀ j, j < 3 → st.2.1 107 j = -9) ∧ ∀ c, c ≠ 107 → st.2.1 c = T.1 c) 3 (fun i st hi hP => by
    obtain ⟨v, U⟩ := st
    obtain ⟨p1, p2, p3⟩ := hP
    simp only at p1 p2 p3
    subst p1
    unfold f139_town_b4
    simp only
    rw [if_neg (show ¬ (3:Int32) ≤ nI i from nI_ge (b := 3) hi (by omega)), wm_nI hi, nI_1]
    simp only [bs]
    refine ⟨_, rfl, rfl, fun j hj => ?_, fun c hc => ?_⟩
    · simp only
      by_cases e : j = i
      · subst e; rw [up_at]
      · rw [up_nj e]; exact p2 j (by omega)
    · simp only
      rw [up_ne hc]; exact p3 c hc) (fun st hP => by
    obtain ⟨v, U⟩ := st
    obtain ⟨p1, p2, p3⟩ := hP
    simp only at p1 p2 p3
    subst p1
    unfold f139_town_b4
    simp only
    rw [if_pos (by decide)]
    exact ⟨_, rfl, p2, p3⟩) ((0:Int32), T) ⟨nI_0.symm, fun j hj => by omega, fun c hc => rfl⟩
  obtain ⟨v, U⟩ := e
  exact ⟨v, U, h1, h2⟩
theorem nameM (T : pv_T) {x m : Nat} (hx : x < 7) (hm : m ≤ 6) (h : T.1 103 x = nI m) : ∃ v T', pv_lq (f139_town_b3 (nI x)) 20000 ((0:Int32), T) = some (v, T') ∧ (∀ j, j < m → T'.1 105 (6 * x + j) = T.1 104 (6 * x + j)) ∧ (∀ j, (j < 6 * x ∨ 6 * x + m ≤ j) → T'.1 105 j = T.1 105 j) ∧ ∀ c, c ≠ 105 → T'.1 c = T.1 c := by
  obtain ⟨e, h1, h2⟩ := lq_inv (B := f139_town_b3 (nI x)) (P := fun i st => st.1 = nI i ∧ (∀ j, j < i → st.2.1 105 (6 * x + j) = T.1 104 (6 * x + j)) ∧ (∀ j, (j < 6 * x ∨ 6 * x + i ≤ j) → st.2.1 105 j = T.1 105 j) ∧ ∀ c, c ≠ 105 → st.2.1 c = T.1 c) (Q := fun st => (∀ j, j < m → st.2.1 105 (6 * x + j) = T.1 104 (6 * x + j)) ∧ (∀ j, (j < 6 * x ∨ 6 * x + m ≤ j) → st.2.1 105 j = T.1 105 j) ∧ ∀ c, c ≠ 105 → st.2.1 c = T.1 c) m (fun i st hi hP => by
    obtain ⟨v, U⟩ := st
    obtain ⟨p1, p2, p3, p4⟩ := hP
    simp only at p1 p2 p3 p4
    subst p1
    unfold f139_town_b3
    simp only
    rw [rd_nI hx, p4 103 (by decide), h]
    simp only [bs]
    rw [if_neg (nI_ge hi (by omega)), nI6m, nI_add, rd_nI (by omega), p4 104 (by decide)]
    simp only [bs]
    rw [wm_nI (by omega), nI_1]
    simp only [bs]
    refine ⟨_, rfl, rfl, fun j hj => ?_, fun j hj => ?_, fun c hc => ?_⟩
    · simp only
      by_cases e : j = i
      · subst e; rw [up_at]
      · rw [up_nj (by omega)]; exact p2 j (by omega)
    · simp only
      rw [up_nj (by omega)]; exact p3 j (by omega)
    · simp only
      rw [up_ne hc]; exact p4 c hc) (fun st hP => by
    obtain ⟨v, U⟩ := st
    obtain ⟨p1, p2, p3, p4⟩ := hP
    simp only at p1 p2 p3 p4
    subst p1
    unfold f139_town_b3
    simp only
    rw [rd_nI hx, p4 103 (by decide), h]
    simp only [bs]
    rw [if_pos (nI_le (by omega) (by omega))]
    exact ⟨_, rfl, p2, p3, p4⟩) ((0:Int32), T) ⟨nI_0.symm, fun j hj => by omega, fun j hj => rfl, fun c hc => rfl⟩
  obtain ⟨v, U⟩ := e
  exact ⟨v, U, h1, h2⟩
theorem peopleM {T : pv_T} {q : Nat} {K : Nat → Nat} {nm : Nat → List Nat} (hOk : RdOk q K nm) (h8 : T.1 94 8 = nI q) (hR : RdM T q K nm) (hZ : ∀ j, j < 78 → T.1 105 j = 0) : ∃ v T', pv_lq f139_town_b2 20000 ((0:Int32), T) = some (v, T') ∧ (∀ x, x < q → T'.1 101 x = nI (K x)) ∧ MRep (T'.1 105) 0 q (A_0 nm) ∧ ∀ c, c ≠ 101 → c ≠ 105 → T'.1 c = T.1 c := by
  have hq7 := hOk.1
  obtain ⟨e, h1, h2⟩ := lq_inv (B := f139_town_b2) (P := fun i st => st.1 = nI i ∧ (∀ x, x < i → st.2.1 101 x = nI (K x) ∧ st.2.1 105 (42 + x) = nI (nm x).length ∧ ∀ j, j < (nm x).length → st.2.1 105 (6 * x + j) = nI (96 + (nm x).getD j 0)) ∧ (∀ j, 49 ≤ j → j < 78 → st.2.1 105 j = 0) ∧ ∀ c, c ≠ 101 → c ≠ 105 → st.2.1 c = T.1 c) (Q := fun st => (∀ x, x < q → st.2.1 101 x = nI (K x) ∧ st.2.1 105 (42 + x) = nI (nm x).length ∧ ∀ j, j < (nm x).length → st.2.1 105 (6 * x + j) = nI (96 + (nm x).getD j 0)) ∧ (∀ j, 49 ≤ j → j < 78 → st.2.1 105 j = 0) ∧ ∀ c, c ≠ 101 → c ≠ 105 → st.2.1 c = T.1 c) q (fun i st hi hP => by
    obtain ⟨v, U⟩ := st
    obtain ⟨p1, p2, p3, p4⟩ := hP
    simp only at p1 p2 p3 p4
    subst p1
    obtain ⟨r1, r2, r3⟩ := hR i hi
    have hl6 := (hOk.2 i hi).2.1.1
    unfold f139_town_b2
    simp only
    rw [p4 94 (by decide) (by decide), h8, if_neg (nI_ge hi (by omega)), rd_nI (by omega), p4 102 (by decide) (by decide), r1]
    simp only [bs]
    rw [wm_nI (by omega)]
    simp only [bs]
    rw [rd_nI (by omega), up_ne (by decide), p4 103 (by decide) (by decide), r2]
    simp only [bs]
    rw [nI42, wm_nI (by omega)]
    simp only [bs]
    obtain ⟨v', V, n1, n2, n3, n4⟩ := nameM (pv_up (pv_up U.1 101 i (nI (K i))) 105 (42 + i) (nI (nm i).length), U.2) (x := i) (m := (nm i).length) (by omega) hl6 (by
      show pv_up (pv_up U.1 101 i (nI (K i))) 105 (42 + i) (nI (nm i).length) 103 i = _
      rw [up_ne (by decide), up_ne (by decide), p4 103 (by decide) (by decide)]; exact r2)
    rw [n1, nI_1]
    simp only [bs]
    have n3' : ∀ j, (j < 6 * i ∨ 6 * i + (nm i).length ≤ j) → V.1 105 j = pv_up U.1 105 (42 + i) (nI (nm i).length) 105 j := fun j hj => by
      rw [n3 j hj]
      show pv_up (pv_up U.1 101 i (nI (K i))) 105 (42 + i) (nI (nm i).length) 105 j = _
      by_cases e : j = 42 + i
      · subst e; rw [up_at, up_at]
      · rw [up_nj e, up_nj e, up_ne (by decide)]
    have n4' : ∀ c, c ≠ 105 → V.1 c = pv_up U.1 101 i (nI (K i)) c := fun c hc => by
      rw [n4 c hc]
      show pv_up (pv_up U.1 101 i (nI (K i))) 105 (42 + i) (nI (nm i).length) c = _
      rw [up_ne hc]
    refine ⟨_, rfl, rfl, fun x hx => ?_, fun j j1 j2 => ?_, fun c c1 c2 => ?_⟩
    · simp only
      rw [n4' 101 (by decide)]
      by_cases e : x = i
      · subst e
        refine ⟨up_at _ _ _ _, by rw [n3' _ (by omega), up_at], fun j hj => ?_⟩
        rw [n2 j hj]
        show pv_up (pv_up U.1 101 x (nI (K x))) 105 (42 + x) (nI (nm x).length) 104 (6 * x + j) = _
        rw [up_ne (by decide), up_ne (by decide), p4 104 (by decide) (by decide)]; exact r3 j hj
      · obtain ⟨y1, y2, y3⟩ := p2 x (by omega)
        have hx6 := (hOk.2 x (by omega)).2.1.1
        refine ⟨by rw [up_nj e]; exact y1, by rw [n3' _ (by omega), up_nj (by omega)]; exact y2, fun j hj => ?_⟩
        rw [n3' _ (by omega), up_nj (by omega)]; exact y3 j hj
    · simp only
      rw [n3' j (by omega), up_nj (by omega)]; exact p3 j j1 j2
    · simp only
      rw [n4' c c2, up_ne c1]; exact p4 c c1 c2) (fun st hP => by
    obtain ⟨v, U⟩ := st
    obtain ⟨p1, p2, p3, p4⟩ := hP
    simp only at p1 p2 p3 p4
    subst p1
    unfold f139_town_b2
    simp only
    rw [p4 94 (by decide) (by decide), h8, if_pos (nI_le (by omega) (by omega))]
    exact ⟨_, rfl, p2, p3, p4⟩) ((0:Int32), T) ⟨nI_0.symm, fun x hx => by omega, fun j _ hj => hZ j hj, fun c _ _ => rfl⟩
  obtain ⟨v, U⟩ := e
  obtain ⟨q1, q2, q3⟩ := h2
  simp only at q1 q2 q3
  refine ⟨v, U, h1, fun x hx => (q1 x hx).1, ⟨fun x hx => ?_, ?_⟩, q3⟩
  · obtain ⟨y1, y2, y3⟩ := q1 x hx
    simp only [Nat.zero_add]
    exact ⟨y3, y2, by rw [q2 _ (by omega) (by omega)]; exact nI_0.symm, by rw [q2 _ (by omega) (by omega)]; exact nI_0.symm, by rw [q2 _ (by omega) (by omega)]; exact nI_0.symm, by rw [q2 _ (by omega) (by omega)]; exact nI_0.symm⟩
  · rw [q2 _ (by omega) (by omega)]; exact nI_0.symm
theorem op9 : OP9 Inv := by
  intro a s T h
  unfold f63_town f139_town
  rcases pk_ix a (n := 4) (by omega) with ha | ha | ⟨r, hr, rfl⟩
  · rw [(noText (Or.inl ha)).1, askedT_no T (Or.inl ha)]
    exact ⟨-1, s, T, rfl, rfl, h⟩
  · rw [(noText (Or.inr ha)).1, askedT_no T (Or.inr ha)]
    exact ⟨-1, s, T, rfl, rfl, h⟩
  rw [isTextC_in hr]
  simp only [bs]
  rw [if_neg (show ¬ (1:Int32) = 0 by decide), ra_t hr]
  simp only [bs]
  rcases h.2.2.1 r hr with ⟨q1, q2⟩ | ⟨q1, n, q2, q3, q4, q5⟩
  · rw [q1, if_pos rfl, find_ok 1 (by omega), askedT_miss hr q2]
    exact ⟨_, _, _, rfl, rfl, h.fnd (by omega) (by omega)⟩
  rw [q1, if_neg (show ¬ (1:Int32) = 0 by decide), askedT_there hr (by omega) q4]
  simp only [bs]
  rw [if_pos (show (0:Int32) ≤ 0 by decide)]
  obtain ⟨v, S, U, y1, y2, y3, y4, y5⟩ := read_ok hr q2 q3 q4 q5
  rw [y1, y2]
  simp only [bs]
  by_cases h9 : v = -9
  · obtain ⟨q, K, nm, hOk, hC, h13, hR⟩ := y5 h9
    rw [if_pos h9, if_pos h9, h13]
    simp only [bs, pv_pm]
    obtain ⟨s1, a1, a2, a3, a4, a5, a6, a7, a8⟩ := found_ok hOk hC
    rw [a1]
    simp only [bs]
    obtain ⟨v1, T1, b1, b2, b3⟩ := zeroM (pv_up U.1 94 8 (nI q), U.2)
    rw [b1]
    simp only [bs]
    have b3' : ∀ c, c ≠ 105 → T1.1 c = pv_up U.1 94 8 (nI q) c := fun c hc => b3 c hc
    obtain ⟨v2, T2, c1, c2, c3, c4⟩ := peopleM (T := T1) hOk (by rw [b3' 94 (by decide), up_at]) (fun x hx => by
      rw [b3' 102 (by decide), b3' 103 (by decide), b3' 104 (by decide), up_ne (by decide), up_ne (by decide), up_ne (by decide)]
      exact hR x hx) b2
    rw [c1]
    simp only [bs]
    obtain ⟨v3, T3, d1, d2, d3⟩ := keptM (pv_up T2.1 94 18 0, T2.2)
    rw [d1]
    simp only [bs]
    have d3' : ∀ c, c ≠ 107 → T3.1 c = pv_up T2.1 94 18 0 c := fun c hc => d3 c hc
    have g8 : T3.1 94 8 = nI q := by rw [d3' 94 (by decide), up_nj (by decide), c4 94 (by decide) (by decide), b3' 94 (by decide), up_at]
    rw [a3, g8]
    refine ⟨_, _, _, rfl, rfl, ?_⟩
    refine h.town ⟨q, K, nm, [], fun _ => none, ⟨hOk.1, fun x hx => ?_, a2.1, a3, g8⟩, ⟨⟨Nat.zero_le _, fun j d h => by simp at h⟩, ⟨by rw [a5]; exact nI_0.symm, fun j d h => by simp at h⟩, a6, ?_, ?_, fun j hj => absurd hj (Nat.not_lt_zero j)⟩, fun k hk => Or.inl ⟨rfl, a7 k hk, d2 k hk⟩⟩ (fun a ha => by rw [a8 a (by omega), y3 a (by omega)]) (fun c hc => ?_) (fun j hj => ?_)
    · refine ⟨(hOk.2 x hx).1, (hOk.2 x hx).2.1, (a2.2 x hx).1, a4 x hx, ?_, (a2.2 x hx).2.1, (a2.2 x hx).2.2⟩
      rw [d3' 101 (by decide), up_ne (by decide)]; exact c2 x hx
    · rw [d3' 94 (by decide), up_at]; exact nI_0.symm
    · rw [d3' 105 (by decide), up_ne (by decide)]; exact c3
    · rw [d3' c (by omega), up_ne (by omega), c4 c (by omega) (by omega), b3' c (by omega), up_ne (by omega), y4.1 c (by omega) (by omega) (by omega) (by omega)]
    · rw [d3' 94 (by decide), up_nj (by omega), c4 94 (by decide) (by decide), b3' 94 (by decide), up_nj (by omega), y4.2 j (by omega) (by omega)]
  · rw [if_neg h9, if_neg h9]
    exact ⟨_, _, _, rfl, rfl, h.read y3 y4⟩
