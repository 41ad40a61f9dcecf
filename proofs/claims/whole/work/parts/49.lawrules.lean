/-! rules for the law's own walk: the script; calls and the end with the cells that the law has made -/
def pv_rds (xs : Nat → Int32) (L : Nat) (i : Int32) : Option Int32 := if pv_in i L = true then some (xs i.toNatClampNeg) else none
section EL
variable {xs : Nat → Int32} {L d y k n pc pc' len i j ci a b z ml np : Nat} {lv lv0 : pv_Lv} {st rs As : List Value} {M M1 : pv_M} {r : Option Value × pv_M} {v : Option Value} {s s' : pv_F} {T T' : pv_T} {fs : List Value} {x : Int32}
theorem pv_e_sc {q : Int32} {w : Nat} (hd : pv_dk y [(pc, .iaload, 1)] = true) (hr : pv_rds xs L x = some q) (hp : pc + 1 = pc') (kk : pv_Ev xs L d y (k, n, pc', lv, .int q :: st, M) r) (hy : y = pv_law := by rfl) : pv_Ev xs L d y (k, n, pc, lv, .int x :: .retAddr w :: st, M) r := by
  subst hp
  obtain ⟨h1, h2⟩ := pv_dk1 hd
  unfold pv_rds at hr
  split at hr
  · next hi =>
    cases hr
    exact pv_Ev.next (pv_one_me h1 h2 rfl (by simp only [pv_me, hi, hy, and_self, if_true])) kk
  · cases hr
theorem pv_e_sl {w : Nat} (hd : pv_dk y [(pc, .arraylength, 1)] = true) (hp : pc + 1 = pc') (kk : pv_Ev xs L d y (k, n, pc', lv, .int (Int32.ofNat L) :: st, M) r) (hy : y = pv_law := by rfl) : pv_Ev xs L d y (k, n, pc, lv, .retAddr w :: st, M) r := by
  subst hp
  obtain ⟨h1, h2⟩ := pv_dk1 hd
  exact pv_Ev.next (pv_one_me h1 h2 rfl (by simp only [pv_me, hy, if_true])) kk
theorem pv_fit_L {as : List Value} (h : pv_okz z ml = true) (h1 : (pv_pl as).length ≤ ml) (h2 : (rs.map fun v => v.category).sum ≤ 8) : pv_fit z pv_law 116 23246 as rs = true := by
  unfold pv_okz at h
  simp only [Bool.and_eq_true, decide_eq_true_eq] at h
  obtain ⟨⟨⟨a1, a2⟩, a3⟩, a4⟩ := h
  have m1 : 116 ≤ pv_mc pv_law := by decide +kernel
  have m2 : 23246 ≤ pv_ms pv_law := by decide +kernel
  unfold pv_fit
  simp only [a1, a2, a3, h1, h2, a4, Nat.add_zero, m1, m2, decide_true, Bool.and_self]
theorem pv_e_cvL (ho : pv_okv y pc i z np ml ci = true) (hs : pv_shp[a]? = some (.inr (.inr (ci, fs)))) (hn : As.length = np) (hst : As.reverse ++ .ref a :: rs = st) (hlv : pv_pl (.ref a :: As) ++ List.replicate (ml - (pv_pl (.ref a :: As)).length) none = lv0) (hl : (pv_pl (.ref a :: As)).length ≤ ml) (hw : (rs.map fun v => v.category).sum ≤ 8) (hp : pc + 3 = pc') (hz : pv_Ev xs L d z (0, 0, 0, lv0, [], pv_mm s T) (v, pv_mm s' T')) (kk : pv_Ev xs L (d + 1) y (116, 23246, pc', lv, v.toList ++ rs, pv_mm s' T') r) (hy : y = pv_law := by rfl) : pv_Ev xs L (d + 1) y (116, 23246, pc, lv, st, pv_mm s T) r := by
  subst hp
  subst hst
  subst hn
  subst hy
  unfold pv_okv at ho
  rw [Bool.and_eq_true, Bool.and_eq_true, Bool.and_eq_true] at ho
  obtain ⟨⟨⟨o1, o2⟩, o3⟩, o4⟩ := ho
  obtain ⟨h1, h2⟩ := pv_dk1 o1
  have hci := of_decide_eq_true o3
  have hM := pv_mm_at (s := s) (T := T) hs
  have hfit := pv_fit_L o4 hl hw
  obtain ⟨tk1, tk2⟩ := pv_take_rev (As := As) (w := .ref a :: rs)
  have hca : pv_ca (.invokevirtual i) pv_law 116 23246 (As.reverse ++ .ref a :: rs) (pv_mm s T) = some (z, .ref a :: As, rs) := by
    rcases (Bool.or_eq_true _ _).mp o2 with q | q
    · have hlk := of_decide_eq_true q
      simp only [pv_ca, hlk, tk1, tk2, hM, pv_fill, List.reverse_reverse, hfit, List.length_reverse, hci, true_or, if_true, and_self]
    · have hlk := of_decide_eq_true q
      simp only [pv_ca, hlk, tk1, tk2, hM, pv_fill, List.reverse_reverse, hfit, List.length_reverse, hci, or_true, if_true, and_self]
  have hone := pv_one_cx (xs := xs) (L := L) (d := d + 1) (lv := lv) h1 h2 (by rfl) (by rfl) (by rfl) hca
  have hmc : pv_mc z = 0 ∧ pv_ms z = 0 := by
    unfold pv_okz at o4
    simp only [Bool.and_eq_true, decide_eq_true_eq] at o4
    exact ⟨o4.1.1.2, o4.1.2⟩
  refine pv_Ev.call hone (by rw [pv_en_i o4, hlv]; exact hz) ?_
  rw [hmc.1, hmc.2]
  exact kk
theorem pv_e_cvLi {q : Int32} (ho : pv_okv y pc i z np ml ci = true) (hs : pv_shp[a]? = some (.inr (.inr (ci, fs)))) (hn : As.length = np) (hst : As.reverse ++ .ref a :: rs = st) (hlv : pv_pl (.ref a :: As) ++ List.replicate (ml - (pv_pl (.ref a :: As)).length) none = lv0) (hl : (pv_pl (.ref a :: As)).length ≤ ml) (hw : (rs.map fun v => v.category).sum ≤ 8) (hp : pc + 3 = pc') (hz : pv_Ev xs L d z (0, 0, 0, lv0, [], pv_mm s T) (some (.int q), pv_mm s' T')) (kk : pv_Ev xs L (d + 1) y (116, 23246, pc', lv, .int q :: rs, pv_mm s' T') r) (hy : y = pv_law := by rfl) : pv_Ev xs L (d + 1) y (116, 23246, pc, lv, st, pv_mm s T) r := pv_e_cvL ho hs hn hst hlv hl hw hp hz kk hy
theorem pv_e_cvLl {q : Int64} (ho : pv_okv y pc i z np ml ci = true) (hs : pv_shp[a]? = some (.inr (.inr (ci, fs)))) (hn : As.length = np) (hst : As.reverse ++ .ref a :: rs = st) (hlv : pv_pl (.ref a :: As) ++ List.replicate (ml - (pv_pl (.ref a :: As)).length) none = lv0) (hl : (pv_pl (.ref a :: As)).length ≤ ml) (hw : (rs.map fun v => v.category).sum ≤ 8) (hp : pc + 3 = pc') (hz : pv_Ev xs L d z (0, 0, 0, lv0, [], pv_mm s T) (some (.long q), pv_mm s' T')) (kk : pv_Ev xs L (d + 1) y (116, 23246, pc', lv, .long q :: rs, pv_mm s' T') r) (hy : y = pv_law := by rfl) : pv_Ev xs L (d + 1) y (116, 23246, pc, lv, st, pv_mm s T) r := pv_e_cvL ho hs hn hst hlv hl hw hp hz kk hy
theorem pv_e_rL {q : Int32} (hd : pv_dk y [(pc, .ireturn, 1)] = true) (hb : pv_bl x = some q) (hy : y = pv_law := by rfl) : pv_Ev xs L d y (116, 23246, pc, lv, [.int x], M) (some (.int q), M) := by
  subst hy
  obtain ⟨h1, h2⟩ := pv_dk1 hd
  unfold pv_bl at hb
  split at hb
  · next hc =>
    cases hb
    refine pv_Ev.ret (pv_one_rx h1 h2 rfl rfl rfl rfl ?_)
    have h3 : pv_rt pv_law = some .boolean := by decide +kernel
    have m1 : 116 ≤ pv_mc pv_law := by decide +kernel
    have m2 : 23246 ≤ pv_ms pv_law := by decide +kernel
    simp only [pv_re, h3, hc, m1, m2]
    simp
  · cases hb
end EL
