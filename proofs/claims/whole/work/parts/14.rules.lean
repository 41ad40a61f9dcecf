/-! the rules as the printed proofs use them; facts of the cells -/
def pv_an (a : Nat) : Nat := match pv_shp[a]? with
  | some (.inl n) => n
  | _ => 0
def pv_rln (a : Nat) : Nat := match pv_shp[a]? with
  | some (.inr (.inl (_, n, _))) => n
  | _ => 0
def pv_ias : List Nat := (List.range 94).filter fun a => match pv_shp[a]? with
  | some (.inl _) => true
  | _ => false
def pv_iam : List Nat := [95, 96, 97, 98, 99, 100, 101, 102, 103, 104, 105, 106, 107, 108, 109, 110, 111, 112, 113, 114, 115]
theorem fk_all : pv_folks.all (fun o => decide (o + 3 < 94) && (match pv_shp[o]?, pv_shp[o + 1]?, pv_shp[o + 2]?, pv_shp[o + 3]? with
  | some (.inr (.inr (1, fs))), some (.inl 7), some (.inl 7), some (.inl 7) => decide (fs = [.ref (o + 1), .ref (o + 2), .ref (o + 3), .int 0])
  | _, _, _, _ => false)) = true := by decide +kernel
theorem rw_all : pv_rows.all (fun o => decide (o + 1 < 94) && (match pv_shp[o]?, pv_shp[o + 1]? with
  | some (.inr (.inr (2, fs))), some (.inl n) => decide (fs = [.ref (o + 1), .int 0, .int 0]) && decide (n = pv_an (o + 1))
  | _, _ => false)) = true := by decide +kernel
theorem dd_all : pv_deeds.all (fun o => decide (o + 4 < 94) && (match pv_shp[o]?, pv_shp[o + 1]?, pv_shp[o + 2]?, pv_shp[o + 3]?, pv_shp[o + 4]? with
  | some (.inr (.inr (0, fs))), some (.inl 60), some (.inl 60), some (.inl 60), some (.inl 60) => decide (fs = [.ref (o + 1), .ref (o + 2), .ref (o + 3), .ref (o + 4), .int 0, .int 0])
  | _, _, _, _, _ => false)) = true := by decide +kernel
theorem fk {o : Nat} (h : o ∈ pv_folks) : pv_shp[o]? = some (.inr (.inr (1, [.ref (o + 1), .ref (o + 2), .ref (o + 3), .int 0]))) ∧ pv_shp[o + 1]? = some (.inl 7) ∧ pv_shp[o + 2]? = some (.inl 7) ∧ pv_shp[o + 3]? = some (.inl 7) ∧ o + 3 < 94 := by
  have h1 := List.all_eq_true.mp fk_all o h
  rw [Bool.and_eq_true] at h1
  have h2 := h1.2
  split at h2
  · next a1 a2 a3 a4 => exact ⟨by rw [a1, of_decide_eq_true h2], a2, a3, a4, of_decide_eq_true h1.1⟩
  · cases h2
theorem rw_ {o : Nat} (h : o ∈ pv_rows) : pv_shp[o]? = some (.inr (.inr (2, [.ref (o + 1), .int 0, .int 0]))) ∧ pv_shp[o + 1]? = some (.inl (pv_an (o + 1))) ∧ o + 1 < 94 := by
  have h1 := List.all_eq_true.mp rw_all o h
  rw [Bool.and_eq_true] at h1
  have h2 := h1.2
  split at h2
  · next a1 a2 =>
    rw [Bool.and_eq_true] at h2
    exact ⟨by rw [a1, of_decide_eq_true h2.1], by rw [a2, ← of_decide_eq_true h2.2], of_decide_eq_true h1.1⟩
  · cases h2
theorem dd {o : Nat} (h : o ∈ pv_deeds) : pv_shp[o]? = some (.inr (.inr (0, [.ref (o + 1), .ref (o + 2), .ref (o + 3), .ref (o + 4), .int 0, .int 0]))) ∧ pv_shp[o + 1]? = some (.inl 60) ∧ pv_shp[o + 2]? = some (.inl 60) ∧ pv_shp[o + 3]? = some (.inl 60) ∧ pv_shp[o + 4]? = some (.inl 60) ∧ o + 4 < 94 := by
  have h1 := List.all_eq_true.mp dd_all o h
  rw [Bool.and_eq_true] at h1
  have h2 := h1.2
  split at h2
  · next a1 a2 a3 a4 a5 => exact ⟨by rw [a1, of_decide_eq_true h2], a2, a3, a4, a5, of_decide_eq_true h1.1⟩
  · cases h2
theorem ia {a : Nat} (h : a ∈ pv_ias) : pv_shp[a]? = some (.inl (pv_an a)) ∧ a < 94 := by
  obtain ⟨h1, h2⟩ := List.mem_filter.mp h
  refine ⟨?_, List.mem_range.mp h1⟩
  unfold pv_an
  split at h2
  · next e => rw [e]
  · cases h2
theorem im_all : pv_iam.all (fun a => decide (94 ≤ a) && (match pv_shp[a]? with
  | some (.inl n) => decide (n = pv_an a)
  | _ => false)) = true := by decide +kernel
theorem im {a : Nat} (h : a ∈ pv_iam) : pv_shp[a]? = some (.inl (pv_an a)) ∧ 94 ≤ a := by
  have h1 := List.all_eq_true.mp im_all a h
  rw [Bool.and_eq_true] at h1
  have h2 := h1.2
  split at h2
  · next n e => rw [e, of_decide_eq_true h2]; exact ⟨rfl, of_decide_eq_true h1.1⟩
  · cases h2
theorem pv_ra_mem {a z q : Nat} {i : Int32} {P : List Nat} (hP : (List.range z).all (fun n => match pv_shp[a]? with
  | some (.inr (.inl (_, _, f))) => (match f n with
    | some q => decide (q ∈ P)
    | none => true)
  | _ => true) = true) (h : pv_ra a z i = some q) : q ∈ P := by
  unfold pv_ra at h
  split at h
  · next hi =>
    have hn : i.toNatClampNeg < z := by
      unfold pv_in at hi
      simp only [Bool.and_eq_true, decide_eq_true_eq] at hi
      exact hi.2
    have h1 := List.all_eq_true.mp hP _ (List.mem_range.mpr hn)
    split at h
    · next e =>
      rw [e] at h1
      dsimp only at h1
      rw [h] at h1
      exact of_decide_eq_true h1
    · cases h
  · cases h
theorem ra_rows {q : Nat} {i : Int32} (h : pv_ra 1 6 i = some q) : q ∈ pv_rows := pv_ra_mem (by decide +kernel) h
theorem ra_texts {q : Nat} {i : Int32} (h : pv_ra 2 4 i = some q) : q ∈ pv_rows := pv_ra_mem (by decide +kernel) h
theorem ra_kept {q : Nat} {i : Int32} (h : pv_ra 20 3 i = some q) : q ∈ pv_deeds := pv_ra_mem (by decide +kernel) h
theorem ra_levels {q : Nat} {i : Int32} (h : pv_ra 41 7 i = some q) : q ∈ pv_folks := pv_ra_mem (by decide +kernel) h
section ER
variable {xs : Nat → Int32} {L d y k n pc pc' len i j ci a b z ml np : Nat} {lv lv0 : pv_Lv} {st rs As : List Value} {M M1 : pv_M} {t t' : pv_St} {r : Option Value × pv_M} {ins : Instr} {as : List Value} {s s' : pv_F} {T T' : pv_T} {fs : List Value} {x : Int32}
theorem pv_e_cvi {q : Int32} (ho : pv_okv y pc i z np ml ci = true) (hs : pv_shp[a]? = some (.inr (.inr (ci, fs)))) (hn : As.length = np) (hst : As.reverse ++ .ref a :: rs = st) (hlv : pv_pl (.ref a :: As) ++ List.replicate (ml - (pv_pl (.ref a :: As)).length) none = lv0) (hl : (pv_pl (.ref a :: As)).length ≤ ml) (hw : (rs.map fun v => v.category).sum ≤ 8) (hp : pc + 3 = pc') (hz : pv_Ev xs L d z (0, 0, 0, lv0, [], pv_mm s T) (some (.int q), pv_mm s' T')) (kk : pv_Ev xs L (d + 1) y (0, 0, pc', lv, .int q :: rs, pv_mm s' T') r) : pv_Ev xs L (d + 1) y (0, 0, pc, lv, st, pv_mm s T) r := pv_e_cv ho hs hn hst hlv hl hw hp hz kk
theorem pv_e_cvl {q : Int64} (ho : pv_okv y pc i z np ml ci = true) (hs : pv_shp[a]? = some (.inr (.inr (ci, fs)))) (hn : As.length = np) (hst : As.reverse ++ .ref a :: rs = st) (hlv : pv_pl (.ref a :: As) ++ List.replicate (ml - (pv_pl (.ref a :: As)).length) none = lv0) (hl : (pv_pl (.ref a :: As)).length ≤ ml) (hw : (rs.map fun v => v.category).sum ≤ 8) (hp : pc + 3 = pc') (hz : pv_Ev xs L d z (0, 0, 0, lv0, [], pv_mm s T) (some (.long q), pv_mm s' T')) (kk : pv_Ev xs L (d + 1) y (0, 0, pc', lv, .long q :: rs, pv_mm s' T') r) : pv_Ev xs L (d + 1) y (0, 0, pc, lv, st, pv_mm s T) r := pv_e_cv ho hs hn hst hlv hl hw hp hz kk
theorem pv_e_cvf {q : Nat} (ho : pv_okv y pc i z np ml ci = true) (hs : pv_shp[a]? = some (.inr (.inr (ci, fs)))) (hn : As.length = np) (hst : As.reverse ++ .ref a :: rs = st) (hlv : pv_pl (.ref a :: As) ++ List.replicate (ml - (pv_pl (.ref a :: As)).length) none = lv0) (hl : (pv_pl (.ref a :: As)).length ≤ ml) (hw : (rs.map fun v => v.category).sum ≤ 8) (hp : pc + 3 = pc') (hz : pv_Ev xs L d z (0, 0, 0, lv0, [], pv_mm s T) (some (.ref q), pv_mm s' T')) (kk : pv_Ev xs L (d + 1) y (0, 0, pc', lv, .ref q :: rs, pv_mm s' T') r) : pv_Ev xs L (d + 1) y (0, 0, pc, lv, st, pv_mm s T) r := pv_e_cv ho hs hn hst hlv hl hw hp hz kk
theorem pv_e_cvv (ho : pv_okv y pc i z np ml ci = true) (hs : pv_shp[a]? = some (.inr (.inr (ci, fs)))) (hn : As.length = np) (hst : As.reverse ++ .ref a :: rs = st) (hlv : pv_pl (.ref a :: As) ++ List.replicate (ml - (pv_pl (.ref a :: As)).length) none = lv0) (hl : (pv_pl (.ref a :: As)).length ≤ ml) (hw : (rs.map fun v => v.category).sum ≤ 8) (hp : pc + 3 = pc') (hz : pv_Ev xs L d z (0, 0, 0, lv0, [], pv_mm s T) (none, pv_mm s' T')) (kk : pv_Ev xs L (d + 1) y (0, 0, pc', lv, rs, pv_mm s' T') r) : pv_Ev xs L (d + 1) y (0, 0, pc, lv, st, pv_mm s T) r := pv_e_cv ho hs hn hst hlv hl hw hp hz kk
theorem pv_e_csi {q : Int32} (ho : pv_oks y pc i z np ml = true) (hn : As.length = np) (hst : As.reverse ++ rs = st) (hlv : pv_pl As ++ List.replicate (ml - (pv_pl As).length) none = lv0) (hl : (pv_pl As).length ≤ ml) (hw : (rs.map fun v => v.category).sum ≤ 8) (hp : pc + 3 = pc') (hz : pv_Ev xs L d z (0, 0, 0, lv0, [], M) (some (.int q), M1)) (kk : pv_Ev xs L (d + 1) y (0, 0, pc', lv, .int q :: rs, M1) r) : pv_Ev xs L (d + 1) y (0, 0, pc, lv, st, M) r := pv_e_cs ho hn hst hlv hl hw hp hz kk
theorem pv_e_csv (ho : pv_oks y pc i z np ml = true) (hn : As.length = np) (hst : As.reverse ++ rs = st) (hlv : pv_pl As ++ List.replicate (ml - (pv_pl As).length) none = lv0) (hl : (pv_pl As).length ≤ ml) (hw : (rs.map fun v => v.category).sum ≤ 8) (hp : pc + 3 = pc') (hz : pv_Ev xs L d z (0, 0, 0, lv0, [], M) (none, M1)) (kk : pv_Ev xs L (d + 1) y (0, 0, pc', lv, rs, M1) r) : pv_Ev xs L (d + 1) y (0, 0, pc, lv, st, M) r := pv_e_cs ho hn hst hlv hl hw hp hz kk
theorem pv_e_dv {q w : Int32} (hd : pv_dk y [(pc, .idiv, 1)] = true) (hr : pv_dv x w = some q) (hp : pc + 1 = pc') (kk : pv_Ev xs L d y (k, n, pc', lv, .int q :: st, M) r) : pv_Ev xs L d y (k, n, pc, lv, .int w :: .int x :: st, M) r := by
  subst hp
  unfold pv_dv at hr
  split at hr
  · cases hr
  · next hc => cases hr; exact pv_e_bk hd (by simp [pv_bk, pv_b1, pv_ld, pv_so, pv_al, pv_ax, hc]) kk
theorem pv_e_rm_ {q w : Int32} (hd : pv_dk y [(pc, .irem, 1)] = true) (hr : pv_rmd x w = some q) (hp : pc + 1 = pc') (kk : pv_Ev xs L d y (k, n, pc', lv, .int q :: st, M) r) : pv_Ev xs L d y (k, n, pc, lv, .int w :: .int x :: st, M) r := by
  subst hp
  unfold pv_rmd at hr
  split at hr
  · cases hr
  · next hc => cases hr; exact pv_e_bk hd (by simp [pv_bk, pv_b1, pv_ld, pv_so, pv_al, pv_ax, hc]) kk
theorem pv_e_ldv {q w u : Int64} (hd : pv_dk y [(pc, .ldiv, 1)] = true) (hr : pv_ldv u w = some q) (hp : pc + 1 = pc') (kk : pv_Ev xs L d y (k, n, pc', lv, .long q :: st, M) r) : pv_Ev xs L d y (k, n, pc, lv, .long w :: .long u :: st, M) r := by
  subst hp
  unfold pv_ldv at hr
  split at hr
  · cases hr
  · next hc => cases hr; exact pv_e_bk hd (by simp [pv_bk, pv_b1, pv_ld, pv_so, pv_al, pv_ax, hc]) kk
theorem pv_e_lrm {q w u : Int64} (hd : pv_dk y [(pc, .lrem, 1)] = true) (hr : pv_lrm u w = some q) (hp : pc + 1 = pc') (kk : pv_Ev xs L d y (k, n, pc', lv, .long q :: st, M) r) : pv_Ev xs L d y (k, n, pc, lv, .long w :: .long u :: st, M) r := by
  subst hp
  unfold pv_lrm at hr
  split at hr
  · cases hr
  · next hc => cases hr; exact pv_e_bk hd (by simp [pv_bk, pv_b1, pv_ld, pv_so, pv_al, pv_ax, hc]) kk
theorem pv_e_len {f : Nat → Option Nat} {zz : Nat} (hd : pv_dk y [(pc, .arraylength, 1)] = true) (hs : pv_shp[a]? = some (.inr (.inl (ci, zz, f)))) (hc : ci < 3) (hp : pc + 1 = pc') (kk : pv_Ev xs L d y (k, n, pc', lv, .int (Int32.ofNat zz) :: st, pv_mm s T) r) : pv_Ev xs L d y (k, n, pc, lv, .ref a :: st, pv_mm s T) r := by
  subst hp
  obtain ⟨h1, h2⟩ := pv_dk1 hd
  have hM := pv_mm_at (s := s) (T := T) hs
  exact pv_Ev.next (pv_one_me h1 h2 rfl (by simp only [pv_me, hM, pv_fill, hc, if_true])) kk
end ER
def pv_ush (x y : Int32) : Int32 := (x.toUInt32 >>> (y.toUInt32 &&& Int32.toUInt32 31)).toInt32
section EP
variable {xs : Nat → Int32} {L d y k n pc pc' i j ci a : Nat} {lv : pv_Lv} {st : List Value} {r : Option Value × pv_M} {s s' : pv_F} {T T' : pv_T} {fs : List Value} {x : Int32}
theorem pv_e_pcs {zz : Int32} (ho : pv_okp y pc i ci j = true) (hn : narrow (pv_ft ci j) (.int x) = .int x) (hf : fits (pv_ft ci j) (.int x) = true) (ha : a < 94) (hs : pv_shp[a]? = some (.inr (.inr (ci, fs)))) (hj : fs[j]? = some (.int zz)) (hr : pv_pf s a j x = some s') (hp : pc + 3 = pc') (kk : pv_Ev xs L d y (k, n, pc', lv, st, pv_mm s' T) r) : pv_Ev xs L d y (k, n, pc, lv, .int x :: .ref a :: st, pv_mm s T) r := by
  obtain rfl : pv_up s a j x = s' := Option.some.inj hr
  exact pv_e_pc ho hn hf ha hs hj hp kk
theorem pv_e_pms {zz : Int32} (ho : pv_okp y pc i ci j = true) (hn : narrow (pv_ft ci j) (.int x) = .int x) (hf : fits (pv_ft ci j) (.int x) = true) (ha : 94 ≤ a) (hs : pv_shp[a]? = some (.inr (.inr (ci, fs)))) (hj : fs[j]? = some (.int zz)) (hr : pv_pm T a j x = some T') (hp : pc + 3 = pc') (kk : pv_Ev xs L d y (k, n, pc', lv, st, pv_mm s T') r) : pv_Ev xs L d y (k, n, pc, lv, .int x :: .ref a :: st, pv_mm s T) r := by
  obtain rfl : (pv_up T.1 a j x, T.2) = T' := Option.some.inj hr
  exact pv_e_pm ho hn hf ha hs hj hp kk
theorem pv_e_pls {q : Int64} (ho : pv_okp y pc i 6 35 = true) (hr : pv_plg T q = some T') (hp : pc + 3 = pc') (kk : pv_Ev xs L d y (k, n, pc', lv, st, pv_mm s T') r) : pv_Ev xs L d y (k, n, pc, lv, .long q :: .ref 94 :: st, pv_mm s T) r := by
  obtain rfl : (T.1, q) = T' := Option.some.inj hr
  exact pv_e_pl ho hp kk
end EP
theorem ra_both {a q : Nat} {i : Int32} (h : a = 1 ∨ a = 2) (e : pv_ra a (pv_rln a) i = some q) : q ∈ pv_rows := by
  rcases h with rfl | rfl
  · exact ra_rows e
  · exact ra_texts e
theorem ra_shape {a : Nat} (h : a = 1 ∨ a = 2) : ∃ f, pv_shp[a]? = some (.inr (.inl (2, pv_rln a, f))) := by
  rcases h with rfl | rfl
  · exact ⟨_, rfl⟩
  · exact ⟨_, rfl⟩
