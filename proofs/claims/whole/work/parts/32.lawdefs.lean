/-! The law: what holds at its loop's head, and that each call keeps it. -/
def LInv (n kc : Nat) (fs ss ed lm ce cw iss sb len : Nat → Int32) : Prop :=
  n ≤ 8 ∧ kc ≤ 60 ∧ (∀ i, i < n → sgP fs i) ∧ (∀ i, i < n → sgP ss i) ∧ rootOK fs ss n ∧ lmOK lm n ∧ certOK n iss len kc ∧ subOK sb kc ∧ (∀ i, i < n → ce i = edV fs ss ed i) ∧ (∀ i, i < n → cw i = cnV fs ss i)
theorem LInv_0 {fs ss ed lm ce cw iss sb len : Nat → Int32} : LInv 0 0 fs ss ed lm ce cw iss sb len :=
  ⟨Nat.zero_le _, Nat.zero_le _, fun i h => absurd h (Nat.not_lt_zero i), fun i h => absurd h (Nat.not_lt_zero i), fun i h => absurd h (Nat.not_lt_zero i), fun i h => absurd h (Nat.not_lt_zero i), fun i h => absurd h (Nat.not_lt_zero i), fun i h => absurd h (Nat.not_lt_zero i), fun i h => absurd h (Nat.not_lt_zero i), fun i h => absurd h (Nat.not_lt_zero i)⟩
theorem cdAdd_ok {n : Nat} {sg fr to li : Int32} (h : cdAdd n sg fr to li = 0) : (sg = -1 ∨ badI n sg = false) ∧ ¬ li < 0 ∧ li ≤ 50 ∧ ¬ 8 ≤ n := by
  unfold cdAdd at h
  cases h1 : (!decide (sg = -1) && badI n sg)
  · rw [h1] at h
    cases h2 : (badD fr || badD to || !decide (fr ≤ to) || decide (li < 0) || !decide (li ≤ 50))
    · rw [h2] at h
      by_cases h3 : 8 ≤ n
      · rw [if_neg (by decide), if_neg (by decide), if_pos h3] at h; exact absurd h (by decide)
      · simp only [Bool.or_eq_false_iff, decide_eq_false_iff_not, Bool.not_eq_false', decide_eq_true_eq] at h2
        simp only [Bool.and_eq_false_iff, Bool.not_eq_false', decide_eq_true_eq] at h1
        exact ⟨h1, h2.1.2, h2.2, h3⟩
    · rw [h2] at h; simp at h
  · rw [h1] at h; simp at h
theorem LInv_add {n kc : Nat} {fs ss ed lm ce cw iss sb len : Nat → Int32} {sg fr to li : Int32} (hI : LInv n kc fs ss ed lm ce cw iss sb len) (hcd : cdAdd n sg fr to li = 0) :
    LInv (n + 1) kc (upd fs n sg) (upd ss n (-1)) (upd ed n to) (upd lm n li) (ucE (upd fs n sg) (upd ss n (-1)) (upd ed n to) n ce 1) (ucC (upd fs n sg) (upd ss n (-1)) n cw 1) iss sb len := by
  obtain ⟨hn, hk, hfs, hss, hro, hlm, hok, hsb, hce, hcw⟩ := hI
  obtain ⟨a1, a2, a3, a4⟩ := cdAdd_ok hcd
  have s1 : ∀ i, i < n + 1 → sgP (upd fs n sg) i := sgP_upd hfs (a1.imp id (fun h => badI_ok h (by omega)))
  have s2 : ∀ i, i < n + 1 → sgP (upd ss n (-1)) i := sgP_upd hss (Or.inl rfl)
  have r : rootOK (upd fs n sg) (upd ss n (-1)) (n + 1) := by
    intro i hi h
    by_cases e : i = n
    · rw [e, upd_eq]
    · rw [upd_ne _ _ e] at h ⊢; exact hro i (by omega) h
  have l : lmOK (upd lm n li) (n + 1) := by
    intro i hi
    by_cases e : i = n
    · have e2 := k_ix a2
      refine ⟨ix li, ?_, ?_⟩
      · rw [e2] at a3; exact k_leN (b := 50) (ix_lt a2) (by omega) a3
      · rw [e, upd_eq]; exact e2
    · rw [upd_ne _ _ e]; exact hlm i (by omega)
  refine ⟨by omega, hk, s1, s2, r, l, fun i hi => ?_, hsb, ?_, ?_⟩
  · obtain ⟨c1, c2, c3⟩ := hok i hi
    exact ⟨c1, by omega, c3⟩
  · exact ucE_ed (n := n + 1) (j := n) s1 s2 r (fun i hi => (hce i hi).trans (edV_cong (k := n) (fun j hj => ⟨(upd_ne _ _ (by omega)).symm, (upd_ne _ _ (by omega)).symm, (upd_ne _ _ (by omega)).symm⟩) hi)) 1 (Nat.le_refl _)
  · exact ucC_cn (n := n + 1) (j := n) s1 s2 r (fun i hi => (hcw i hi).trans (cnV_cong (k := n) (fun j hj => ⟨(upd_ne _ _ (by omega)).symm, (upd_ne _ _ (by omega)).symm⟩) hi)) 1 (Nat.le_refl _)
theorem cdCross_ok {n : Nat} {fs ss : Nat → Int32} {i s : Int32} (h : cdCross n fs ss i s = 0) : badI n i = false ∧ badI n s = false ∧ s < i ∧ ¬ fs (ix i) = -1 := by
  unfold cdCross at h
  cases h1 : (badI n i || badI n s)
  · rw [h1] at h
    by_cases h2 : s < i
    · by_cases h3 : ¬ fs (ix i) = -1 ∧ ss (ix i) = -1 ∧ ¬ fs (ix i) = s
      · simp only [Bool.or_eq_false_iff] at h1
        exact ⟨h1.1, h1.2, h2, h3.1⟩
      · rw [if_neg (by decide), if_neg (by simp [h2]), if_neg h3] at h; exact absurd h (by decide)
    · rw [if_neg (by decide), if_pos (by simp [h2])] at h; exact absurd h (by decide)
  · rw [h1] at h; simp at h
theorem LInv_cross {n kc : Nat} {fs ss ed lm ce cw iss sb len : Nat → Int32} {i s : Int32} (hI : LInv n kc fs ss ed lm ce cw iss sb len) (hcd : cdCross n fs ss i s = 0) :
    LInv n kc fs (upd ss (ix i) (nI (ix s))) ed lm (ucE fs (upd ss (ix i) (nI (ix s))) ed (ix i) ce (n - ix i)) (ucC fs (upd ss (ix i) (nI (ix s))) (ix i) cw (n - ix i)) iss sb len := by
  obtain ⟨hn, hk, hfs, hss, hro, hlm, hok, hsb, hce, hcw⟩ := hI
  obtain ⟨a1, a2, a3, a4⟩ := cdCross_ok hcd
  obtain ⟨i1, i2⟩ := badI_ok a1 (by omega)
  obtain ⟨j1, j2⟩ := badI_ok a2 (by omega)
  have hlt : ix s < ix i := k_ltN (by omega) (by omega) (by rw [← i1, ← j1]; exact a3)
  have s2 : ∀ k, k < n → sgP (upd ss (ix i) (nI (ix s))) k := sgP_put hss hlt (by omega)
  have r : rootOK fs (upd ss (ix i) (nI (ix s))) n := by
    intro k hk h
    by_cases e : k = ix i
    · rw [e] at h; exact absurd h a4
    · rw [upd_ne _ _ e]; exact hro k hk h
  refine ⟨hn, hk, hfs, s2, r, hlm, hok, hsb, ?_, ?_⟩
  · intro k hk
    exact ucE_ed (n := n) (j := ix i) hfs s2 r (fun t ht => (hce t (by omega)).trans (edV_cong (k := ix i) (fun q hq => ⟨rfl, (upd_ne _ _ (by omega)).symm, rfl⟩) ht)) (n - ix i) (by omega) k (by omega)
  · intro k hk
    exact ucC_cn (n := n) (j := ix i) hfs s2 r (fun t ht => (hcw t (by omega)).trans (cnV_cong (k := ix i) (fun q hq => ⟨rfl, (upd_ne _ _ (by omega)).symm⟩) ht)) (n - ix i) (by omega) k (by omega)
theorem LInv_issue {n kc : Nat} {fs ss fd ed lm dd ce cw iss sb fst len pins : Nat → Int32} {dy i su ln : Int32} (hI : LInv n kc fs ss ed lm ce cw iss sb len) (hcd : cdIss (decide (canC fs ss fd ed lm dd n iss fst kc pins dy (ix i) su)) n i su ln = 0) :
    LInv n (kc + 1) fs ss ed lm ce cw (upd iss kc i) (upd sb kc su) (upd len kc ln) := by
  obtain ⟨hn, hk, hfs, hss, hro, hlm, hok, hsb, hce, hcw⟩ := hI
  obtain ⟨a1, a2, a3, a4, a5, a6⟩ := cd_iss_ok hcd
  have a7 : ¬ 60 ≤ kc := (of_decide_eq_true a6).1
  obtain ⟨i1, i2⟩ := badI_ok a1 (by omega)
  refine ⟨hn, by omega, hfs, hss, hro, hlm, certOK_mk hok i1 i2 (ln_ne a4 a5), ?_, hce, hcw⟩
  intro k hk
  by_cases e : k = kc
  · rw [e, upd_eq]; exact sub_range a2 a3
  · rw [upd_ne _ _ e]; exact hsb k (by omega)
theorem badI_nn {n : Nat} {p : Int32} (h : badI n p = false) : ¬ p < 0 := by
  simp only [badI, Bool.or_eq_false_iff, decide_eq_false_iff_not] at h
  exact h.1
theorem wk_wk {n : Nat} {fs ss fd ed dd iss sb fst len : Nat → Int32} {kc : Nat} {day : Int32} (hn : n ≤ 8) (h1 : ∀ i, i < n → sgP fs i) (h2 : ∀ i, i < n → sgP ss i) (hc : certOK n iss len kc) (hs : subOK sb kc) :
    (wkN (fun x => bsN x 16) (fun k => lostM fs ss fd ed dd iss sb fst len kc day (nI k)) n).1 = (wkN bcN (fun k => lostC fs ss fd ed dd n iss sb fst len kc day (nI k)) n).1 := by
  refine congrArg Prod.fst (wkN_cong n (fun k _ => ?_))
  show bsN (lostM fs ss fd ed dd iss sb fst len kc day (nI k)) 16 = bcN (lostC fs ss fd ed dd n iss sb fst len kc day (nI k))
  rw [lost_lost hn h1 h2 hc hs]
  obtain ⟨m, m1, m2⟩ := lost_16 (fs := fs) (ss := ss) (fd := fd) (ed := ed) (dd := dd) (n := n) (iss := iss) (fst := fst) (len := len) (day := day) (wo := nI k) hs
  rw [m2, bc_bs m1]
theorem updL_0 {f : Nat → Int64} {x : Int64} : vp_updL f 0 x (Int32.toNatClampNeg 0) = x := if_pos rfl
/-! The law's own ground. -/
abbrev lwA (s : State) : Nat → Prop := fun q => s.heap.size ≤ q
def LC (p : Program) (l : Launch) (s : State) (m : MethodId) (c : Code) (D : va_G) (cy : ClassId × ClassId × ClassId) (b L : Nat) (xs : Nat → Int32) : Prop :=
  p.tables.exec = Jvm.exec ∧ c.code = code ∧ c.maxLocals = 7 ∧ s.vm.findClass RL = some m.cls ∧ (∀ w ∈ wsL_law, w.before #[Value.ref b] s = true) ∧ va_X b L xs s s.heap ∧ b < s.heap.size ∧ kE D cy s ∧ kZ (lwA s) s s.heap ∧ l.stackTraces = false
section LROW
variable {p : Program} {l : Launch} {e : Env} {R : Room} {s : State} {m : MethodId} {args : Array Value} {below : List Frame} {meth : Method} {c : Code} {H : Heap} {locs : List Loc} {cells slots : Nat} {Q : State → Prop} {pc : Nat} {ls : Array Slot} {rest : List Value}
/-- a number of the script -/
theorem kl_rd {b L : Nat} {xs : Nat → Int32} (hx : p.tables.exec = Jvm.exec) (hb : c.code = code) (hX : va_X b L xs s s.heap) (hbl : b < s.heap.size) (hS : va_S (lwA s) s.heap H locs) {x q : Int32} {j : Int} {k : Nat} (h0 : ls[0]? = some (.val (.ref b))) (h4 : ls[4]? = some (.val (.int x)))
    (hj : Int32.ofInt j = nI k) (hin : vp_in (x + nI k) L) (hq : xs (x + nI k).toNatClampNeg = q) (d0 : decode code pc = .ok (.aload_n 0, 1)) (d1 : decode code (pc + 1) = .ok (.iload 4, 2)) (d3 : decode code (pc + 3) = .ok (.iconst j, 1)) (d4 : decode code (pc + 4) = .ok (.iadd, 1)) (d5 : decode code (pc + 5) = .ok (.iaload, 1))
    (kk : W p l e R s m args below meth c H locs cells slots Q (F0 m (pc + 6) ls (.int q :: rest))) : W p l e R s m args below meth c H locs cells slots Q (F0 m pc ls rest) := by
  refine lv_aload_n hx hb d0 rfl h0 ?_
  refine lv_iload hx hb d1 h4 ?_
  refine lv_iconst (v := nI k) hx hb d3 hj ?_
  refine lv_iadd hx hb d4 ?_
  refine va_sld hx hb hX hbl (Nat.not_le.mpr hbl) hS hin d5 ?_
  rw [hq]
  exact kk
end LROW
