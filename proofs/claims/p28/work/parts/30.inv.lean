/-! What holds of the object through the law's run. -/
/-- the certificates: td is today -/
def CInv (n kc td : Nat) (lm iss sb fst len ren : Nat → Int32) : Prop :=
  kc ≤ 60 ∧ subOK sb kc ∧
  (∀ c, c < kc → iss c = nI (ix (iss c)) ∧ ix (iss c) < n ∧ fst c = nI (ix (fst c)) ∧ ix (fst c) ≤ td ∧ len c = nI (ix (len c)) ∧ 1 ≤ ix (len c) ∧ ix (len c) ≤ 400) ∧
  (∀ c, c < kc → ren c = -1 ∨ (ren c = nI (ix (ren c)) ∧ c < ix (ren c) ∧ ix (ren c) < kc ∧ iss (ix (ren c)) = iss c ∧ len (ix (ren c)) = len c ∧ ix (fst c) ≤ ix (fst (ix (ren c))))) ∧
  (∀ i, i < n → lm i = nI (ix (lm i)) ∧ ix (lm i) ≤ 50 ∧ ∃ c, c ≤ ix (lm i) ∧ iwN iss fst (nI i) (nI td / 7) kc = nI c)
def PInv (n kc td : Nat) (fs ss lm ce cw iss sb fst len ren : Nat → Int32) : Prop :=
  n ≤ 8 ∧ (∀ i, i < n → sgP fs i) ∧ (∀ i, i < n → ss i = -1) ∧ (∀ i, i < n → ce i ≤ 5000) ∧ (∀ i, i < n → cw i = 1) ∧ CInv n kc td lm iss sb fst len ren
theorem PInv_0 {fs ss lm ce cw iss sb fst len ren : Nat → Int32} : PInv 0 0 0 fs ss lm ce cw iss sb fst len ren :=
  ⟨Nat.zero_le _, fun i h => absurd h (Nat.not_lt_zero i), fun i h => absurd h (Nat.not_lt_zero i), fun i h => absurd h (Nat.not_lt_zero i), fun i h => absurd h (Nat.not_lt_zero i), Nat.zero_le _, fun i h => absurd h (Nat.not_lt_zero i), fun i h => absurd h (Nat.not_lt_zero i), fun i h => absurd h (Nat.not_lt_zero i), fun i h => absurd h (Nat.not_lt_zero i)⟩
theorem PInv.sgs {n kc td : Nat} {fs ss lm ce cw iss sb fst len ren : Nat → Int32} (h : PInv n kc td fs ss lm ce cw iss sb fst len ren) : ∀ i, i < n → sgP ss i := fun i hi => Or.inl (h.2.2.1 i hi)
theorem len_ne {m : Nat} (h : m ≤ 400) : ¬ nI m / 6 + 1 = 0 := by
  rw [show (6 : Int32) = nI 6 from rfl, pk_div (by omega) (by omega) (by omega), nI_1]
  exact nI_ne0 (by omega) (by omega)
theorem CInv.ok {n kc td : Nat} {lm iss sb fst len ren : Nat → Int32} (h : CInv n kc td lm iss sb fst len ren) : certOK n iss len kc := by
  intro c hc
  obtain ⟨a1, a2, a3, a4, a5, a6, a7⟩ := h.2.2.1 c hc
  refine ⟨a1, a2, ?_⟩
  rw [a5]
  exact len_ne a7
/-- weeks: only what lies below k counts -/
theorem iwN_cong {iss fst iss' fst' : Nat → Int32} {iu wk : Int32} : ∀ k : Nat, (∀ c, c < k → iss c = iss' c ∧ fst c = fst' c) → iwN iss fst iu wk k = iwN iss' fst' iu wk k := by
  intro k
  induction k with
  | zero => intro _; rfl
  | succ k ih =>
    intro h
    obtain ⟨h1, h2⟩ := h k (by omega)
    rw [iwN, iwN, ih (fun c hc => h c (by omega)), h1, h2]
theorem iwN_none {iss fst : Nat → Int32} {iu wk : Int32} : ∀ k : Nat, (∀ c, c < k → ¬ (iss c = iu ∧ fst c / 7 = wk)) → iwN iss fst iu wk k = 0 := by
  intro k
  induction k with
  | zero => intro _; rfl
  | succ k ih =>
    intro h
    rw [iwN, if_neg (h k (by omega)), ih (fun c hc => h c (by omega))]
theorem d7 {a : Nat} (h : a < 2147483648) : nI a / 7 = nI (a / 7) := pk_div (d := 7) (by omega) (by omega) (by omega)
theorem sub_nI {v c : Nat} (h : c ≤ v) : nI v - nI c = nI (v - c) := by
  have e : nI v = nI (v - c) + nI c := by rw [nI_add]; congr 1; omega
  rw [e]
  exact Int32.add_sub_cancel _ _
/-- a certificate comes, of issuer i, who has room -/
theorem CInv_mk {n kc td i : Nat} {lm iss sb fst len ren : Nat → Int32} {su ln : Int32} (h : CInv n kc td lm iss sb fst len ren) (hn : n ≤ 8) (hi : i < n) (hk : kc < 60) (hroom : ¬ lm i - iwN iss fst (nI i) (nI td / 7) kc ≤ 0) (hs : su = nI (ix su) ∧ ix su < 20) (hl : ln = nI (ix ln) ∧ 1 ≤ ix ln ∧ ix ln ≤ 400) (htd : td ≤ 3000) :
    CInv n (kc + 1) td lm (upd iss kc (nI i)) (upd sb kc su) (upd fst kc (nI td)) (upd len kc ln) (upd ren kc (-1)) := by
  obtain ⟨a1, a2, a3, a4, a5⟩ := h
  refine ⟨by omega, ?_, ?_, ?_, ?_⟩
  · intro c hc
    by_cases e : c = kc
    · rw [e, upd_eq]; exact hs
    · rw [upd_ne _ _ e]; exact a2 c (by omega)
  · intro c hc
    by_cases e : c = kc
    · rw [e, upd_eq, upd_eq, upd_eq, ix_nI (by omega), ix_nI (by omega)]
      exact ⟨rfl, hi, rfl, Nat.le_refl _, hl.1, hl.2.1, hl.2.2⟩
    · rw [upd_ne _ _ e, upd_ne _ _ e, upd_ne _ _ e]; exact a3 c (by omega)
  · intro c hc
    by_cases e : c = kc
    · rw [e, upd_eq]; exact Or.inl rfl
    · rw [upd_ne _ _ e]
      rcases a4 c (by omega) with h | ⟨b1, b2, b3, b4, b5, b6⟩
      · exact Or.inl h
      · refine Or.inr ⟨b1, b2, by omega, ?_, ?_, ?_⟩
        · rw [upd_ne _ _ (by omega), upd_ne _ _ e]; exact b4
        · rw [upd_ne _ _ (by omega), upd_ne _ _ e]; exact b5
        · rw [upd_ne _ _ e, upd_ne _ _ (by omega)]; exact b6
  · intro j hj
    obtain ⟨b1, b2, c, c1, c2⟩ := a5 j hj
    refine ⟨b1, b2, ?_⟩
    have e0 : iwN (upd iss kc (nI i)) (upd fst kc (nI td)) (nI j) (nI td / 7) kc = nI c := by
      rw [← c2]
      exact iwN_cong kc (fun q hq => ⟨upd_ne _ _ (by omega), upd_ne _ _ (by omega)⟩)
    rw [iwN, e0, upd_eq, upd_eq]
    by_cases e : i = j
    · subst e
      rw [if_pos ⟨rfl, rfl⟩, nI_1]
      refine ⟨c + 1, ?_, rfl⟩
      rw [c2, b1, sub_nI c1] at hroom
      have := k_le0f (a := ix (lm i) - c) (by omega) hroom
      omega
    · rw [if_neg (fun q => e (k_eqN (by omega) (by omega) q.1))]
      exact ⟨c, c1, rfl⟩
/-- a day goes by -/
theorem CInv_day {n kc td : Nat} {lm iss sb fst len ren : Nat → Int32} (h : CInv n kc td lm iss sb fst len ren) (htd : td ≤ 3000) : CInv n kc (td + 1) lm iss sb fst len ren := by
  obtain ⟨a1, a2, a3, a4, a5⟩ := h
  refine ⟨a1, a2, fun c hc => ?_, a4, fun i hi => ?_⟩
  · obtain ⟨b1, b2, b3, b4, b5⟩ := a3 c hc
    exact ⟨b1, b2, b3, by omega, b5⟩
  · obtain ⟨b1, b2, c, c1, c2⟩ := a5 i hi
    refine ⟨b1, b2, ?_⟩
    by_cases e : (td + 1) / 7 = td / 7
    · refine ⟨c, c1, ?_⟩
      rw [d7 (by omega), e, ← d7 (by omega)]; exact c2
    · refine ⟨0, Nat.zero_le _, ?_⟩
      refine iwN_none kc (fun q hq w => ?_)
      obtain ⟨-, -, b3, b4, -⟩ := a3 q hq
      have w2 := w.2
      rw [b3, d7 (by omega), d7 (by omega)] at w2
      have := k_eqN (by omega) (by omega) w2
      omega
/-- certificate o, of the day td, is renewed -/
theorem CInv_rnMk {n td o : Nat} {lm : Nat → Int32} {X : CS} (h : CInv n (cK X) td lm (cI X) (cS X) (cF X) (cL X) (cR X)) (hn : n ≤ 8) (ho : o < cK X) (hk : cK X < 60) (hroom : ¬ lm (ix (cI X o)) - iwN (cI X) (cF X) (nI (ix (cI X o))) (nI td / 7) (cK X) ≤ 0) (htd : td ≤ 3000) :
    CInv n (cK (rnMk (nI td) X o)) td lm (cI (rnMk (nI td) X o)) (cS (rnMk (nI td) X o)) (cF (rnMk (nI td) X o)) (cL (rnMk (nI td) X o)) (cR (rnMk (nI td) X o)) := by
  obtain ⟨a1, a2, a3, a4, a5, a6, a7⟩ := h.2.2.1 o ho
  have m := CInv_mk (i := ix (cI X o)) (su := cS X o) (ln := cL X o) h hn a2 hk hroom (h.2.1 o ho) ⟨a5, a6, a7⟩ htd
  obtain ⟨m1, m2, m3, m4, m5⟩ := m
  refine ⟨m1, m2, m3, ?_, m5⟩
  intro c hc
  have hc' : c < cK X + 1 := hc
  show upd (upd (cR X) (cK X) (-1)) o (nI (cK X)) c = -1 ∨ _
  by_cases e : c = o
  · subst e
    right
    show upd (upd (cR X) (cK X) (-1)) c (nI (cK X)) c = nI (ix (upd (upd (cR X) (cK X) (-1)) c (nI (cK X)) c)) ∧ c < ix (upd (upd (cR X) (cK X) (-1)) c (nI (cK X)) c) ∧ ix (upd (upd (cR X) (cK X) (-1)) c (nI (cK X)) c) < cK X + 1 ∧ upd (cI X) (cK X) (nI (ix (cI X c))) (ix (upd (upd (cR X) (cK X) (-1)) c (nI (cK X)) c)) = upd (cI X) (cK X) (nI (ix (cI X c))) c ∧ upd (cL X) (cK X) (cL X c) (ix (upd (upd (cR X) (cK X) (-1)) c (nI (cK X)) c)) = upd (cL X) (cK X) (cL X c) c ∧ ix (upd (cF X) (cK X) (nI td) c) ≤ ix (upd (cF X) (cK X) (nI td) (ix (upd (upd (cR X) (cK X) (-1)) c (nI (cK X)) c)))
    rw [upd_eq, ix_nI (by omega), upd_eq, upd_eq, upd_eq, upd_ne _ _ (by omega), upd_ne _ _ (by omega), upd_ne _ _ (by omega), ix_nI (by omega)]
    exact ⟨rfl, ho, by omega, a1.symm, rfl, a4⟩
  · rw [show upd (upd (cR X) (cK X) (-1)) o (nI (cK X)) c = upd (cR X) (cK X) (-1) c from upd_ne _ _ e]
    rcases m4 c hc with q | q
    · exact Or.inl q
    · right
      show upd (upd (cR X) (cK X) (-1)) o (nI (cK X)) c = nI (ix (upd (upd (cR X) (cK X) (-1)) o (nI (cK X)) c)) ∧ c < ix (upd (upd (cR X) (cK X) (-1)) o (nI (cK X)) c) ∧ ix (upd (upd (cR X) (cK X) (-1)) o (nI (cK X)) c) < cK X + 1 ∧ upd (cI X) (cK X) (nI (ix (cI X o))) (ix (upd (upd (cR X) (cK X) (-1)) o (nI (cK X)) c)) = upd (cI X) (cK X) (nI (ix (cI X o))) c ∧ upd (cL X) (cK X) (cL X o) (ix (upd (upd (cR X) (cK X) (-1)) o (nI (cK X)) c)) = upd (cL X) (cK X) (cL X o) c ∧ ix (upd (cF X) (cK X) (nI td) c) ≤ ix (upd (cF X) (cK X) (nI td) (ix (upd (upd (cR X) (cK X) (-1)) o (nI (cK X)) c)))
      rw [show upd (upd (cR X) (cK X) (-1)) o (nI (cK X)) c = upd (cR X) (cK X) (-1) c from upd_ne _ _ e]
      exact q
abbrev CInvX (n td : Nat) (lm : Nat → Int32) (X : CS) : Prop := CInv n (cK X) td lm (cI X) (cS X) (cF X) (cL X) (cR X)
theorem CInv_rnOne {fs ss fd ed lm dd : Nat → Int32} {n td : Nat} {pins : Nat → Int32} {Y : CS × Nat} {o : Nat} (hn : n ≤ 8) (h : CInvX n td lm Y.1) (ho : o < cK Y.1) (htd : td ≤ 3000) :
    CInvX n td lm (rnOne fs ss fd ed lm dd n pins (nI td) Y o).1 ∧ cK (rnOne fs ss fd ed lm dd n pins (nI td) Y o).1 + Y.2 = cK Y.1 + (rnOne fs ss fd ed lm dd n pins (nI td) Y o).2 ∧ Y.2 ≤ (rnOne fs ss fd ed lm dd n pins (nI td) Y o).2 := by
  unfold rnOne
  split
  · rename_i hc
    refine ⟨CInv_rnMk h hn ho (Nat.not_le.mp hc.1) hc.2.1 htd, ?_, Nat.le_succ _⟩
    show cK Y.1 + 1 + Y.2 = cK Y.1 + (Y.2 + 1)
    omega
  · exact ⟨h, rfl, Nat.le_refl _⟩
theorem CInv_rnC {fs ss fd ed lm dd : Nat → Int32} {n td : Nat} {pins : Nat → Int32} {q : Nat → Int32} {X : CS} (hn : n ≤ 8) (h : CInvX n td lm X) (htd : td ≤ 3000) : ∀ t : Nat, (∀ i, i < t → ix (q i) < cK X) →
    CInvX n td lm (rnC fs ss fd ed lm dd n pins (nI td) q X t).1 ∧ cK (rnC fs ss fd ed lm dd n pins (nI td) q X t).1 = cK X + (rnC fs ss fd ed lm dd n pins (nI td) q X t).2 := by
  intro t
  induction t with
  | zero => intro _; exact ⟨h, rfl⟩
  | succ t ih =>
    intro hq
    obtain ⟨h1, h2⟩ := ih (fun i hi => hq i (by omega))
    have ho := hq t (by omega)
    obtain ⟨g1, g2, g3⟩ := CInv_rnOne (fs := fs) (ss := ss) (fd := fd) (ed := ed) (dd := dd) (pins := pins) (o := ix (q t)) hn h1 (by omega) htd
    refine ⟨g1, ?_⟩
    show cK (rnOne fs ss fd ed lm dd n pins (nI td) (rnC fs ss fd ed lm dd n pins (nI td) q X t) (ix (q t))).1 = cK X + (rnOne fs ss fd ed lm dd n pins (nI td) (rnC fs ss fd ed lm dd n pins (nI td) q X t) (ix (q t))).2
    omega
theorem CInv_rnE {fs ss fd ed lm dd : Nat → Int32} {n td : Nat} {pins que : Nat → Int32} {X : CS} (hn : n ≤ 8) (h : CInvX n td lm X) (htd : td ≤ 3000) :
    CInvX n td lm (rnE fs ss fd ed lm dd n pins que (nI td) X).1 ∧ cK (rnE fs ss fd ed lm dd n pins que (nI td) X).1 = cK X + (rnE fs ss fd ed lm dd n pins que (nI td) X).2 :=
  CInv_rnC hn h htd _ (fun i hi => ((fq_ok (cF X) (cL X) (cO X) (cR X) (nI td) que (cK X) (by have := h.1; omega)).2 i hi).2)
/-- days pass -/
theorem CInv_psC {fs ss fd ed lm dd : Nat → Int32} {n td : Nat} {pins que : Nat → Int32} {X : CS} (hn : n ≤ 8) (h : CInvX n td lm X) : ∀ t : Nat, td + t ≤ 3000 →
    CInvX n (td + t) lm (psC fs ss fd ed lm dd n pins X que (nI td) t).1.1 ∧ (psC fs ss fd ed lm dd n pins X que (nI td) t).1.2.2 = nI (td + t) ∧ ∃ z, (psC fs ss fd ed lm dd n pins X que (nI td) t).2 = nI z ∧ cK (psC fs ss fd ed lm dd n pins X que (nI td) t).1.1 = cK X + z := by
  intro t
  induction t with
  | zero => intro _; exact ⟨h, rfl, 0, rfl, rfl⟩
  | succ t ih =>
    intro ht
    obtain ⟨h1, h2, z, h3, h4⟩ := ih (by omega)
    obtain ⟨k1, k2⟩ := CInv_rnE (fs := fs) (ss := ss) (fd := fd) (ed := ed) (dd := dd) (pins := pins) (que := (psC fs ss fd ed lm dd n pins X que (nI td) t).1.2.1) hn (CInv_day h1 (by omega)) (show td + t + 1 ≤ 3000 by omega)
    rw [psC, h2, h3, nI_1, nI_add]
    exact ⟨k1, rfl, _, rfl, by rw [k2, h4, Nat.add_assoc]⟩
/-! An issuer comes. -/
theorem min_le9 (a b : Int32) : (if a < b then a else b) ≤ a := by
  by_cases h : a < b
  · rw [if_pos h]; exact Int32.le_refl _
  · rw [if_neg h]; exact Int32.not_lt.mp h
theorem ucEnd_le {fs ss ed ce : Nat → Int32} {k : Nat} : ucEnd fs ss ed ce k ≤ ed k := by
  unfold ucEnd
  exact min_le9 _ _
theorem PInv_add {n kc td : Nat} {fs ss ed lm ce cw iss sb fst len ren : Nat → Int32} {sg to : Int32} {v : Nat} (h : PInv n kc td fs ss lm ce cw iss sb fst len ren) (hn : n < 8) (hsg : sg = -1 ∨ (sg = nI (ix sg) ∧ ix sg < n)) (hto : to ≤ 5000) (hv : v ≤ 50) :
    PInv (n + 1) kc td (upd fs n sg) (upd ss n (-1)) (upd lm n (nI v)) (ucE (upd fs n sg) (upd ss n (-1)) (upd ed n to) n ce 1) (ucC (upd fs n sg) (upd ss n (-1)) n cw 1) iss sb fst len ren := by
  obtain ⟨b0, b1, b2, b3, b4, a1, a2, a3, a4, a5⟩ := h
  refine ⟨by omega, sgP_upd b1 hsg, ?_, ?_, ?_, a1, a2, ?_, a4, ?_⟩
  · intro i hi
    by_cases e : i = n
    · rw [e, upd_eq]
    · rw [upd_ne _ _ e]; exact b2 i (by omega)
  · intro i hi
    rw [ucE, ucE]
    by_cases e : i = n
    · rw [e, Nat.add_zero, upd_eq]
      refine Int32.le_trans ucEnd_le ?_
      rw [upd_eq]
      exact hto
    · rw [upd_ne _ _ (by omega)]; exact b3 i (by omega)
  · intro i hi
    rw [ucC, ucC]
    by_cases e : i = n
    · rw [e, Nat.add_zero, upd_eq]
      unfold ucCnt
      rw [upd_eq, upd_eq]
      dsimp only
      rw [if_pos rfl]
      split
      · rfl
      · rename_i q
        exact b4 _ (hsg.resolve_left q).2
    · rw [upd_ne _ _ (by omega)]; exact b4 i (by omega)
  · intro c hc
    obtain ⟨c1, c2, c3⟩ := a3 c hc
    exact ⟨c1, by omega, c3⟩
  · intro i hi
    by_cases e : i = n
    · subst e
      rw [upd_eq, ix_nI (by omega)]
      refine ⟨rfl, hv, 0, Nat.zero_le _, ?_⟩
      refine iwN_none kc (fun q hq w => ?_)
      obtain ⟨c1, c2, -⟩ := a3 q hq
      have w1 := w.1
      rw [c1] at w1
      have := k_eqN (by omega) (by omega) w1
      omega
    · rw [upd_ne _ _ e]; exact a5 i (by omega)
