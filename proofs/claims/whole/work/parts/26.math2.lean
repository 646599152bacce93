/-! The queue and the model's choices. -/
def eK (fst len : Nat → Int32) (c : Nat) : Int := (ctEnd fst len c).toInt
abbrev ltE (fst len : Nat → Int32) (a b : Nat) : Prop := eK fst len a < eK fst len b ∨ (eK fst len a = eK fst len b ∧ a < b)
theorem end_le {fst len : Nat → Int32} {a b : Nat} : ctEnd fst len a ≤ ctEnd fst len b ↔ eK fst len a ≤ eK fst len b := i32_le
theorem insQ_spec (fst len : Nat → Int32) (x : Nat) : ∀ (p : Nat) (q : Nat → Int32), ∃ t, t ≤ p ∧ (∀ i, i < t → insQ fst len x q p i = q i) ∧ insQ fst len x q p t = nI x ∧ (∀ i, t < i → i ≤ p → insQ fst len x q p i = q (i - 1)) ∧ (∀ i, p < i → insQ fst len x q p i = q i) ∧ (t = 0 ∨ eK fst len (ix (q (t - 1))) ≤ eK fst len x) ∧ (∀ i, t ≤ i → i < p → eK fst len x < eK fst len (ix (q i))) := by
  intro p
  induction p with
  | zero =>
    intro q
    refine ⟨0, Nat.le_refl 0, fun i h => absurd h (Nat.not_lt_zero _), by rw [insQ, upd_eq], fun i h1 h2 => absurd h1 (by omega), fun i hi => by rw [insQ, upd_ne _ _ (by omega)], Or.inl rfl, fun i h1 h2 => absurd h2 (by omega)⟩
  | succ p ih =>
    intro q
    by_cases hc : ctEnd fst len (ix (q p)) ≤ ctEnd fst len x
    · have e : insQ fst len x q (p + 1) = upd q (p + 1) (nI x) := by rw [insQ]; exact if_pos hc
      rw [e]
      refine ⟨p + 1, Nat.le_refl _, fun i h => upd_ne _ _ (by omega), upd_eq _ _ _, fun i h1 h2 => absurd h1 (by omega), fun i hi => upd_ne _ _ (by omega), Or.inr ?_, fun i h1 h2 => absurd h2 (by omega)⟩
      rw [Nat.add_sub_cancel]; exact end_le.mp hc
    · have e : insQ fst len x q (p + 1) = insQ fst len x (upd q (p + 1) (q p)) p := by rw [insQ]; exact if_neg hc
      rw [e]
      obtain ⟨t, h1, h2, h3, h4, h5, h6, h7⟩ := ih (upd q (p + 1) (q p))
      refine ⟨t, by omega, fun i hi => ?_, h3, fun i hi hp => ?_, fun i hi => ?_, ?_, fun i hi hp => ?_⟩
      · rw [h2 i hi, upd_ne _ _ (by omega)]
      · by_cases e2 : i ≤ p
        · rw [h4 i hi e2, upd_ne _ _ (by omega)]
        · have e3 : i = p + 1 := by omega
          rw [h5 i (by omega), e3, upd_eq, Nat.add_sub_cancel]
      · rw [h5 i (by omega), upd_ne _ _ (by omega)]
      · rcases h6 with h6 | h6
        · exact Or.inl h6
        · by_cases e2 : t = 0
          · exact Or.inl e2
          · rw [upd_ne _ _ (by omega)] at h6; exact Or.inr h6
      · by_cases e2 : i < p
        · have := h7 i hi e2
          rw [upd_ne _ _ (by omega)] at this; exact this
        · have e3 : i = p := by omega
          rw [e3]
          exact Int.not_le.mp (fun h => hc (end_le.mpr h))
/-- the queue of day dy, of the certificates below k: who waits, in order, all -/
def qOK (fst len off ren : Nat → Int32) (dy : Int32) (q : Nat → Int32) (z k : Nat) : Prop :=
  (∀ i, i < z → q i = nI (ix (q i)) ∧ ix (q i) < k ∧ waitP fst len off ren dy (ix (q i))) ∧ (∀ i j, i < j → j < z → ltE fst len (ix (q i)) (ix (q j))) ∧ (∀ c, c < k → waitP fst len off ren dy c → ∃ i, i < z ∧ ix (q i) = c)
theorem fq_sorted (fst len off ren : Nat → Int32) (dy : Int32) (que : Nat → Int32) : ∀ k : Nat, k < 2147483648 → qOK fst len off ren dy (fqQ fst len off ren dy que k) (fqS fst len off ren dy que k) k := by
  intro k
  induction k with
  | zero => intro _; exact ⟨fun i h => absurd h (Nat.not_lt_zero _), fun i j _ h => absurd h (Nat.not_lt_zero _), fun c h => absurd h (Nat.not_lt_zero _)⟩
  | succ k ih =>
    intro hk
    obtain ⟨a, b, c⟩ := ih (by omega)
    by_cases hw : waitP fst len off ren dy k
    · have e : fqSQ fst len off ren dy que (k + 1) = ((fqSQ fst len off ren dy que k).1 + 1, insQ fst len k (fqSQ fst len off ren dy que k).2 (fqSQ fst len off ren dy que k).1) := by rw [fqSQ]; exact if_pos hw
      unfold fqS fqQ
      rw [e]
      show qOK fst len off ren dy (insQ fst len k (fqQ fst len off ren dy que k) (fqS fst len off ren dy que k)) (fqS fst len off ren dy que k + 1) (k + 1)
      generalize fqQ fst len off ren dy que k = q at a b c
      generalize fqS fst len off ren dy que k = z at a b c
      obtain ⟨t, t1, t2, t3, t4, -, t6, t7⟩ := insQ_spec fst len k z q
      generalize insQ fst len k q z = r at t2 t3 t4
      have hx : ix (r t) = k := by rw [t3, ix_nI (by omega)]
      have hsrt : ∀ i, i < t → eK fst len (ix (q i)) ≤ eK fst len k := by
        intro i hi
        rcases t6 with h | h
        · omega
        · by_cases e2 : i = t - 1
          · rw [e2]; exact h
          · rcases b i (t - 1) (by omega) (by omega) with h2 | h2 <;> omega
      refine ⟨fun i hi => ?_, fun i j hij hj => ?_, fun c' hc' hwc => ?_⟩
      · rcases Nat.lt_trichotomy i t with h | h | h
        · rw [t2 i h]; obtain ⟨g1, g2, g3⟩ := a i (by omega); exact ⟨g1, by omega, g3⟩
        · rw [h, hx]; exact ⟨t3, by omega, hw⟩
        · rw [t4 i h (by omega)]; obtain ⟨g1, g2, g3⟩ := a (i - 1) (by omega); exact ⟨g1, by omega, g3⟩
      · rcases Nat.lt_trichotomy j t with h | h | h
        · rw [t2 i (by omega), t2 j h]; exact b i j hij (by omega)
        · rw [h, hx, t2 i (by omega)]
          have h1 := hsrt i (by omega)
          have h2 := (a i (by omega)).2.1
          show _ ∨ _
          omega
        · rw [t4 j h (by omega)]
          rcases Nat.lt_trichotomy i t with h2 | h2 | h2
          · rw [t2 i h2]; exact b i (j - 1) (by omega) (by omega)
          · rw [h2, hx]; exact Or.inl (t7 (j - 1) (by omega) (by omega))
          · rw [t4 i h2 (by omega)]; exact b (i - 1) (j - 1) (by omega) (by omega)
      · by_cases e2 : c' = k
        · exact ⟨t, by omega, by rw [hx, e2]⟩
        · obtain ⟨i, i1, i2⟩ := c c' (by omega) hwc
          by_cases e3 : i < t
          · exact ⟨i, by omega, by rw [t2 i e3]; exact i2⟩
          · exact ⟨i + 1, by omega, by rw [t4 (i + 1) (by omega) (by omega), Nat.add_sub_cancel]; exact i2⟩
    · have e : fqSQ fst len off ren dy que (k + 1) = fqSQ fst len off ren dy que k := by rw [fqSQ]; exact if_neg hw
      unfold fqS fqQ
      rw [e]
      refine ⟨fun i hi => ⟨(a i hi).1, Nat.lt_succ_of_lt (a i hi).2.1, (a i hi).2.2⟩, b, fun c' hc' hwc => ?_⟩
      by_cases e2 : c' = k
      · rw [e2] at hwc; exact absurd hwc hw
      · exact c c' (by omega) hwc
theorem nI_m1 {k : Nat} (hk : k < 2147483648) : ¬ nI k = -1 := by
  intro h
  have h1 : (nI k : Int32).toInt = (-1 : Int32).toInt := by rw [h]
  rw [nI_toInt (by omega)] at h1
  have h2 : (-1 : Int32).toInt = -1 := by decide
  omega
theorem nwN_min (fst len off ren : Nat → Int32) (td : Int32) (w : Nat → Int32) : ∀ k : Nat, k < 2147483648 →
    (nwN fst len off ren td w k = -1 → ∀ c, c < k → ¬ (wtM fst len off ren td c ∧ w c = 0)) ∧ (¬ nwN fst len off ren td w k = -1 → ∀ c, c < k → wtM fst len off ren td c → w c = 0 → c = ix (nwN fst len off ren td w k) ∨ ltE fst len (ix (nwN fst len off ren td w k)) c) := by
  intro k
  induction k with
  | zero => intro _; exact ⟨fun _ c h => absurd h (Nat.not_lt_zero _), fun _ c h => absurd h (Nat.not_lt_zero _)⟩
  | succ k ih =>
    intro hk
    obtain ⟨i1, i2⟩ := ih (by omega)
    by_cases hc : wtM fst len off ren td k ∧ w k = 0 ∧ (nwN fst len off ren td w k = -1 ∨ ¬ ctEnd fst len (ix (nwN fst len off ren td w k)) ≤ ctEnd fst len k)
    · have e : nwN fst len off ren td w (k + 1) = nI k := by rw [nwN]; exact if_pos hc
      rw [e, ix_nI (by omega)]
      refine ⟨fun h => absurd h (nI_m1 (by omega)), fun _ c hck h1 h2 => ?_⟩
      by_cases e2 : c = k
      · exact Or.inl e2
      · right
        by_cases e3 : nwN fst len off ren td w k = -1
        · exact absurd ⟨h1, h2⟩ (i1 e3 c (by omega))
        · have h3 := hc.2.2.resolve_left e3
          rw [end_le] at h3
          rcases i2 e3 c (by omega) h1 h2 with h4 | h4
          · rw [← h4] at h3; exact Or.inl (by omega)
          · left
            rcases h4 with h4 | h4 <;> omega
    · have e : nwN fst len off ren td w (k + 1) = nwN fst len off ren td w k := by rw [nwN]; exact if_neg hc
      rw [e]
      refine ⟨fun h c hck hw => ?_, fun h c hck h1 h2 => ?_⟩
      · by_cases e2 : c = k
        · subst e2; exact hc ⟨hw.1, hw.2, Or.inl h⟩
        · exact i1 h c (by omega) hw
      · by_cases e2 : c = k
        · subst e2
          right
          have h3 : ctEnd fst len (ix (nwN fst len off ren td w c)) ≤ ctEnd fst len c := Decidable.byContradiction fun q => hc ⟨h1, h2, Or.inr q⟩
          rw [end_le] at h3
          have h4 : ix (nwN fst len off ren td w c) < c := ((nwN_ok fst len off ren td w c (by omega)).resolve_left h).2
          show _ ∨ _
          omega
        · exact i2 h c (by omega) h1 h2
theorem nw_pick {fst len off ren : Nat → Int32} {td : Int32} {w : Nat → Int32} {had m0 : Nat} (hh : had < 2147483648) (h1 : m0 < had) (h2 : wtM fst len off ren td m0) (h3 : w m0 = 0) (h4 : ∀ c, c < had → wtM fst len off ren td c → w c = 0 → c = m0 ∨ ltE fst len m0 c) : nwN fst len off ren td w had = nI m0 := by
  obtain ⟨i1, i2⟩ := nwN_min fst len off ren td w had hh
  by_cases e : nwN fst len off ren td w had = -1
  · exact absurd ⟨h2, h3⟩ (i1 e m0 h1)
  · obtain ⟨q1, q2⟩ := (nwN_ok fst len off ren td w had hh).resolve_left e
    have q1 : nwN fst len off ren td w had = nI (ix (nwN fst len off ren td w had)) := q1
    have q2 : ix (nwN fst len off ren td w had) < had := q2
    obtain ⟨u1, u2⟩ := nwN_un fst len off ren td w had hh e
    have a := i2 e m0 h1 h2 h3
    have b := h4 _ q2 u2 u1
    rw [q1]
    generalize ix (nwN fst len off ren td w had) = m at a b
    have : m = m0 := by
      rcases a with a | a
      · exact a.symm
      · rcases b with b | b
        · exact b
        · exfalso
          rcases a with a | a <;> rcases b with b | b <;> omega
    rw [this]
theorem nw_none {fst len off ren : Nat → Int32} {td : Int32} {w : Nat → Int32} {had : Nat} (hh : had < 2147483648) (h : ∀ c, c < had → wtM fst len off ren td c → ¬ w c = 0) : nwN fst len off ren td w had = -1 := by
  by_cases e : nwN fst len off ren td w had = -1
  · exact e
  · have q2 : ix (nwN fst len off ren td w had) < had := ((nwN_ok fst len off ren td w had hh).resolve_left e).2
    obtain ⟨u1, u2⟩ := nwN_un fst len off ren td w had hh e
    exact absurd u1 (h _ q2 u2)
/-- the first t of the queue are seen -/
def seenQ (q w : Nat → Int32) : Nat → (Nat → Int32)
  | 0 => w
  | t + 1 => upd (seenQ q w t) (ix (q t)) 1
theorem seenQ_0 {q w : Nat → Int32} {c : Nat} (hw : w c = 0) : ∀ t, seenQ q w t c = 0 ↔ ∀ i, i < t → ¬ ix (q i) = c := by
  intro t
  induction t with
  | zero => exact ⟨fun _ i h => absurd h (Nat.not_lt_zero _), fun _ => hw⟩
  | succ t ih =>
    rw [seenQ]
    by_cases e : c = ix (q t)
    · rw [e, upd_eq]
      exact ⟨fun h => absurd h (by decide), fun h => absurd rfl (h t (by omega))⟩
    · rw [upd_ne _ _ e, ih]
      constructor
      · intro h i hi
        by_cases e2 : i = t
        · rw [e2]; exact fun q => e q.symm
        · exact h i (by omega)
      · intro h i hi; exact h i (by omega)
/-- the model's choice behind t that were seen; F L O R: the rows as they are then -/
theorem pick_t {fst len off ren F L O R : Nat → Int32} {dy : Int32} {q w : Nat → Int32} {z k t : Nat} (hk : k < 2147483648) (hq : qOK fst len off ren dy q z k) (hw : ∀ c, c < k → w c = 0) (ht : t ≤ z)
    (hF : ∀ c, c < k → F c = fst c ∧ L c = len c ∧ O c = off c) (hR : ∀ c, c < k → (∀ i, i < t → ¬ ix (q i) = c) → R c = ren c) :
    nwN F L O R dy (seenQ q w t) k = if t < z then nI (ix (q t)) else -1 := by
  obtain ⟨a, b, c⟩ := hq
  have he : ∀ x, x < k → eK F L x = eK fst len x := by
    intro x hx
    obtain ⟨h1, h2, -⟩ := hF x hx
    unfold eK ctEnd
    rw [h1, h2]
  have hwt : ∀ x, x < k → (∀ i, i < t → ¬ ix (q i) = x) → (wtM F L O R dy x ↔ waitP fst len off ren dy x) := by
    intro x hx hs
    obtain ⟨h1, h2, h3⟩ := hF x hx
    rw [wt_wt]
    unfold waitP ctDue ctEnd
    rw [h1, h2, h3, hR x hx hs]
  by_cases htz : t < z
  · rw [if_pos htz]
    obtain ⟨a1, a2, a3⟩ := a t htz
    have hns : ∀ i, i < t → ¬ ix (q i) = ix (q t) := by
      intro i hi e
      have := b i t hi htz
      rw [e] at this
      rcases this with h | h <;> omega
    refine nw_pick hk a2 ((hwt _ a2 hns).mpr a3) ((seenQ_0 (hw _ a2) t).mpr hns) (fun x hx h1 h2 => ?_)
    have hs := (seenQ_0 (hw x hx) t).mp h2
    obtain ⟨i, i1, i2⟩ := c x hx ((hwt x hx hs).mp h1)
    rcases Nat.lt_trichotomy i t with h | h | h
    · exact absurd i2 (hs i h)
    · left; rw [← i2, h]
    · right
      have := b t i h i1
      rw [i2] at this
      unfold ltE
      rw [he _ a2, he x hx]
      exact this
  · rw [if_neg htz]
    refine nw_none hk (fun x hx h1 h2 => ?_)
    have hs := (seenQ_0 (hw x hx) t).mp h2
    obtain ⟨i, i1, i2⟩ := c x hx ((hwt x hx hs).mp h1)
    exact hs i (by omega) i2
theorem rnOne_frame {fs ss fd ed lm dd : Nat → Int32} {n : Nat} {pins : Nat → Int32} {dy : Int32} {Y : CS × Nat} {o c : Nat} (hc : c < cK Y.1) :
    cI (rnOne fs ss fd ed lm dd n pins dy Y o).1 c = cI Y.1 c ∧ cS (rnOne fs ss fd ed lm dd n pins dy Y o).1 c = cS Y.1 c ∧ cF (rnOne fs ss fd ed lm dd n pins dy Y o).1 c = cF Y.1 c ∧ cL (rnOne fs ss fd ed lm dd n pins dy Y o).1 c = cL Y.1 c ∧ cO (rnOne fs ss fd ed lm dd n pins dy Y o).1 c = cO Y.1 c ∧ (¬ o = c → cR (rnOne fs ss fd ed lm dd n pins dy Y o).1 c = cR Y.1 c) ∧ cK Y.1 ≤ cK (rnOne fs ss fd ed lm dd n pins dy Y o).1 := by
  unfold rnOne
  split
  · refine ⟨upd_ne _ _ (by omega), upd_ne _ _ (by omega), upd_ne _ _ (by omega), upd_ne _ _ (by omega), upd_ne _ _ (by omega), fun h => ?_, by show cK Y.1 ≤ cK Y.1 + 1; omega⟩
    show upd (upd (cR Y.1) (cK Y.1) (-1)) o (nI (cK Y.1)) c = cR Y.1 c
    rw [upd_ne _ _ (fun q => h q.symm), upd_ne _ _ (by omega)]
  · exact ⟨rfl, rfl, rfl, rfl, rfl, fun _ => rfl, Nat.le_refl _⟩
theorem rnC_frame {fs ss fd ed lm dd : Nat → Int32} {n : Nat} {pins : Nat → Int32} {dy : Int32} {q : Nat → Int32} {X : CS} {c : Nat} (hc : c < cK X) : ∀ t : Nat,
    cI (rnC fs ss fd ed lm dd n pins dy q X t).1 c = cI X c ∧ cS (rnC fs ss fd ed lm dd n pins dy q X t).1 c = cS X c ∧ cF (rnC fs ss fd ed lm dd n pins dy q X t).1 c = cF X c ∧ cL (rnC fs ss fd ed lm dd n pins dy q X t).1 c = cL X c ∧ cO (rnC fs ss fd ed lm dd n pins dy q X t).1 c = cO X c ∧ ((∀ i, i < t → ¬ ix (q i) = c) → cR (rnC fs ss fd ed lm dd n pins dy q X t).1 c = cR X c) ∧ cK X ≤ cK (rnC fs ss fd ed lm dd n pins dy q X t).1 := by
  intro t
  induction t with
  | zero => exact ⟨rfl, rfl, rfl, rfl, rfl, fun _ => rfl, Nat.le_refl _⟩
  | succ t ih =>
    obtain ⟨h1, h2, h3, h4, h5, h6, h7⟩ := ih
    obtain ⟨g1, g2, g3, g4, g5, g6, g7⟩ := rnOne_frame (fs := fs) (ss := ss) (fd := fd) (ed := ed) (lm := lm) (dd := dd) (n := n) (pins := pins) (dy := dy) (Y := rnC fs ss fd ed lm dd n pins dy q X t) (o := ix (q t)) (c := c) (by omega)
    rw [rnC]
    exact ⟨g1.trans h1, g2.trans h2, g3.trans h3, g4.trans h4, g5.trans h5, fun h => (g6 (h t (by omega))).trans (h6 (fun i hi => h i (by omega))), by omega⟩
/-- a day: the class's queue and the model's choices do the same -/
theorem rn_dy {fs ss fd ed lm dd : Nat → Int32} {n : Nat} {pins que : Nat → Int32} {dy : Int32} {X : CS} (hn : n ≤ 8) (h1 : ∀ i, i < n → sgP fs i) (h2 : ∀ i, i < n → sgP ss i) (hl : lmOK lm n) (hc : certOK n (cI X) (cL X) (cK X)) (hs : subOK (cS X) (cK X)) (hk : cK X ≤ 60) :
    dyE fs ss fd ed lm dd pins dy X = rnE fs ss fd ed lm dd n pins que dy X := by
  have hq := fq_sorted (cF X) (cL X) (cO X) (cR X) dy que (cK X) (by omega)
  have hz := (fq_ok (cF X) (cL X) (cO X) (cR X) dy que (cK X) (by omega)).1
  unfold rnE
  generalize fqQ (cF X) (cL X) (cO X) (cR X) dy que (cK X) = q at hq hz
  generalize fqS (cF X) (cL X) (cO X) (cR X) dy que (cK X) = z at hq hz
  have hpick : ∀ t, t ≤ z → nwN (cF (rnC fs ss fd ed lm dd n pins dy q X t).1) (cL (rnC fs ss fd ed lm dd n pins dy q X t).1) (cO (rnC fs ss fd ed lm dd n pins dy q X t).1) (cR (rnC fs ss fd ed lm dd n pins dy q X t).1) dy (seenQ q (fun _ => 0) t) (cK X) = if t < z then nI (ix (q t)) else -1 := by
    intro t ht
    refine pick_t (by omega) hq (fun _ _ => rfl) ht (fun c hc => ?_) (fun c hc hns => ?_)
    · obtain ⟨-, -, g3, g4, g5, -, -⟩ := rnC_frame (fs := fs) (ss := ss) (fd := fd) (ed := ed) (lm := lm) (dd := dd) (n := n) (pins := pins) (dy := dy) (q := q) hc t
      exact ⟨g3, g4, g5⟩
    · exact (rnC_frame (fs := fs) (ss := ss) (fd := fd) (ed := ed) (lm := lm) (dd := dd) (n := n) (pins := pins) (dy := dy) (q := q) hc t).2.2.2.2.2.1 hns
  have main : ∀ s t : Nat, t + s = z → dyN fs ss fd ed lm dd pins dy (cK X) (cK X - t) (rnC fs ss fd ed lm dd n pins dy q X t) (seenQ q (fun _ => 0) t) = rnC fs ss fd ed lm dd n pins dy q X z := by
    intro s
    induction s with
    | zero =>
      intro t ht
      have e : t = z := by omega
      subst e
      refine dyN_stop ?_
      rw [hpick t (Nat.le_refl _), if_neg (Nat.lt_irrefl _)]
    | succ s ih =>
      intro t ht
      have hp := hpick t (by omega)
      rw [if_pos (by omega)] at hp
      obtain ⟨a1, a2, -⟩ := hq.1 t (by omega)
      rw [show cK X - t = (cK X - (t + 1)) + 1 by omega, dyN, hp, if_neg (nI_m1 (by omega)), ix_nI (by omega)]
      have hstep : dyOne fs ss fd ed lm dd pins dy (rnC fs ss fd ed lm dd n pins dy q X t) (ix (q t)) = rnC fs ss fd ed lm dd n pins dy q X (t + 1) := by
        obtain ⟨g1, g2, -, -, -, -, g7⟩ := rnC_frame (fs := fs) (ss := ss) (fd := fd) (ed := ed) (lm := lm) (dd := dd) (n := n) (pins := pins) (dy := dy) (q := q) a2 t
        have hk2 := (rnC_ok (fs := fs) (ss := ss) (fd := fd) (ed := ed) (lm := lm) (dd := dd) (pins := pins) (dy := dy) (q := q) (by omega) hc hk t (fun i hi => (hq.1 i (by omega)).2.1)).2.1
        have hcan := can_can (fd := fd) (ed := ed) (dd := dd) (iss := cI (rnC fs ss fd ed lm dd n pins dy q X t).1) (fst := cF (rnC fs ss fd ed lm dd n pins dy q X t).1) (pins := pins) (dy := dy) (j := ix (cI (rnC fs ss fd ed lm dd n pins dy q X t).1 (ix (q t)))) (su := cS (rnC fs ss fd ed lm dd n pins dy q X t).1 (ix (q t))) hn h1 h2 hl hk2 (by rw [g1]; exact (hc _ a2).2.1) (by rw [g2]; exact (hs _ a2).1) (by rw [g2]; exact (hs _ a2).2)
        rw [rnC, rnOne, dyOne]
        by_cases h : canM fs ss fd ed lm dd (cI (rnC fs ss fd ed lm dd n pins dy q X t).1) (cF (rnC fs ss fd ed lm dd n pins dy q X t).1) (cK (rnC fs ss fd ed lm dd n pins dy q X t).1) pins dy (ix (cI (rnC fs ss fd ed lm dd n pins dy q X t).1 (ix (q t)))) (cS (rnC fs ss fd ed lm dd n pins dy q X t).1 (ix (q t))) 16
        · rw [if_pos h, if_pos (hcan.mpr h)]
        · rw [if_neg h, if_neg (fun g => h (hcan.mp g))]
      rw [hstep]
      exact ih (t + 1) (by omega)
  have := main z 0 (by omega)
  rw [Nat.sub_zero] at this
  exact this
theorem rnMk_sub {dy : Int32} {X : CS} {o : Nat} (hs : subOK (cS X) (cK X)) (ho : o < cK X) : subOK (cS (rnMk dy X o)) (cK (rnMk dy X o)) := by
  intro i hi
  have hi : i < cK X + 1 := hi
  show upd (cS X) (cK X) (cS X o) i = nI (ix (upd (cS X) (cK X) (cS X o) i)) ∧ ix (upd (cS X) (cK X) (cS X o) i) < 20
  by_cases e : i = cK X
  · rw [e, upd_eq]; exact hs o ho
  · rw [upd_ne _ _ e]; exact hs i (by omega)
theorem rnC_sub {fs ss fd ed lm dd : Nat → Int32} {n : Nat} {pins : Nat → Int32} {dy : Int32} {q : Nat → Int32} {X : CS} (hs : subOK (cS X) (cK X)) : ∀ t : Nat, (∀ i, i < t → ix (q i) < cK X) → subOK (cS (rnC fs ss fd ed lm dd n pins dy q X t).1) (cK (rnC fs ss fd ed lm dd n pins dy q X t).1) ∧ cK X ≤ cK (rnC fs ss fd ed lm dd n pins dy q X t).1 := by
  intro t
  induction t with
  | zero => intro _; exact ⟨hs, Nat.le_refl _⟩
  | succ t ih =>
    intro hq
    obtain ⟨g1, g2⟩ := ih (fun i hi => hq i (by omega))
    have ho := hq t (by omega)
    rw [rnC, rnOne]
    split
    · exact ⟨rnMk_sub g1 (by omega), by show cK X ≤ cK (rnC fs ss fd ed lm dd n pins dy q X t).1 + 1; omega⟩
    · exact ⟨g1, g2⟩
theorem rnE_sub {fs ss fd ed lm dd : Nat → Int32} {n : Nat} {pins que : Nat → Int32} {dy : Int32} {X : CS} (hs : subOK (cS X) (cK X)) (hk : cK X ≤ 60) : subOK (cS (rnE fs ss fd ed lm dd n pins que dy X).1) (cK (rnE fs ss fd ed lm dd n pins que dy X).1) :=
  (rnC_sub hs _ (fun i hi => ((fq_ok (cF X) (cL X) (cO X) (cR X) dy que (cK X) (by omega)).2 i hi).2)).1
/-- days: the class and the model -/
theorem ps_ps {fs ss fd ed lm dd : Nat → Int32} {n : Nat} {pins que : Nat → Int32} {dy : Int32} {X : CS} (hn : n ≤ 8) (h1 : ∀ i, i < n → sgP fs i) (h2 : ∀ i, i < n → sgP ss i) (hl : lmOK lm n) (hc : certOK n (cI X) (cL X) (cK X)) (hs : subOK (cS X) (cK X)) (hk : cK X ≤ 60) : ∀ t : Nat,
    (psM fs ss fd ed lm dd pins X dy t).1.1 = (psC fs ss fd ed lm dd n pins X que dy t).1.1 ∧ (psM fs ss fd ed lm dd pins X dy t).1.2 = (psC fs ss fd ed lm dd n pins X que dy t).1.2.2 ∧ (psM fs ss fd ed lm dd pins X dy t).2 = (psC fs ss fd ed lm dd n pins X que dy t).2 ∧
    certOK n (cI (psC fs ss fd ed lm dd n pins X que dy t).1.1) (cL (psC fs ss fd ed lm dd n pins X que dy t).1.1) (cK (psC fs ss fd ed lm dd n pins X que dy t).1.1) ∧ subOK (cS (psC fs ss fd ed lm dd n pins X que dy t).1.1) (cK (psC fs ss fd ed lm dd n pins X que dy t).1.1) ∧ cK (psC fs ss fd ed lm dd n pins X que dy t).1.1 ≤ 60 := by
  intro t
  induction t with
  | zero => exact ⟨rfl, rfl, rfl, hc, hs, hk⟩
  | succ t ih =>
    obtain ⟨e1, e2, e3, g1, g2, g3⟩ := ih
    have hd := rn_dy (fd := fd) (ed := ed) (dd := dd) (pins := pins) (que := (psC fs ss fd ed lm dd n pins X que dy t).1.2.1) (dy := (psC fs ss fd ed lm dd n pins X que dy t).1.2.2 + 1) hn h1 h2 hl g1 g2 g3
    obtain ⟨k1, k2, -⟩ := rnE_ok (fs := fs) (ss := ss) (fd := fd) (ed := ed) (lm := lm) (dd := dd) (pins := pins) (que := (psC fs ss fd ed lm dd n pins X que dy t).1.2.1) (dy := (psC fs ss fd ed lm dd n pins X que dy t).1.2.2 + 1) (by omega) g1 g3
    have k3 := rnE_sub (fs := fs) (ss := ss) (fd := fd) (ed := ed) (lm := lm) (dd := dd) (n := n) (pins := pins) (que := (psC fs ss fd ed lm dd n pins X que dy t).1.2.1) (dy := (psC fs ss fd ed lm dd n pins X que dy t).1.2.2 + 1) g2 g3
    rw [psM, psC, e1, e2, e3, hd]
    exact ⟨rfl, rfl, rfl, k1, k3, k2⟩
/-- what waits at a place -/
theorem wa_q {fst len off ren : Nat → Int32} {dy : Int32} {w q : Nat → Int32} {z k : Nat} (hk : k < 2147483648) (hq : qOK fst len off ren dy q z k) (hw : ∀ c, c < k → w c = 0) : ∀ t, t ≤ z → waN fst len off ren dy k w t = (seenQ q w t, if t < z then nI (ix (q t)) else -1) := by
  have hp : ∀ t, t ≤ z → nwN fst len off ren dy (seenQ q w t) k = if t < z then nI (ix (q t)) else -1 := fun t ht => pick_t hk hq hw ht (fun _ _ => ⟨rfl, rfl, rfl⟩) (fun _ _ _ => rfl)
  intro t
  induction t with
  | zero => intro h; rw [waN, ← hp 0 h]; rfl
  | succ t ih =>
    intro h
    have e := ih (by omega)
    rw [if_pos (by omega)] at e
    obtain ⟨a1, a2, -⟩ := hq.1 t (by omega)
    rw [waN, e, if_neg (nI_m1 (by omega)), ix_nI (by omega), ← hp (t + 1) h]
    rfl
theorem wa_all {fst len off ren : Nat → Int32} {dy : Int32} {w q : Nat → Int32} {z k : Nat} (hk : k < 2147483648) (hq : qOK fst len off ren dy q z k) (hw : ∀ c, c < k → w c = 0) (t : Nat) : (waN fst len off ren dy k w t).2 = if t < z then q t else -1 := by
  by_cases h : t < z
  · rw [wa_q hk hq hw t (by omega), if_pos h, if_pos h]
    exact (hq.1 t h).1.symm
  · rw [if_neg h]
    have e := wa_q hk hq hw z (Nat.le_refl z)
    rw [if_neg (Nat.lt_irrefl _)] at e
    have e2 := waN_stop (k := z) (show (waN fst len off ren dy k w z).2 = -1 by rw [e]) (t - z)
    rw [show z + (t - z) = t by omega] at e2
    rw [e2, e]
