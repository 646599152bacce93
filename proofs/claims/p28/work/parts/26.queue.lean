/-! The queue and the model's choices. -/
theorem i32_lt {x y : Int32} : x < y ↔ x.toInt < y.toInt := Int32.lt_iff_toInt_lt
theorem i32_le {x y : Int32} : x ≤ y ↔ x.toInt ≤ y.toInt := Int32.le_iff_toInt_le
theorem i32_nlt {x y : Int32} : ¬ x < y ↔ y ≤ x := by rw [i32_lt, i32_le]; omega
def eK (fst len : Nat → Int32) (c : Nat) : Int := (ctEnd fst len c).toInt
abbrev ltE (fst len : Nat → Int32) (a b : Nat) : Prop := eK fst len a < eK fst len b ∨ (eK fst len a = eK fst len b ∧ a < b)
theorem end_le {fst len : Nat → Int32} {a b : Nat} : ctEnd fst len a ≤ ctEnd fst len b ↔ eK fst len a ≤ eK fst len b := i32_le
theorem insQ_spec (fst len : Nat → Int32) (x : Nat) : ∀ (p : Nat) (q : Nat → Int32), ∃ t, t ≤ p ∧ (∀ i, i < t → insQ fst len x q p i = q i) ∧ insQ fst len x q p t = nI x ∧ (∀ i, t < i → i ≤ p → insQ fst len x q p i = q (i - 1)) ∧ (∀ i, p < i → insQ fst len x q p i = q i) ∧ (t = 0 ∨ eK fst len (ix (q (t - 1))) ≤ eK fst len x) ∧ (∀ i, t ≤ i → i < p → eK fst len x < eK fst len (ix (q i))) := by
  intro p
  induction p with
  | zero =>
    intro q
    refine ⟨0, Nat.le_refl 0, fun i h => absurd h (Nat.not_lt_zero _), by rw [insQ, upd_eq], fun i h1 h2 => absurd h1 (by omega), fun i hi => by rw [insQ, upd_ne _ _ (by omega)], Or.inl rfl, fun i h1 h2 => absurd h2 (by omega)⟩
  | succ p ih =>
    intro q
    by_cases hc : ctEnd fst len (ix (q p)) ≤ ctEnd fst len x
    · have e : insQ fst len x q (p + 1) = upd q (p + 1) (nI x) := by rw [insQ]; exact if_pos hc
      rw [e]
      refine ⟨p + 1, Nat.le_refl _, fun i h => upd_ne _ _ (by omega), upd_eq _ _ _, fun i h1 h2 => absurd h1 (by omega), fun i hi => upd_ne _ _ (by omega), Or.inr ?_, fun i h1 h2 => absurd h2 (by omega)⟩
      rw [Nat.add_sub_cancel]; exact end_le.mp hc
    · have e : insQ fst len x q (p + 1) = insQ fst len x (upd q (p + 1) (q p)) p := by rw [insQ]; exact if_neg hc
      rw [e]
      obtain ⟨t, h1, h2, h3, h4, h5, h6, h7⟩ := ih (upd q (p + 1) (q p))
      refine ⟨t, by omega, fun i hi => ?_, h3, fun i hi hp => ?_, fun i hi => ?_, ?_, fun i hi hp => ?_⟩
      · rw [h2 i hi, upd_ne _ _ (by omega)]
      · by_cases e2 : i ≤ p
        · rw [h4 i hi e2, upd_ne _ _ (by omega)]
        · have e3 : i = p + 1 := by omega
          rw [h5 i (by omega), e3, upd_eq, Nat.add_sub_cancel]
      · rw [h5 i (by omega), upd_ne _ _ (by omega)]
      · rcases h6 with h6 | h6
        · exact Or.inl h6
        · by_cases e2 : t = 0
          · exact Or.inl e2
          · rw [upd_ne _ _ (by omega)] at h6; exact Or.inr h6
      · by_cases e2 : i < p
        · have := h7 i hi e2
          rw [upd_ne _ _ (by omega)] at this; exact this
        · have e3 : i = p := by omega
          rw [e3]
          exact Int.not_le.mp (fun h => hc (end_le.mpr h))
/-- the queue of day dy, of the certificates below k: who waits, in order, all -/
def qOK (fst len off ren : Nat → Int32) (dy : Int32) (q : Nat → Int32) (z k : Nat) : Prop :=
  (∀ i, i < z → q i = nI (ix (q i)) ∧ ix (q i) < k ∧ waitP fst len off ren dy (ix (q i))) ∧ (∀ i j, i < j → j < z → ltE fst len (ix (q i)) (ix (q j))) ∧ (∀ c, c < k → waitP fst len off ren dy c → ∃ i, i < z ∧ ix (q i) = c)
theorem fq_sorted (fst len off ren : Nat → Int32) (dy : Int32) (que : Nat → Int32) : ∀ k : Nat, k < 2147483648 → qOK fst len off ren dy (fqQ fst len off ren dy que k) (fqS fst len off ren dy que k) k := by
  intro k
  induction k with
  | zero => intro _; exact ⟨fun i h => absurd h (Nat.not_lt_zero _), fun i j _ h => absurd h (Nat.not_lt_zero _), fun c h => absurd h (Nat.not_lt_zero _)⟩
  | succ k ih =>
    intro hk
    obtain ⟨a, b, c⟩ := ih (by omega)
    by_cases hw : waitP fst len off ren dy k
    · have e : fqSQ fst len off ren dy que (k + 1) = ((fqSQ fst len off ren dy que k).1 + 1, insQ fst len k (fqSQ fst len off ren dy que k).2 (fqSQ fst len off ren dy que k).1) := by rw [fqSQ]; exact if_pos hw
      unfold fqS fqQ
      rw [e]
      show qOK fst len off ren dy (insQ fst len k (fqQ fst len off ren dy que k) (fqS fst len off ren dy que k)) (fqS fst len off ren dy que k + 1) (k + 1)
      generalize fqQ fst len off ren dy que k = q at a b c
      generalize fqS fst len off ren dy que k = z at a b c
      obtain ⟨t, t1, t2, t3, t4, -, t6, t7⟩ := insQ_spec fst len k z q
      generalize insQ fst len k q z = r at t2 t3 t4
      have hx : ix (r t) = k := by rw [t3, ix_nI (by omega)]
      have hsrt : ∀ i, i < t → eK fst len (ix (q i)) ≤ eK fst len k := by
        intro i hi
        rcases t6 with h | h
        · omega
        · by_cases e2 : i = t - 1
          · rw [e2]; exact h
          · rcases b i (t - 1) (by omega) (by omega) with h2 | h2 <;> omega
      refine ⟨fun i hi => ?_, fun i j hij hj => ?_, fun c' hc' hwc => ?_⟩
      · rcases Nat.lt_trichotomy i t with h | h | h
        · rw [t2 i h]; obtain ⟨g1, g2, g3⟩ := a i (by omega); exact ⟨g1, by omega, g3⟩
        · rw [h, hx]; exact ⟨t3, by omega, hw⟩
        · rw [t4 i h (by omega)]; obtain ⟨g1, g2, g3⟩ := a (i - 1) (by omega); exact ⟨g1, by omega, g3⟩
      · rcases Nat.lt_trichotomy j t with h | h | h
        · rw [t2 i (by omega), t2 j h]; exact b i j hij (by omega)
        · rw [h, hx, t2 i (by omega)]
          have h1 := hsrt i (by omega)
          have h2 := (a i (by omega)).2.1
          show _ ∨ _
          omega
        · rw [t4 j h (by omega)]
          rcases Nat.lt_trichotomy i t with h2 | h2 | h2
          · rw [t2 i h2]; exact b i (j - 1) (by omega) (by omega)
          · rw [h2, hx]; exact Or.inl (t7 (j - 1) (by omega) (by omega))
          · rw [t4 i h2 (by omega)]; exact b (i - 1) (j - 1) (by omega) (by omega)
      · by_cases e2 : c' = k
        · exact ⟨t, by omega, by rw [hx, e2]⟩
        · obtain ⟨i, i1, i2⟩ := c c' (by omega) hwc
          by_cases e3 : i < t
          · exact ⟨i, by omega, by rw [t2 i e3]; exact i2⟩
          · exact ⟨i + 1, by omega, by rw [t4 (i + 1) (by omega) (by omega), Nat.add_sub_cancel]; exact i2⟩
    · have e : fqSQ fst len off ren dy que (k + 1) = fqSQ fst len off ren dy que k := by rw [fqSQ]; exact if_neg hw
      unfold fqS fqQ
      rw [e]
      refine ⟨fun i hi => ⟨(a i hi).1, Nat.lt_succ_of_lt (a i hi).2.1, (a i hi).2.2⟩, b, fun c' hc' hwc => ?_⟩
      by_cases e2 : c' = k
      · rw [e2] at hwc; exact absurd hwc hw
      · exact c c' (by omega) hwc
theorem nI_m1 {k : Nat} (hk : k < 2147483648) : ¬ nI k = -1 := by
  intro h
  have h1 : (nI k : Int32).toInt = (-1 : Int32).toInt := by rw [h]
  rw [nI_toInt (by omega)] at h1
  have h2 : (-1 : Int32).toInt = -1 := by decide
  omega
theorem rnMk_sub {dy : Int32} {X : CS} {o : Nat} (hs : subOK (cS X) (cK X)) (ho : o < cK X) : subOK (cS (rnMk dy X o)) (cK (rnMk dy X o)) := by
  intro i hi
  have hi : i < cK X + 1 := hi
  show upd (cS X) (cK X) (cS X o) i = nI (ix (upd (cS X) (cK X) (cS X o) i)) ∧ ix (upd (cS X) (cK X) (cS X o) i) < 20
  by_cases e : i = cK X
  · rw [e, upd_eq]; exact hs o ho
  · rw [upd_ne _ _ e]; exact hs i (by omega)
theorem rnC_sub {fs ss fd ed lm dd : Nat → Int32} {n : Nat} {pins : Nat → Int32} {dy : Int32} {q : Nat → Int32} {X : CS} (hs : subOK (cS X) (cK X)) : ∀ t : Nat, (∀ i, i < t → ix (q i) < cK X) → subOK (cS (rnC fs ss fd ed lm dd n pins dy q X t).1) (cK (rnC fs ss fd ed lm dd n pins dy q X t).1) ∧ cK X ≤ cK (rnC fs ss fd ed lm dd n pins dy q X t).1 := by
  intro t
  induction t with
  | zero => intro _; exact ⟨hs, Nat.le_refl _⟩
  | succ t ih =>
    intro hq
    obtain ⟨g1, g2⟩ := ih (fun i hi => hq i (by omega))
    have ho := hq t (by omega)
    rw [rnC, rnOne]
    split
    · exact ⟨rnMk_sub g1 (by omega), by show cK X ≤ cK (rnC fs ss fd ed lm dd n pins dy q X t).1 + 1; omega⟩
    · exact ⟨g1, g2⟩
theorem rnE_sub {fs ss fd ed lm dd : Nat → Int32} {n : Nat} {pins que : Nat → Int32} {dy : Int32} {X : CS} (hs : subOK (cS X) (cK X)) (hk : cK X ≤ 60) : subOK (cS (rnE fs ss fd ed lm dd n pins que dy X).1) (cK (rnE fs ss fd ed lm dd n pins que dy X).1) :=
  (rnC_sub hs _ (fun i hi => ((fq_ok (cF X) (cL X) (cO X) (cR X) dy que (cK X) (by omega)).2 i hi).2)).1
