/-! The class's answers and the model's, call by call. -/
theorem c5000 : (5000 : Int32).toInt = 5000 := by decide
theorem cd_add {n : Nat} {sg fr to li : Int32} (hn : n ≤ 8) : cdAddM n sg fr to li = cdAdd n sg fr to li := by
  have hA : (inB fr 0 5000 && inB to fr 5000 && inB li 0 50) = !(badD fr || badD to || !decide (fr ≤ to) || decide (li < 0) || !decide (li ≤ 50)) := by
    have h0 : (0 : Int32).toInt = 0 := by decide
    have h5 : (50 : Int32).toInt = 50 := by decide
    rw [Bool.eq_iff_iff]
    simp only [badD, inB, Bool.and_eq_true, Bool.not_eq_true', Bool.or_eq_false_iff, Bool.not_eq_false', decide_eq_true_eq, decide_eq_false_iff_not, i32_lt, i32_le, c5000, h0, h5]
    constructor
    · rintro ⟨⟨⟨a, b⟩, c, d⟩, e, f⟩; omega
    · rintro ⟨⟨⟨⟨⟨a, b⟩, c, d⟩, e⟩, f⟩, g⟩; omega
  have hB : nI n = 8 ↔ 8 ≤ n := by
    constructor
    · intro h
      have := k_eqN (b := 8) (by omega) (by omega) h
      omega
    · intro h
      have : n = 8 := by omega
      subst this; rfl
  unfold cdAddM cdAdd
  rw [hA]
  by_cases h1 : (!decide (sg = -1) && badI n sg) = true
  · rw [if_pos h1, if_pos h1]
  · rw [if_neg h1, if_neg h1]
    cases h2 : (badD fr || badD to || !decide (fr ≤ to) || decide (li < 0) || !decide (li ≤ 50))
    · by_cases h3 : 8 ≤ n
      · simp [h3, hB.mpr h3]
      · have h4 : ¬ nI n = 8 := fun h => h3 (hB.mp h)
        simp [h3, h4]
    · rfl
theorem cd_cross {n : Nat} {fs ss : Nat → Int32} {i s : Int32} : cdCrossM n fs ss i s = cdCross n fs ss i s := by
  unfold cdCrossM cdCross
  by_cases h1 : (badI n i || badI n s) = true
  · rw [if_pos h1, if_pos h1]
  · rw [if_neg h1, if_neg h1]
    by_cases h2 : (!decide (s < i)) = true
    · rw [if_pos h2, if_pos h2]
    · rw [if_neg h2, if_neg h2]
      by_cases a : fs (ix i) = -1 <;> by_cases b : ss (ix i) = -1 <;> by_cases c : fs (ix i) = s <;> simp [a, b, c]
theorem cd_pin {x v : Int32} : cdPinM x v = cdPin x v := by
  have hA : inB v 0 255 = !(decide (v < 0) || !decide (v ≤ 255)) := by
    rw [Bool.eq_iff_iff]
    simp only [inB, Bool.and_eq_true, Bool.not_eq_true', Bool.or_eq_false_iff, Bool.not_eq_false', decide_eq_true_eq, decide_eq_false_iff_not, i32_nlt]
  unfold cdPinM cdPin
  rw [hA]
  cases (decide (v < 0) || !decide (v ≤ 255)) <;> rfl
theorem sub_range {su : Int32} (h1 : ¬ su < 0) (h2 : su < 20) : su = nI (ix su) ∧ ix su < 20 := by
  have e := k_ix h1
  refine ⟨e, ?_⟩
  rw [e] at h2
  exact k_ltN (b := 20) (ix_lt h1) (by omega) h2
theorem iss_hA (su ln : Int32) : (inB su 0 19 && inB ln 1 400) = !(decide (su < 0) || !decide (su < 20) || decide (ln < 1) || !decide (ln ≤ 400)) := by
  have h0 : (0 : Int32).toInt = 0 := by decide
  have h1 : (19 : Int32).toInt = 19 := by decide
  have h2 : (20 : Int32).toInt = 20 := by decide
  have h3 : (1 : Int32).toInt = 1 := by decide
  have h4 : (400 : Int32).toInt = 400 := by decide
  rw [Bool.eq_iff_iff]
  simp only [inB, Bool.and_eq_true, Bool.not_eq_true', Bool.or_eq_false_iff, Bool.not_eq_false', decide_eq_true_eq, decide_eq_false_iff_not, i32_lt, i32_le, h0, h1, h2, h3, h4]
  constructor
  · rintro ⟨⟨a, b⟩, c, d⟩; omega
  · rintro ⟨⟨⟨a, b⟩, c⟩, d⟩; omega
theorem cd_issP {n : Nat} {i su ln : Int32} {p q : Bool} (h : badI n i = false → ¬ su < 0 → su < 20 → p = q) : cdIssM p n i su ln = cdIss q n i su ln := by
  unfold cdIssM cdIss
  rw [iss_hA]
  cases h1 : badI n i
  · cases h2 : (decide (su < 0) || !decide (su < 20) || decide (ln < 1) || !decide (ln ≤ 400))
    · simp only [Bool.or_eq_false_iff, decide_eq_false_iff_not, Bool.not_eq_false', decide_eq_true_eq] at h2
      rw [h h1 h2.1.1.1 h2.1.1.2]
      rfl
    · rfl
  · rfl
theorem cd_iss {fs ss fd ed lm dd : Nat → Int32} {n : Nat} {iss fst : Nat → Int32} {kc : Nat} {pins : Nat → Int32} {dy i su ln : Int32} (hn : n ≤ 8) (h1 : ∀ i, i < n → sgP fs i) (h2 : ∀ i, i < n → sgP ss i) (hl : lmOK lm n) (hk : kc ≤ 60) :
    cdIssM (decide (canM fs ss fd ed lm dd iss fst kc pins dy (ix i) su 16)) n i su ln = cdIss (decide (canC fs ss fd ed lm dd n iss fst kc pins dy (ix i) su)) n i su ln := by
  refine cd_issP (fun hb h3 h4 => ?_)
  obtain ⟨e1, e2⟩ := sub_range h3 h4
  exact decide_eq_decide.mpr (can_can hn h1 h2 hl hk (badI_ok hb (by omega)).2 e1 e2).symm
theorem cd_iss_ok {c : Bool} {n : Nat} {i su ln : Int32} (h : cdIss c n i su ln = 0) : badI n i = false ∧ ¬ su < 0 ∧ su < 20 ∧ ¬ ln < 1 ∧ ln ≤ 400 ∧ c = true := by
  unfold cdIss at h
  cases h1 : badI n i
  · rw [h1] at h
    cases h2 : (decide (su < 0) || !decide (su < 20) || decide (ln < 1) || !decide (ln ≤ 400))
    · rw [h2] at h
      simp only [Bool.or_eq_false_iff, decide_eq_false_iff_not, Bool.not_eq_false', decide_eq_true_eq] at h2
      cases c
      · exact absurd h (by decide)
      · exact ⟨rfl, h2.1.1.1, h2.1.1.2, h2.1.2, h2.2, rfl⟩
    · rw [h2] at h; simp at h
  · rw [h1] at h; simp at h
theorem cd_pass {dy d : Int32} : cdPassM dy d = cdPass dy d := by
  have hA : inB d 1 100 = !(decide (d < 1) || !decide (d ≤ 100)) := by
    rw [Bool.eq_iff_iff]
    simp only [inB, Bool.and_eq_true, Bool.not_eq_true', Bool.or_eq_false_iff, Bool.not_eq_false', decide_eq_true_eq, decide_eq_false_iff_not, i32_nlt]
  unfold cdPassM cdPass
  rw [hA]
  cases (decide (d < 1) || !decide (d ≤ 100)) <;> rfl
/-- waitingAt: the code, and the number -/
theorem cd_wa {fst len off ren : Nat → Int32} {dy : Int32} {w que : Nat → Int32} {k : Nat} (hk : k ≤ 60) {p : Int32} : cdWa fst len off ren dy k (seeN w 0 60) p = cdOne (fqS fst len off ren dy que k) p := by
  have hz := (fq_ok fst len off ren dy que k (by omega)).1
  unfold cdWa cdOne
  by_cases h : p < 0
  · rw [if_pos h, if_pos (by simp [badI, h])]
  · have e := wa_all (w := seeN w 0 60) (by omega) (fq_sorted fst len off ren dy que k (by omega)) (fun c hc => seeN_lt w 0 60 c (by omega)) (ix p)
    have hb : badI (fqS fst len off ren dy que k) p = true ↔ ¬ ix p < fqS fst len off ren dy que k := by
      have e2 := k_ix h
      have e3 : p.toInt = (ix p : Int) := by rw [e2, ix_nI (ix_lt h)]; exact nI_toInt (ix_lt h)
      simp only [badI, Bool.or_eq_true, decide_eq_true_eq, Bool.not_eq_true', decide_eq_false_iff_not, h, false_or, i32_lt, e3, nI_toInt (show fqS fst len off ren dy que k < 2 ^ 31 by omega)]
      omega
    rw [if_neg h, e]
    by_cases h2 : ix p < fqS fst len off ren dy que k
    · obtain ⟨a1, a2⟩ := (fq_ok fst len off ren dy que k (by omega)).2 _ h2
      rw [if_pos h2, if_neg (by rw [a1]; exact nI_m1 (by omega)), if_neg (fun q => hb.mp q h2)]
    · rw [if_neg h2, if_pos rfl, if_pos (hb.mpr h2)]
theorem cdOne_ok {n : Nat} {i : Int32} (h : cdOne n i = 0) : badI n i = false := by
  unfold cdOne at h
  cases h1 : badI n i
  · rfl
  · rw [h1] at h; simp at h
theorem cdID_ok {n : Nat} {i d : Int32} (h : cdID n i d = 0) : badI n i = false ∧ badD d = false := by
  unfold cdID at h
  cases h1 : badI n i
  · rw [h1] at h
    cases h2 : badD d
    · exact ⟨rfl, rfl⟩
    · rw [h2] at h; simp at h
  · rw [h1] at h; simp at h
theorem cdND_ok {n d : Int32} (h : cdND n d = 0) : badN n = false ∧ badD d = false := by
  unfold cdND at h
  cases h1 : badN n
  · rw [h1] at h
    cases h2 : badD d
    · exact ⟨rfl, rfl⟩
    · rw [h2] at h; simp at h
  · rw [h1] at h; simp at h
theorem wa_val {fst len off ren : Nat → Int32} {dy : Int32} {w que : Nat → Int32} {k : Nat} (hk : k ≤ 60) {p : Int32} (h : cdOne (fqS fst len off ren dy que k) p = 0) : (waN fst len off ren dy k (seeN w 0 60) (ix p)).2 = fqQ fst len off ren dy que k (ix p) := by
  have hz := (fq_ok fst len off ren dy que k (by omega)).1
  have e := wa_all (w := seeN w 0 60) (by omega) (fq_sorted fst len off ren dy que k (by omega)) (fun c hc => seeN_lt w 0 60 c (by omega)) (ix p)
  rw [e, if_pos (badI_ok (cdOne_ok h) (by omega)).2]
section MATH
variable {fs ss fd ed dd : Nat → Int32} {n : Nat} {iss sb fst len : Nat → Int32} {kc : Nat}
theorem lost_lost {day wo : Int32} (hn : n ≤ 8) (h1 : ∀ i, i < n → sgP fs i) (h2 : ∀ i, i < n → sgP ss i) (hc : certOK n iss len kc) (hs : subOK sb kc) : lostM fs ss fd ed dd iss sb fst len kc day wo = lostC fs ss fd ed dd n iss sb fst len kc day wo := by
  unfold lostM lostC
  rw [nh_nm hn h1 h2 hc hs kc (Nat.le_refl _), nh_nm hn h1 h2 hc hs kc (Nat.le_refl _)]
theorem cov_cov {day : Int32} {x : Int32} (hn : n ≤ 8) (h1 : ∀ i, i < n → sgP fs i) (h2 : ∀ i, i < n → sgP ss i) (hc : certOK n iss len kc) (hs : subOK sb kc) (hx : badN x = false) :
    (nmN fs ss fd ed dd iss sb fst len day (-1) kc >>> (x &&& 31)) &&& 1 = 1 ↔ hasB (nhN iss sb fst len day (goodM fs ss fd ed dd day (-1) n) kc) x := by
  rw [nh_nm hn h1 h2 hc hs kc (Nat.le_refl _)]
  obtain ⟨e1, e2⟩ := badN_ok hx
  rw [e1]
  exact (hasB_and1 (by omega)).symm
theorem gd_good {day i : Int32} (hn : n ≤ 8) (h1 : ∀ i, i < n → sgP fs i) (h2 : ∀ i, i < n → sgP ss i) (hi : badI n i = false) : gd fs ss fd ed dd day (-1) (ix i) = true ↔ hasB (goodM fs ss fd ed dd day (-1) n) i := by
  obtain ⟨e1, e2⟩ := badI_ok hi (by omega)
  have h := goodM_gd (fd := fd) (ed := ed) (dd := dd) (day := day) (wo := -1) hn h1 h2 e2
  rw [← e1] at h
  exact h.symm
theorem ng_ng {x : Int32} (hn : n ≤ 8) (h1 : ∀ i, i < n → sgP fs i) (h2 : ∀ i, i < n → sgP ss i) (hc : certOK n iss len kc) (hs : subOK sb kc) (hx : badN x = false) : ∀ f y, ngM fs ss fd ed dd iss sb fst len kc x f y = ngC fs ss fd ed dd n iss sb fst len kc x f y := by
  intro f
  induction f with
  | zero => intro y; rfl
  | succ f ih =>
    intro y
    rw [ngM, ngC, ih]
    have h := cov_cov (fd := fd) (ed := ed) (dd := dd) (fst := fst) (day := nI y) hn h1 h2 hc hs hx
    by_cases q : hasB (nhN iss sb fst len (nI y) (goodM fs ss fd ed dd (nI y) (-1) n) kc) x
    · rw [if_pos (h.mpr q), if_pos q]
    · rw [if_neg (fun z => q (h.mp z)), if_neg q]
theorem nx_or (a b : Nat) : nI a ||| nI b = nI (a ||| b) := by
  apply Int32.toBitVec_inj.1
  show BitVec.ofNat 32 a ||| BitVec.ofNat 32 b = BitVec.ofNat 32 (a ||| b)
  apply BitVec.eq_of_getLsbD_eq
  intro i hi
  simp [hi]
theorem nm_16 : ∀ x, x < 20 → nmOf (nI x) = nI (nmOf (nI x)).toBitVec.toNat ∧ (nmOf (nI x)).toBitVec.toNat < 65536 := by decide +kernel
theorem nh_16 {day g : Int32} (hs : subOK sb kc) : ∀ k, k ≤ kc → ∃ m, m < 65536 ∧ nhN iss sb fst len day g k = nI m := by
  intro k
  induction k with
  | zero => intro _; exact ⟨0, by decide, rfl⟩
  | succ k ih =>
    intro hk
    obtain ⟨m, m1, m2⟩ := ih (by omega)
    obtain ⟨s1, s2⟩ := hs k (by omega)
    rw [nhN]
    split
    · obtain ⟨q1, q2⟩ := nm_16 _ s2
      rw [← s1] at q1 q2
      refine ⟨m ||| (nmOf (sb k)).toBitVec.toNat, Nat.or_lt_two_pow (n := 16) m1 q2, ?_⟩
      rw [m2, ← nx_or, ← q1]
    · exact ⟨m, m1, m2⟩
theorem nI_of_bv (y : Int32) : y = nI y.toBitVec.toNat := by
  apply Int32.toBitVec_inj.1
  show y.toBitVec = BitVec.ofNat 32 y.toBitVec.toNat
  rw [BitVec.ofNat_toNat, BitVec.setWidth_eq]
theorem lost_16 {day wo : Int32} (hs : subOK sb kc) : ∃ m, m < 65536 ∧ lostC fs ss fd ed dd n iss sb fst len kc day wo = nI m := by
  obtain ⟨m, m1, m2⟩ := nh_16 (iss := iss) (fst := fst) (len := len) (day := day) (g := goodM fs ss fd ed dd day (-1) n) hs kc (Nat.le_refl _)
  refine ⟨m &&& (nhN iss sb fst len day (goodM fs ss fd ed dd day wo n) kc ^^^ (-1)).toBitVec.toNat, Nat.lt_of_le_of_lt Nat.and_le_left m1, ?_⟩
  unfold lostC
  rw [m2, ← nx_and, ← nI_of_bv]
end MATH
theorem wkN_cong {bc bc' lost lost' : _} : ∀ k : Nat, (∀ i, i < k → (bc : Int32 → Int32) ((lost : Nat → Int32) i) = (bc' : Int32 → Int32) ((lost' : Nat → Int32) i)) → wkN bc lost k = wkN bc' lost' k := by
  intro k
  induction k with
  | zero => intro _; rfl
  | succ k ih =>
    intro h
    rw [wkN, wkN, ih (fun i hi => h i (by omega)), h k (by omega)]
/-! The chains kept, and the chains looked for. -/
theorem edT_cong {fs ss ed fs' ss' ed' : Nat → Int32} : ∀ k : Nat, (∀ i, i < k → fs i = fs' i ∧ ss i = ss' i ∧ ed i = ed' i) → ∀ i, edT fs ss ed k i = edT fs' ss' ed' k i := by
  intro k
  induction k with
  | zero => intro _ i; rfl
  | succ k ih =>
    intro h i
    have ihk := ih (fun i hi => h i (by omega))
    obtain ⟨a, b, c⟩ := h k (by omega)
    rw [edT, edT, a, b, c]; simp only [ihk]
theorem edV_cong {fs ss ed fs' ss' ed' : Nat → Int32} {k : Nat} (h : ∀ i, i < k → fs i = fs' i ∧ ss i = ss' i ∧ ed i = ed' i) {i : Nat} (hi : i < k) : edV fs ss ed i = edV fs' ss' ed' i :=
  edT_cong (i + 1) (fun j hj => h j (by omega)) i
theorem cnT_cong {fs ss fs' ss' : Nat → Int32} : ∀ k : Nat, (∀ i, i < k → fs i = fs' i ∧ ss i = ss' i) → ∀ i, cnT fs ss k i = cnT fs' ss' k i := by
  intro k
  induction k with
  | zero => intro _ i; rfl
  | succ k ih =>
    intro h i
    have ihk := ih (fun i hi => h i (by omega))
    obtain ⟨a, b⟩ := h k (by omega)
    rw [cnT, cnT, a, b]; simp only [ihk]
theorem cnV_cong {fs ss fs' ss' : Nat → Int32} {k : Nat} (h : ∀ i, i < k → fs i = fs' i ∧ ss i = ss' i) {i : Nat} (hi : i < k) : cnV fs ss i = cnV fs' ss' i :=
  cnT_cong (i + 1) (fun j hj => h j (by omega)) i
def rootOK (fs ss : Nat → Int32) (n : Nat) : Prop := ∀ i, i < n → fs i = -1 → ss i = -1
theorem min_min (a b : Int32) : (if a < b then a else b) = (if a ≤ b then a else b) := by
  by_cases h : a < b
  · rw [if_pos h, if_pos (Int32.le_of_lt h)]
  · rw [if_neg h]
    by_cases h2 : a ≤ b
    · rw [if_pos h2]
      exact Int32.toInt_inj.mp (by rw [i32_lt] at h; rw [i32_le] at h2; omega)
    · rw [if_neg h2]
theorem ucE_ed {fs ss ed ce : Nat → Int32} {n j : Nat} (h1 : ∀ i, i < n → sgP fs i) (h2 : ∀ i, i < n → sgP ss i) (hr : rootOK fs ss n) (hce : ∀ i, i < j → ce i = edV fs ss ed i) : ∀ t : Nat, j + t ≤ n → ∀ i, i < j + t → ucE fs ss ed j ce t i = edV fs ss ed i := by
  intro t
  induction t with
  | zero => intro _ i hi; exact hce i hi
  | succ t ih =>
    intro ht i hi
    have ihk := ih (by omega)
    rw [ucE]
    by_cases e : i = j + t
    · rw [e, upd_eq, edV_eq (h1 _ (by omega)) (h2 _ (by omega))]
      generalize ucE fs ss ed j ce t = g at ihk
      have hk : j + t < n := by omega
      generalize j + t = k at hk ihk
      unfold ucEnd edM
      by_cases e1 : fs k = -1
      · have e2 := hr k hk e1
        simp only [if_pos e1, if_pos e2]
        exact min_min _ _
      · have q1 := ihk _ ((h1 k hk).resolve_left e1).2
        by_cases e2 : ss k = -1
        · simp only [if_neg e1, if_pos e2, q1, e2, not_true_eq_false, false_and, if_false]
          exact min_min _ _
        · have q2 := ihk _ ((h2 k hk).resolve_left e2).2
          simp only [if_neg e1, if_neg e2, q1, q2, e2, not_false_eq_true, true_and]
          have e3 : (if edV fs ss ed (ix (fs k)) < edV fs ss ed (ix (ss k)) then edV fs ss ed (ix (ss k)) else edV fs ss ed (ix (fs k))) = (if ¬ edV fs ss ed (ix (ss k)) ≤ edV fs ss ed (ix (fs k)) then edV fs ss ed (ix (ss k)) else edV fs ss ed (ix (fs k))) := by
            by_cases q : edV fs ss ed (ix (fs k)) < edV fs ss ed (ix (ss k))
            · rw [if_pos q, if_pos (fun z => (i32_nlt.mpr z) q)]
            · rw [if_neg q, if_neg (fun z => z (i32_nlt.mp q))]
          rw [e3]
          exact min_min _ _
    · rw [upd_ne _ _ e]; exact ihk i (by omega)
theorem ucC_cn {fs ss cw : Nat → Int32} {n j : Nat} (h1 : ∀ i, i < n → sgP fs i) (h2 : ∀ i, i < n → sgP ss i) (hr : rootOK fs ss n) (hcw : ∀ i, i < j → cw i = cnV fs ss i) : ∀ t : Nat, j + t ≤ n → ∀ i, i < j + t → ucC fs ss j cw t i = cnV fs ss i := by
  intro t
  induction t with
  | zero => intro _ i hi; exact hcw i hi
  | succ t ih =>
    intro ht i hi
    have ihk := ih (by omega)
    rw [ucC]
    by_cases e : i = j + t
    · rw [e, upd_eq, cnV_eq (h1 _ (by omega)) (h2 _ (by omega))]
      generalize ucC fs ss j cw t = g at ihk
      have hk : j + t < n := by omega
      generalize j + t = k at hk ihk
      unfold ucCnt
      by_cases e1 : fs k = -1
      · have e2 := hr k hk e1
        simp only [if_pos e1, if_pos e2]
      · have q1 := ihk _ ((h1 k hk).resolve_left e1).2
        by_cases e2 : ss k = -1
        · simp only [if_neg e1, if_pos e2, q1]
          exact (Int32.add_zero _).symm
        · have q2 := ihk _ ((h2 k hk).resolve_left e2).2
          simp only [if_neg e1, if_neg e2, q1, q2]
    · rw [upd_ne _ _ e]; exact ihk i (by omega)
