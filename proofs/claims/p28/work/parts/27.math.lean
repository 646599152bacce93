/-! What the class answers, as numbers. -/
theorem sub_range {su : Int32} (h1 : ¬ su < 0) (h2 : su < 20) : su = nI (ix su) ∧ ix su < 20 := by
  have e := k_ix h1
  refine ⟨e, ?_⟩
  rw [e] at h2
  exact k_ltN (b := 20) (ix_lt h1) (by omega) h2
theorem cd_iss_ok {c : Bool} {n : Nat} {i su ln : Int32} (h : cdIss c n i su ln = 0) : badI n i = false ∧ ¬ su < 0 ∧ su < 20 ∧ ¬ ln < 1 ∧ ln ≤ 400 ∧ c = true := by
  unfold cdIss at h
  cases h1 : badI n i
  · rw [h1] at h
    cases h2 : (decide (su < 0) || !decide (su < 20) || decide (ln < 1) || !decide (ln ≤ 400))
    · rw [h2] at h
      simp only [Bool.or_eq_false_iff, decide_eq_false_iff_not, Bool.not_eq_false', decide_eq_true_eq] at h2
      cases c
      · exact absurd h (by decide)
      · exact ⟨rfl, h2.1.1.1, h2.1.1.2, h2.1.2, h2.2, rfl⟩
    · rw [h2] at h; simp at h
  · rw [h1] at h; simp at h
theorem cdOne_ok {n : Nat} {i : Int32} (h : cdOne n i = 0) : badI n i = false := by
  unfold cdOne at h
  cases h1 : badI n i
  · rfl
  · rw [h1] at h; simp at h
theorem cdID_ok {n : Nat} {i d : Int32} (h : cdID n i d = 0) : badI n i = false ∧ badD d = false := by
  unfold cdID at h
  cases h1 : badI n i
  · rw [h1] at h
    cases h2 : badD d
    · exact ⟨rfl, rfl⟩
    · rw [h2] at h; simp at h
  · rw [h1] at h; simp at h
theorem cdND_ok {n d : Int32} (h : cdND n d = 0) : badN n = false ∧ badD d = false := by
  unfold cdND at h
  cases h1 : badN n
  · rw [h1] at h
    cases h2 : badD d
    · exact ⟨rfl, rfl⟩
    · rw [h2] at h; simp at h
  · rw [h1] at h; simp at h
section MATH
variable {fs ss fd ed dd : Nat → Int32} {n : Nat} {iss sb fst len : Nat → Int32} {kc : Nat}
theorem nx_or (a b : Nat) : nI a ||| nI b = nI (a ||| b) := by
  apply Int32.toBitVec_inj.1
  show BitVec.ofNat 32 a ||| BitVec.ofNat 32 b = BitVec.ofNat 32 (a ||| b)
  apply BitVec.eq_of_getLsbD_eq
  intro i hi
  simp [hi]
theorem nm_16 : ∀ x, x < 20 → nmOf (nI x) = nI (nmOf (nI x)).toBitVec.toNat ∧ (nmOf (nI x)).toBitVec.toNat < 65536 := by decide +kernel
theorem nh_16 {day g : Int32} (hs : subOK sb kc) : ∀ k, k ≤ kc → ∃ m, m < 65536 ∧ nhN iss sb fst len day g k = nI m := by
  intro k
  induction k with
  | zero => intro _; exact ⟨0, by decide, rfl⟩
  | succ k ih =>
    intro hk
    obtain ⟨m, m1, m2⟩ := ih (by omega)
    obtain ⟨s1, s2⟩ := hs k (by omega)
    rw [nhN]
    split
    · obtain ⟨q1, q2⟩ := nm_16 _ s2
      rw [← s1] at q1 q2
      refine ⟨m ||| (nmOf (sb k)).toBitVec.toNat, Nat.or_lt_two_pow (n := 16) m1 q2, ?_⟩
      rw [m2, ← nx_or, ← q1]
    · exact ⟨m, m1, m2⟩
theorem nI_of_bv (y : Int32) : y = nI y.toBitVec.toNat := by
  apply Int32.toBitVec_inj.1
  show y.toBitVec = BitVec.ofNat 32 y.toBitVec.toNat
  rw [BitVec.ofNat_toNat, BitVec.setWidth_eq]
theorem lost_16 {day wo : Int32} (hs : subOK sb kc) : ∃ m, m < 65536 ∧ lostC fs ss fd ed dd n iss sb fst len kc day wo = nI m := by
  obtain ⟨m, m1, m2⟩ := nh_16 (iss := iss) (fst := fst) (len := len) (day := day) (g := goodM fs ss fd ed dd day (-1) n) hs kc (Nat.le_refl _)
  refine ⟨m &&& (nhN iss sb fst len day (goodM fs ss fd ed dd day wo n) kc ^^^ (-1)).toBitVec.toNat, Nat.lt_of_le_of_lt Nat.and_le_left m1, ?_⟩
  unfold lostC
  rw [m2, ← nx_and, ← nI_of_bv]
end MATH
theorem wkN_cong {bc bc' lost lost' : _} : ∀ k : Nat, (∀ i, i < k → (bc : Int32 → Int32) ((lost : Nat → Int32) i) = (bc' : Int32 → Int32) ((lost' : Nat → Int32) i)) → wkN bc lost k = wkN bc' lost' k := by
  intro k
  induction k with
  | zero => intro _; rfl
  | succ k ih =>
    intro h
    rw [wkN, wkN, ih (fun i hi => h i (by omega)), h k (by omega)]
