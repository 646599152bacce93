/-! What the law asks for is in range. -/
theorem mul_nI (a b : Nat) : nI a * nI b = nI (a * b) := (Int32.ofNat_mul a b).symm
theorem cdAdd_0 {n fr to li : Nat} {sg : Int32} (hsg : sg = -1 ∨ ∃ g, g < n ∧ sg = nI g) (hn : n < 8) (h1 : fr ≤ 5000) (h2 : to ≤ 5000) (h3 : fr ≤ to) (h4 : li ≤ 50) : cdAdd n sg (nI fr) (nI to) (nI li) = 0 := by
  have e1 : (!decide (sg = -1) && badI n sg) = false := by
    rcases hsg with h | ⟨g, hg, h⟩
    · simp [h]
    · rw [h, badI_nI hg (by omega), Bool.and_false]
  have e2 : (badD (nI fr) || badD (nI to) || !decide (nI fr ≤ nI to) || decide (nI li < 0) || !decide (nI li ≤ 50)) = false := by
    have q : nI li ≤ 50 := nI_le (b := 50) h4 (by omega)
    rw [badD_nI h1, badD_nI h2, decide_eq_true (nI_le h3 (by omega)), decide_eq_false (nI_pos (by omega)), decide_eq_true q]; rfl
  unfold cdAdd
  rw [e1, e2, if_neg (by decide), if_neg (by decide), if_neg (by omega)]
theorem sg_ok {n : Nat} {sg : Int32} (hn : n < 8) (h : sg = -1 ∨ ∃ g, g < n ∧ sg = nI g) : sg = -1 ∨ (sg = nI (ix sg) ∧ ix sg < n) := by
  rcases h with h | ⟨g, hg, h⟩
  · exact Or.inl h
  · rw [h, ix_nI (by omega)]; exact Or.inr ⟨rfl, hg⟩
theorem cdIss_0 {b : Bool} {n i su ln : Nat} (hb : b = true) (hi : i < n) (hn : n ≤ 8) (h1 : su < 20) (h2 : 1 ≤ ln) (h3 : ln ≤ 400) : cdIss b n (nI i) (nI su) (nI ln) = 0 := by
  have e2 : (decide (nI su < 0) || !decide (nI su < 20) || decide (nI ln < 1) || !decide (nI ln ≤ 400)) = false := by
    have q1 : nI su < 20 := nI_lt (b := 20) h1 (by omega)
    have q2 : ¬ nI ln < 1 := nI_nlt (b := 1) h2 (by omega)
    have q3 : nI ln ≤ 400 := nI_le (b := 400) h3 (by omega)
    rw [decide_eq_false (nI_pos (by omega)), decide_eq_true q1, decide_eq_false q2, decide_eq_true q3]; rfl
  unfold cdIss
  rw [badI_nI hi (by omega), e2, hb, if_neg (by decide), if_neg (by decide), if_pos rfl]
theorem cdDis_0 {n i : Nat} {d : Int32} (hi : i < n) (hn : n ≤ 8) (hd : d = -1 ∨ badD d = false) : cdDis n (nI i) d = 0 := by
  have e2 : (!decide (d = -1) && badD d) = false := by
    rcases hd with h | h
    · simp [h]
    · rw [h, Bool.and_false]
  unfold cdDis
  rw [badI_nI hi (by omega), e2, if_neg (by decide), if_neg (by decide)]
theorem cdPass_0 {td d : Nat} (h1 : 1 ≤ d) (h2 : d ≤ 100) (h3 : td + d ≤ 3000) : cdPass (nI td) (nI d) = 0 := by
  have e1 : (decide (nI d < 1) || !decide (nI d ≤ 100)) = false := by
    have q1 : ¬ nI d < 1 := nI_nlt (b := 1) h1 (by omega)
    have q2 : nI d ≤ 100 := nI_le (b := 100) h2 (by omega)
    rw [decide_eq_false q1, decide_eq_true q2]; rfl
  have e2 : (!decide (nI td + nI d ≤ 3000)) = false := by
    have q : nI (td + d) ≤ 3000 := nI_le (b := 3000) h3 (by omega)
    rw [nI_add, decide_eq_true q]; rfl
  unfold cdPass
  rw [e1, e2, if_neg (by decide), if_neg (by decide)]
theorem can_0 {fs ss fd ed lm dd : Nat → Int32} {n : Nat} {iss fst : Nat → Int32} {kc td i : Nat} {su : Int32} (hk : kc < 60) (hi : i < 2147483648) (h1 : ¬ lm i - iwN iss fst (nI i) (nI td / 7) kc ≤ 0) (h2 : hasB (goodM fs ss fd ed dd (nI td) (-1) n) (nI i)) : canC fs ss fd ed lm dd n iss fst kc (fun _ => 0) (nI td) (ix (nI i)) su := by
  rw [ix_nI hi]
  exact ⟨by omega, h1, fun k _ h => h.2.1 rfl, h2⟩
theorem ush16 (sd : Int32) : ∃ w, w < 65536 ∧ (sd.toUInt32 >>> ((16 : Int32).toUInt32 &&& Int32.toUInt32 31)).toInt32 = nI w := by
  refine ⟨(sd.toUInt32 >>> ((16 : Int32).toUInt32 &&& Int32.toUInt32 31)).toInt32.toBitVec.toNat, ?_, nI_of_bv _⟩
  show (sd.toUInt32 >>> ((16 : Int32).toUInt32 &&& Int32.toUInt32 31)).toNat < 65536
  rw [UInt32.toNat_shiftRight, show ((16 : Int32).toUInt32 &&& Int32.toUInt32 31).toNat % 32 = 16 from by decide, Nat.shiftRight_eq_div_pow]
  have := sd.toUInt32.toNat_lt
  omega
theorem off_nI {sd : Int32} {m : Nat} (hm : m ≤ 400) : ∃ o, o ≤ 66 ∧ offD sd (nI m) = nI o := by
  obtain ⟨w, w1, w2⟩ := ush16 sd
  have e6 : nI m / 6 + 1 = nI (m / 6 + 1) := by
    rw [show nI m / 6 = nI (m / 6) from pk_div (d := 6) (by omega) (by omega) (by omega), nI_1]
  refine ⟨w % (m / 6 + 1), ?_, ?_⟩
  · have := Nat.mod_lt w (show 0 < m / 6 + 1 by omega)
    omega
  · show (sd.toUInt32 >>> ((16 : Int32).toUInt32 &&& Int32.toUInt32 31)).toInt32 - (sd.toUInt32 >>> ((16 : Int32).toUInt32 &&& Int32.toUInt32 31)).toInt32 / (nI m / 6 + 1) * (nI m / 6 + 1) = _
    rw [w2, e6]
    exact pk_rem (by omega) (by omega) (by omega)
theorem due_ge {td m : Nat} {sd : Int32} (h1 : td ≤ 3000) (h2 : m ≤ 400) : ¬ nI td + nI m * 2 / 3 + offD sd (nI m) < nI td + 2 * nI m / 3 := by
  obtain ⟨o, o1, o2⟩ := off_nI (sd := sd) h2
  have e1 : nI m * 2 / 3 = nI (m * 2 / 3) := by
    rw [show nI m * 2 = nI (m * 2) from mul_nI m 2]
    exact pk_div (d := 3) (by omega) (by omega) (by omega)
  have e2 : 2 * nI m / 3 = nI (2 * m / 3) := by
    rw [show 2 * nI m = nI (2 * m) from mul_nI 2 m]
    exact pk_div (d := 3) (by omega) (by omega) (by omega)
  rw [o2, e1, e2, nI_add, nI_add, nI_add]
  exact nI_nlt (by omega) (by omega)
theorem dis_rng {td x : Nat} (htd : td ≤ 3000) (hx : x < 60) (h : -1 ≤ nI td + nI x - 10) : nI td + nI x - 10 = -1 ∨ badD (nI td + nI x - 10) = false := by
  have m10 : (10 : Int32).toInt = 10 := by decide
  have m1 : (-1 : Int32).toInt = -1 := by decide
  have e : (nI td + nI x - 10).toInt = (td + x : Nat) - 10 := by
    rw [nI_add, fb_subI (by rw [nI_toInt (by omega), m10]; omega) (by rw [nI_toInt (by omega), m10]; omega), nI_toInt (by omega), m10]
  rw [i32_le, m1, e] at h
  by_cases q : td + x = 9
  · exact Or.inl (i32_eq (by rw [e, m1]; omega))
  · right
    have e3 : nI td + nI x - 10 = nI (td + x - 10) := i32_eq (by rw [e, nI_toInt (by omega)]; omega)
    rw [e3]
    exact badD_nI (by omega)
def dueX (td m : Nat) (sd : Int32) : Int32 := nI td + nI m * 2 / 3 + offD sd (nI m)
theorem dueX_ge {td m : Nat} {sd : Int32} (h1 : td ≤ 3000) (h2 : m ≤ 400) : ¬ dueX td m sd < nI td + 2 * nI m / 3 := due_ge h1 h2
theorem due_X {fst len off : Nat → Int32} {kc td m : Nat} {sd : Int32} (hk : kc < 60) : ctDue (upd fst kc (nI td)) (upd len kc (nI m)) (upd off kc (offD sd (nI m))) (ix (nI kc)) = dueX td m sd := by
  rw [ix_nI (by omega)]
  show upd fst kc (nI td) kc + upd len kc (nI m) kc * 2 / 3 + upd off kc (offD sd (nI m)) kc = _
  rw [upd_eq, upd_eq, upd_eq]
  rfl
theorem end_X {fst len : Nat → Int32} {kc td m : Nat} (hk : kc < 60) : ctEnd (upd fst kc (nI td)) (upd len kc (nI m)) (ix (nI kc)) = (nI td + nI m) - 1 := by
  rw [ix_nI (by omega)]
  show upd fst kc (nI td) kc + upd len kc (nI m) kc - 1 = _
  rw [upd_eq, upd_eq]
