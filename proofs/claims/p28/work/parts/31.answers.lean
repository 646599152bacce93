/-! What the law holds the class's answers against. -/
theorem badI_nI {n i : Nat} (h : i < n) (hn : n < 2147483648) : badI n (nI i) = false := by
  simp only [badI, Bool.or_eq_false_iff, decide_eq_false_iff_not, Bool.not_eq_false', decide_eq_true_eq]
  exact ⟨nI_pos (by omega), nI_lt h (by omega)⟩
theorem badD_nI {d : Nat} (h : d ≤ 5000) : badD (nI d) = false := by
  simp only [badD, Bool.or_eq_false_iff, decide_eq_false_iff_not, Bool.not_eq_false', decide_eq_true_eq]
  exact ⟨nI_pos (by omega), nI_le (b := 5000) h (by omega)⟩
theorem badN_nI {x : Nat} (h : x < 16) : badN (nI x) = false := badI_nI (n := 16) h (by omega)
theorem cdOne_nI {n i : Nat} (h : i < n) (hn : n < 2147483648) : cdOne n (nI i) = 0 := by
  unfold cdOne; rw [badI_nI h hn]; rfl
theorem cdID_nI {n i d : Nat} (h : i < n) (hn : n < 2147483648) (hd : d ≤ 5000) : cdID n (nI i) (nI d) = 0 := by
  unfold cdID; rw [badI_nI h hn, badD_nI hd]; rfl
theorem cdND_nI {x d : Nat} (h : x < 16) (hd : d ≤ 5000) : cdND (nI x) (nI d) = 0 := by
  unfold cdND; rw [badN_nI h, badD_nI hd]; rfl
theorem cdD_nI {d : Nat} (hd : d ≤ 5000) : cdD (nI d) = 0 := by
  unfold cdD; rw [badD_nI hd]; rfl
theorem xkA_0 {E : String} : ¬ xkA E 0 := by rintro (⟨-, h⟩ | ⟨-, h⟩ | ⟨-, h⟩) <;> exact absurd h (by decide)
theorem xkB_0 {E : String} : ¬ xkB E 0 := by rintro (⟨-, h⟩ | ⟨-, h⟩) <;> exact absurd h (by decide)
/-- the script's numbers, cut to a range -/
def lowN (v : Int32) (k : Nat) : Nat := (v &&& 2147483647).toBitVec.toNat % k
theorem low_eq {v : Int32} {k : Nat} (h0 : 0 < k) (hk : k < 2147483648) : (v &&& 2147483647) - (v &&& 2147483647) / nI k * nI k = nI (lowN v k) := by
  have e := nI_of_bv (v &&& 2147483647)
  have hb : (v &&& 2147483647).toBitVec.toNat < 2147483648 := by
    rw [Int32.toBitVec_and, BitVec.toNat_and]
    exact Nat.lt_of_le_of_lt Nat.and_le_right (by decide)
  unfold lowN
  generalize (v &&& 2147483647).toBitVec.toNat = w at e hb ⊢
  rw [e]
  exact pk_rem hb h0 hk
theorem lowN_lt {v : Int32} {k : Nat} (h0 : 0 < k) : lowN v k < k := Nat.mod_lt _ h0
/-! The queue's places don't depend on what its row held before. -/
theorem insQ_ind (fst len : Nat → Int32) (x : Nat) : ∀ (p : Nat) (q r : Nat → Int32), (∀ i, i < p → q i = r i) → ∀ n, p ≤ n → (∀ i, p < i → i < n + 1 → q i = r i) → ∀ i, i < n + 1 → insQ fst len x q p i = insQ fst len x r p i := by
  intro p
  induction p with
  | zero =>
    intro q r h n hn h2 i hi
    rw [insQ, insQ]
    by_cases e : i = 0
    · rw [e, upd_eq, upd_eq]
    · rw [upd_ne _ _ e, upd_ne _ _ e]; exact h2 i (by omega) hi
  | succ p ih =>
    intro q r h n hn h2 i hi
    rw [insQ, insQ, h p (by omega)]
    split
    · by_cases e : i = p + 1
      · rw [e, upd_eq, upd_eq]
      · rw [upd_ne _ _ e, upd_ne _ _ e]
        by_cases e2 : i < p + 1
        · exact h i e2
        · exact h2 i (by omega) hi
    · refine ih _ _ (fun j hj => ?_) n (by omega) (fun j h3 h4 => ?_) i hi
      · rw [upd_ne _ _ (by omega), upd_ne _ _ (by omega)]; exact h j (by omega)
      · by_cases e : j = p + 1
        · rw [e, upd_eq, upd_eq]
        · rw [upd_ne _ _ e, upd_ne _ _ e]; exact h2 j (by omega) h4
theorem fq_ind (fst len off ren : Nat → Int32) (day : Int32) (q r : Nat → Int32) : ∀ k : Nat, fqS fst len off ren day q k = fqS fst len off ren day r k ∧ ∀ i, i < fqS fst len off ren day q k → fqQ fst len off ren day q k i = fqQ fst len off ren day r k i := by
  intro k
  induction k with
  | zero => exact ⟨rfl, fun i h => absurd h (Nat.not_lt_zero _)⟩
  | succ k ih =>
    obtain ⟨h1, h2⟩ := ih
    unfold fqS at h1
    unfold fqS fqQ at h2
    unfold fqS fqQ
    rw [fqSQ, fqSQ]
    split
    · refine ⟨by show _ + 1 = _ + 1; rw [h1], fun i hi => ?_⟩
      show insQ fst len k (fqSQ fst len off ren day q k).2 (fqSQ fst len off ren day q k).1 i = insQ fst len k (fqSQ fst len off ren day r k).2 (fqSQ fst len off ren day r k).1 i
      rw [← h1]
      exact insQ_ind fst len k _ _ _ h2 _ (Nat.le_refl _) (fun j h3 h4 => absurd h3 (by omega)) i hi
    · exact ⟨h1, h2⟩
/-- how many wait, and who at a place -/
def fqZ (fst len off ren : Nat → Int32) (day : Int32) (kc : Nat) : Nat := fqS fst len off ren day (fun _ => 0) kc
def fqV (fst len off ren : Nat → Int32) (day : Int32) (kc i : Nat) : Nat := ix (fqQ fst len off ren day (fun _ => 0) kc i)
theorem fq_Z (fst len off ren : Nat → Int32) (day : Int32) (que : Nat → Int32) (kc : Nat) : fqS fst len off ren day que kc = fqZ fst len off ren day kc := (fq_ind fst len off ren day que (fun _ => 0) kc).1
theorem fq_V {fst len off ren : Nat → Int32} {day : Int32} {que : Nat → Int32} {kc i : Nat} (hk : kc ≤ 60) (hi : i < fqZ fst len off ren day kc) : fqQ fst len off ren day que kc i = nI (fqV fst len off ren day kc i) := by
  rw [(fq_ind fst len off ren day que (fun _ => 0) kc).2 i (by rw [fq_Z]; exact hi)]
  exact ((fq_sorted fst len off ren day (fun _ => 0) kc (by omega)).1 i hi).1
theorem fq_lt {fst len off ren : Nat → Int32} {day : Int32} {kc i : Nat} (hk : kc ≤ 60) (hi : i < fqZ fst len off ren day kc) : fqV fst len off ren day kc i < kc ∧ waitP fst len off ren day (fqV fst len off ren day kc i) :=
  ((fq_sorted fst len off ren day (fun _ => 0) kc (by omega)).1 i hi).2
theorem fq_Zle {fst len off ren : Nat → Int32} {day : Int32} {kc : Nat} (hk : kc ≤ 60) : fqZ fst len off ren day kc ≤ kc := (fq_ok fst len off ren day (fun _ => 0) kc (by omega)).1
theorem fq_next {fst len off ren : Nat → Int32} {day : Int32} {kc i : Nat} (hk : kc ≤ 60) (h0 : 0 < i) (hi : i < fqZ fst len off ren day kc) : ltE fst len (fqV fst len off ren day kc (i - 1)) (fqV fst len off ren day kc i) :=
  (fq_sorted fst len off ren day (fun _ => 0) kc (by omega)).2.1 (i - 1) i (by omega) hi
/-- what the law keeps of the one that it looked at last -/
def lastP (fst len off ren : Nat → Int32) (day : Int32) (kc k : Nat) (g4 g5 : Int32) : Prop :=
  (k = 0 ∧ g4 = -1) ∨ (0 < k ∧ g4 = ctEnd fst len (fqV fst len off ren day kc (k - 1)) ∧ g5 = nI (fqV fst len off ren day kc (k - 1)))
theorem i32_eq {x y : Int32} (h : x.toInt = y.toInt) : x = y := Int32.toInt_inj.mp h
theorem wait_ge {fst len off ren : Nat → Int32} {day : Int32} {kc k : Nat} {g4 g5 : Int32} (hk : kc ≤ 60) (hd : ¬ day < 0) (hi : k < fqZ fst len off ren day kc) (hg : lastP fst len off ren day kc k g4 g5) (h : ¬ g4 < ctEnd fst len (fqV fst len off ren day kc k)) :
    ctEnd fst len (fqV fst len off ren day kc k) = g4 ∧ ¬ nI (fqV fst len off ren day kc k) ≤ g5 := by
  obtain ⟨h1, h2⟩ := fq_lt hk hi
  rw [i32_lt] at h
  rcases hg with ⟨e, e4⟩ | ⟨e, e4, e5⟩
  · exfalso
    have h3 := h2.2.2
    rw [i32_lt] at h3 hd
    rw [e4] at h
    have m1 : (-1 : Int32).toInt = -1 := by decide
    have m0 : (0 : Int32).toInt = 0 := by decide
    omega
  · rw [e4] at h
    have hb := (fq_lt hk (show k - 1 < fqZ fst len off ren day kc by omega)).1
    rcases fq_next hk e hi with w | ⟨w1, w2⟩
    · unfold eK at w; omega
    · unfold eK at w1
      refine ⟨by rw [e4]; exact i32_eq w1.symm, ?_⟩
      rw [e5]
      exact nI_ge w2 (by omega)
/-- a renewal's last day -/
theorem ren_end {n kc td c : Nat} {lm iss sb fst len ren : Nat → Int32} (h : CInv n kc td lm iss sb fst len ren) (htd : td ≤ 3000) (hc : c < kc) (hr : ¬ ren c = -1) :
    ren c = nI (ix (ren c)) ∧ c < ix (ren c) ∧ ix (ren c) < kc ∧ iss (ix (ren c)) = iss c ∧ ¬ ctEnd fst len (ix (ren c)) ≤ ctEnd fst len c - 400 := by
  have hk := h.1
  obtain ⟨b1, b2, b3, b4, b5, b6⟩ := (h.2.2.2.1 c hc).resolve_left hr
  refine ⟨b1, b2, b3, b4, ?_⟩
  obtain ⟨-, -, f1, f2, l1, l2, l3⟩ := h.2.2.1 c hc
  obtain ⟨-, -, f3, f4, -⟩ := h.2.2.1 _ b3
  show ¬ fst (ix (ren c)) + len (ix (ren c)) - 1 ≤ fst c + len c - 1 - 400
  rw [b5, f3, f1, l1, nI_add, nI_add, i32_le]
  generalize ix (fst c) = a at *
  generalize ix (fst (ix (ren c))) = a' at *
  generalize ix (len c) = w at *
  have m1 : (1 : Int32).toInt = 1 := by decide
  have m4 : (400 : Int32).toInt = 400 := by decide
  have e1 : (nI (a' + w) - 1).toInt = (a' + w : Nat) - 1 := by
    rw [fb_subI (by rw [nI_toInt (by omega), m1]; omega) (by rw [nI_toInt (by omega), m1]; omega), nI_toInt (by omega), m1]
  have e2 : (nI (a + w) - 1).toInt = (a + w : Nat) - 1 := by
    rw [fb_subI (by rw [nI_toInt (by omega), m1]; omega) (by rw [nI_toInt (by omega), m1]; omega), nI_toInt (by omega), m1]
  have e3 : (nI (a + w) - 1 - 400).toInt = (a + w : Nat) - 1 - 400 := by
    rw [fb_subI (by rw [e2, m4]; omega) (by rw [e2, m4]; omega), e2, m4]
  rw [e1, e3]
  omega
/-- an issuer's room -/
theorem room_nn {n kc td i : Nat} {lm iss sb fst len ren : Nat → Int32} (h : CInv n kc td lm iss sb fst len ren) (hi : i < n) : ¬ lm i - iwN iss fst (nI i) (nI td / 7) kc < 0 := by
  obtain ⟨b1, b2, c, c1, c2⟩ := h.2.2.2.2 i hi
  rw [c2, b1, sub_nI c1]
  exact nI_pos (by omega)
/-! What is covered. -/
theorem brk_cov (a b : Int32) : (a &&& b) &&& (a ^^^ (-1)) = 0 := by
  refine b_ext (fun i hi => ?_)
  rw [b_and, b_and, b_xor, b_m1 i hi, b_0]
  cases bt a i <;> cases bt b i <;> rfl
theorem and_not (a : Int32) : a &&& (a ^^^ (-1)) = 0 := by
  refine b_ext (fun i hi => ?_)
  rw [b_and, b_xor, b_m1 i hi, b_0]
  cases bt a i <;> rfl
theorem good_mono {fs ss fd ed dd : Nat → Int32} {day wo : Int32} {i : Nat} (k : Nat) (h : bt (goodM fs ss fd ed dd day wo k) i = true) : bt (goodM fs ss fd ed dd day wo (k + 1)) i = true := by
  rw [goodM]
  split
  · rw [b_or, h]; rfl
  · exact h
/-- who isn't good is good for nobody -/
theorem good_wo {fs ss fd ed dd : Nat → Int32} {day : Int32} {i : Nat} (hi : i < 8) : ∀ k : Nat, k ≤ 8 → bt (goodM fs ss fd ed dd day (-1) k) i = false → goodM fs ss fd ed dd day (nI i) k = goodM fs ss fd ed dd day (-1) k := by
  intro k
  induction k with
  | zero => intro _ _; rfl
  | succ k ih =>
    intro hk h
    have h0 : bt (goodM fs ss fd ed dd day (-1) k) i = false := by
      cases q : bt (goodM fs ss fd ed dd day (-1) k) i
      · rfl
      · rw [good_mono k q] at h; exact absurd h (by decide)
    have e := ih (by omega) h0
    rw [goodM] at h
    rw [goodM, goodM, e]
    by_cases c : standsP fd ed dd k day ∧ heldP fs ss k (goodM fs ss fd ed dd day (-1) k)
    · have hm : ¬ nI k = -1 := nI_m1 (by omega)
      have hp : ¬ nI k = -1 ∧ standsP fd ed dd k day ∧ heldP fs ss k (goodM fs ss fd ed dd day (-1) k) := ⟨hm, c⟩
      rw [if_pos hp] at h ⊢
      by_cases e2 : k = i
      · rw [b_or, shl1_bt (by omega) (by omega), e2, decide_eq_true rfl, Bool.or_true] at h
        exact absurd h (by decide)
      · have hq : ¬ nI k = nI i ∧ standsP fd ed dd k day ∧ heldP fs ss k (goodM fs ss fd ed dd day (-1) k) := ⟨fun q => e2 (k_eqN (by omega) (by omega) q), c⟩
        rw [if_pos hq]
    · rw [if_neg (fun q => c q.2), if_neg (fun q => c q.2)]
theorem brk_0 {fs ss fd ed dd : Nat → Int32} {n : Nat} {iss sb fst len : Nat → Int32} {kc i : Nat} {day : Int32} (hn : n ≤ 8) (hi : i < n) (h : ¬ hasB (goodM fs ss fd ed dd day (-1) n) (nI i)) : lostC fs ss fd ed dd n iss sb fst len kc day (nI i) = 0 := by
  have h0 : bt (goodM fs ss fd ed dd day (-1) n) i = false := (hasB_iff0 (by omega)).mp (Decidable.not_not.mp h)
  unfold lostC
  rw [good_wo (by omega) n hn h0]
  exact and_not _
theorem wk_bits {fs ss fd ed dd iss sb fst len : Nat → Int32} {n kc : Nat} {day : Int32} (hs : subOK sb kc) :
    (wkN bcN (fun k => lostC fs ss fd ed dd n iss sb fst len kc day (nI k)) n).1 = (wkN (fun x => bsN x 16) (fun k => lostC fs ss fd ed dd n iss sb fst len kc day (nI k)) n).1 := by
  refine congrArg Prod.fst (wkN_cong n (fun k _ => ?_))
  obtain ⟨m, m1, m2⟩ := lost_16 (fs := fs) (ss := ss) (fd := fd) (ed := ed) (dd := dd) (n := n) (iss := iss) (fst := fst) (len := len) (day := day) (wo := nI k) hs
  show bcN (lostC fs ss fd ed dd n iss sb fst len kc day (nI k)) = bsN (lostC fs ss fd ed dd n iss sb fst len kc day (nI k)) 16
  rw [m2, bc_bs m1]
theorem has_1 {x z : Int32} (h : (x >>> (z &&& 31)) &&& 1 = 1) : hasB x z := fun q => absurd (h.symm.trans q) (by decide)
theorem and_01 (y : Int32) : y &&& 1 = 0 ∨ y &&& 1 = 1 := by
  cases h : bt y 0
  · left
    refine b_ext (fun i hi => ?_)
    rw [b_and, b_0, bt_1 i hi]
    by_cases e : i = 0
    · rw [e, h]; rfl
    · simp [e]
  · right
    refine b_ext (fun i hi => ?_)
    rw [b_and, bt_1 i hi]
    by_cases e : i = 0
    · rw [e, h]; rfl
    · simp [e]
theorem has_0 {x z : Int32} (h : ¬ (x >>> (z &&& 31)) &&& 1 = 1) : ¬ hasB x z := fun q => q ((and_01 _).resolve_right h)
theorem ng_ge {fs ss fd ed dd : Nat → Int32} {n : Nat} {iss sb fst len : Nat → Int32} {kc : Nat} {nm : Int32} : ∀ f y : Nat, y + f < 2147483648 → ∀ y0, y0 < y → ¬ ngC fs ss fd ed dd n iss sb fst len kc nm f y = nI y0 := by
  intro f
  induction f with
  | zero => intro y h y0 h0 q; rw [ngC] at q; exact nI_m1 (k := y0) (by omega) q.symm
  | succ f ih =>
    intro y h y0 h0
    rw [ngC]
    split
    · exact ih (y + 1) (by omega) y0 (by omega)
    · intro q
      have := k_eqN (by omega) (by omega) q
      omega
theorem ng_t {fs ss fd ed dd : Nat → Int32} {n : Nat} {iss sb fst len : Nat → Int32} {kc d : Nat} {nm : Int32} (hd : d ≤ 5000) (h : hasB (nhN iss sb fst len (nI d) (goodM fs ss fd ed dd (nI d) (-1) n) kc) nm) : ¬ ngC fs ss fd ed dd n iss sb fst len kc nm (5001 - ix (nI d)) (ix (nI d)) = nI d := by
  rw [ix_nI (by omega), show 5001 - d = (5000 - d) + 1 by omega, ngC, if_pos h]
  exact ng_ge _ _ (by omega) d (by omega)
theorem ng_f {fs ss fd ed dd : Nat → Int32} {n : Nat} {iss sb fst len : Nat → Int32} {kc d : Nat} {nm : Int32} (hd : d ≤ 5000) (h : ¬ hasB (nhN iss sb fst len (nI d) (goodM fs ss fd ed dd (nI d) (-1) n) kc) nm) : ngC fs ss fd ed dd n iss sb fst len kc nm (5001 - ix (nI d)) (ix (nI d)) = nI d := by
  rw [ix_nI (by omega), show 5001 - d = (5000 - d) + 1 by omega, ngC, if_neg h]
