/-! Bits: a family of the kit's BITS, and three rows of its COUNTS. -/
def bt (x : Int32) (i : Nat) : Bool := x.toBitVec.getLsbD i
theorem b_ext {x y : Int32} (h : ∀ i, i < 32 → bt x i = bt y i) : x = y := Int32.toBitVec_inj.mp (BitVec.eq_of_getLsbD_eq (fun i hi => h i hi))
theorem b_or (x y : Int32) (i : Nat) : bt (x ||| y) i = (bt x i || bt y i) := by unfold bt; rw [Int32.toBitVec_or, BitVec.getLsbD_or]
theorem b_and (x y : Int32) (i : Nat) : bt (x &&& y) i = (bt x i && bt y i) := by unfold bt; rw [Int32.toBitVec_and, BitVec.getLsbD_and]
theorem b_xor (x y : Int32) (i : Nat) : bt (x ^^^ y) i = (bt x i ^^ bt y i) := by unfold bt; rw [Int32.toBitVec_xor, BitVec.getLsbD_xor]
theorem b_big {x : Int32} {i : Nat} (h : 32 ≤ i) : bt x i = false := BitVec.getLsbD_of_ge _ _ h
theorem b_255 (i : Nat) : bt 255 i = decide (i < 8) := by
  rcases Nat.lt_or_ge i 32 with h | h
  · exact (by decide +kernel : ∀ i, i < 32 → bt 255 i = decide (i < 8)) i h
  · rw [b_big h, decide_eq_false (by omega)]
theorem b_65535 (i : Nat) : bt 65535 i = decide (i < 16) := by
  rcases Nat.lt_or_ge i 32 with h | h
  · exact (by decide +kernel : ∀ i, i < 32 → bt 65535 i = decide (i < 16)) i h
  · rw [b_big h, decide_eq_false (by omega)]
theorem b_m1 : ∀ i, i < 32 → bt (-1) i = true := by decide +kernel
theorem b_0 (i : Nat) : bt 0 i = false := BitVec.getLsbD_zero
theorem s_l : ∀ n, n < 32 → ((nI n &&& 31).toBitVec.smod 32).toNat = n := by decide +kernel
theorem s_u : ∀ n, n < 32 → (((nI n).toUInt32 &&& Int32.toUInt32 31).toBitVec % 32).toNat = n := by decide +kernel
theorem b_shl (n : Nat) (hn : n < 32) (x : Int32) {i : Nat} (hi : i < 32) : bt (x <<< (nI n &&& 31)) i = (decide (n ≤ i) && bt x (i - n)) := by
  unfold bt
  rw [Int32.toBitVec_shiftLeft]
  show (x.toBitVec <<< ((nI n &&& 31).toBitVec.smod 32).toNat).getLsbD i = _
  rw [s_l n hn, BitVec.getLsbD_shiftLeft]
  rcases Nat.lt_or_ge i n with h | h
  · simp [h, Nat.not_le.mpr h]
  · simp [hi, h, Nat.not_lt.mpr h]
theorem b_ushr (n : Nat) (hn : n < 32) (x : Int32) (i : Nat) : bt ((x.toUInt32 >>> ((nI n).toUInt32 &&& Int32.toUInt32 31)).toInt32) i = bt x (n + i) := by
  show (x.toUInt32 >>> ((nI n).toUInt32 &&& Int32.toUInt32 31)).toBitVec.getLsbD i = x.toUInt32.toBitVec.getLsbD (n + i)
  rw [UInt32.toBitVec_shiftRight]
  show (x.toUInt32.toBitVec >>> (((nI n).toUInt32 &&& Int32.toUInt32 31).toBitVec % 32).toNat).getLsbD i = _
  rw [s_u n hn, BitVec.getLsbD_ushiftRight]
theorem b_sshr (n : Nat) (hn : n < 32) (x : Int32) {i : Nat} (hi : i < 32) : bt (x >>> (nI n &&& 31)) i = if n + i < 32 then bt x (n + i) else bt x 31 := by
  unfold bt
  rw [Int32.toBitVec_shiftRight]
  show (x.toBitVec.sshiftRight ((nI n &&& 31).toBitVec.smod 32).toNat).getLsbD i = _
  rw [s_l n hn, BitVec.getLsbD_sshiftRight, BitVec.msb_eq_getLsbD_last]
  simp [hi]
theorem nx_and (a b : Nat) : nI a &&& nI b = nI (a &&& b) := by
  apply Int32.toBitVec_inj.1
  show BitVec.ofNat 32 a &&& BitVec.ofNat 32 b = BitVec.ofNat 32 (a &&& b)
  apply BitVec.eq_of_getLsbD_eq
  intro i hi
  simp [hi]
theorem nx_xor (a b : Nat) : nI a ^^^ nI b = nI (a ^^^ b) := by
  apply Int32.toBitVec_inj.1
  show BitVec.ofNat 32 a ^^^ BitVec.ofNat 32 b = BitVec.ofNat 32 (a ^^^ b)
  apply BitVec.eq_of_getLsbD_eq
  intro i hi
  simp [hi]
theorem nx_cnt : ∀ j : Fin 32, (UInt32.ofNat j.val &&& Int32.toUInt32 31).toNat % 32 = j.val := by decide +kernel
theorem nx_ush {k j : Nat} (hk : k < 65536) (hj : j < 32) : ((nI k).toUInt32 >>> ((nI j).toUInt32 &&& Int32.toUInt32 31)).toInt32 = nI (k >>> j) := by
  have hs : k >>> j ≤ k := by
    rw [Nat.shiftRight_eq_div_pow]
    exact Nat.div_le_self _ _
  have e2 : UInt32.ofNat k >>> (UInt32.ofNat j &&& Int32.toUInt32 31) = UInt32.ofNat (k >>> j) := by
    apply UInt32.toNat_inj.1
    have h1 : (UInt32.ofNat k).toNat = k := Nat.mod_eq_of_lt (by omega)
    have h2 : (UInt32.ofNat (k >>> j)).toNat = k >>> j := Nat.mod_eq_of_lt (by omega)
    rw [UInt32.toNat_shiftRight, nx_cnt ⟨j, hj⟩, h1, h2]
  show (UInt32.ofNat k >>> (UInt32.ofNat j &&& Int32.toUInt32 31)).toInt32 = _
  rw [e2]
  rfl
theorem fb_rng (x : Int32) : -2147483648 ≤ x.toInt ∧ x.toInt < 2147483648 := by
  have h1 := Int32.le_toInt x
  have h2 := Int32.toInt_lt x
  omega
theorem fb_bmod {z : Int} (h1 : -2147483648 ≤ z) (h2 : z < 2147483648) : z.bmod (2 ^ 32) = z := by
  rw [Int.bmod_eq_of_le (by omega) (by omega)]
theorem fb_addI {x y : Int32} (h1 : -2147483648 ≤ x.toInt + y.toInt) (h2 : x.toInt + y.toInt < 2147483648) : (x + y).toInt = x.toInt + y.toInt := by
  rw [Int32.toInt_add, fb_bmod h1 h2]
theorem fb_subI {x y : Int32} (h1 : -2147483648 ≤ x.toInt - y.toInt) (h2 : x.toInt - y.toInt < 2147483648) : (x - y).toInt = x.toInt - y.toInt := by
  rw [Int32.toInt_sub, fb_bmod h1 h2]
/-! The class's functions and the model's. -/
theorem bt_1 : ∀ i, i < 32 → bt 1 i = decide (i = 0) := by decide +kernel
theorem hasB_iff0 {x : Int32} {j : Nat} (hj : j < 32) : (x >>> (nI j &&& 31)) &&& 1 = 0 ↔ bt x j = false := by
  constructor
  · intro h
    have h1 : bt ((x >>> (nI j &&& 31)) &&& 1) 0 = bt 0 0 := by rw [h]
    rw [b_and, b_sshr j hj x (by omega), bt_1 0 (by omega), b_0, if_pos (by omega)] at h1
    simpa using h1
  · intro h
    refine b_ext (fun i hi => ?_)
    rw [b_and, b_0, bt_1 i hi, b_sshr j hj x hi]
    by_cases e : i = 0
    · subst e
      rw [if_pos (by omega), Nat.add_zero, h]; rfl
    · simp [e]
theorem hasB_bt {x : Int32} {j : Nat} (hj : j < 32) : hasB x (nI j) ↔ bt x j = true := by
  show ¬ ((x >>> (nI j &&& 31)) &&& 1 = 0) ↔ _
  rw [hasB_iff0 hj]; simp
theorem and1_bt {x : Int32} {j : Nat} (hj : j < 32) : (x >>> (nI j &&& 31)) &&& 1 = 1 ↔ bt x j = true := by
  constructor
  · intro h
    have h1 : bt ((x >>> (nI j &&& 31)) &&& 1) 0 = bt 1 0 := by rw [h]
    rw [b_and, b_sshr j hj x (by omega), bt_1 0 (by omega), if_pos (by omega)] at h1
    simpa using h1
  · intro h
    refine b_ext (fun i hi => ?_)
    rw [b_and, bt_1 i hi, b_sshr j hj x hi]
    by_cases e : i = 0
    · subst e
      rw [if_pos (by omega), Nat.add_zero, h]; rfl
    · simp [e]
theorem hasB_and1 {x : Int32} {j : Nat} (hj : j < 32) : hasB x (nI j) ↔ (x >>> (nI j &&& 31)) &&& 1 = 1 := (hasB_bt hj).trans (and1_bt hj).symm
theorem shl1_bt {k i : Nat} (hk : k < 32) (hi : i < 32) : bt (1 <<< (nI k &&& 31)) i = decide (i = k) := by
  rw [b_shl k hk 1 hi]
  by_cases e : k ≤ i
  · rw [bt_1 (i - k) (by omega)]
    by_cases e2 : i = k
    · subst e2; simp
    · simp [e2]; omega
  · simp [e]; omega
theorem heldP_gd {fs ss fd ed dd : Nat → Int32} {day wo g : Int32} {k : Nat} (h1 : sgP fs k) (h2 : sgP ss k) (hk : k < 32) (hg : ∀ i, i < k → bt g i = gd fs ss fd ed dd day wo i) :
    heldP fs ss k g ↔ (decide (fs k = -1) || gd fs ss fd ed dd day wo (ix (fs k)) || (!decide (ss k = -1) && gd fs ss fd ed dd day wo (ix (ss k)))) = true := by
  have hb : ∀ x : Int32, x = nI (ix x) → ix x < k → (hasB g x ↔ gd fs ss fd ed dd day wo (ix x) = true) := by
    intro x e hx
    have h : hasB g (nI (ix x)) ↔ bt g (ix x) = true := hasB_bt (by omega)
    rw [← e] at h
    rw [h, hg _ hx]
  unfold heldP
  by_cases e1 : fs k = -1
  · simp [e1]
  · obtain ⟨q1, q2⟩ := h1.resolve_left e1
    rw [hb _ q1 q2]
    by_cases e2 : ss k = -1
    · simp [e1, e2]
    · obtain ⟨q3, q4⟩ := h2.resolve_left e2
      rw [hb _ q3 q4]
      simp [e1, e2]
theorem stands_inB {fd ed dd : Nat → Int32} {day : Int32} {k : Nat} : standsP fd ed dd k day ↔ (inB day (fd k) (ed k) && (decide (dd k = -1) || !decide (dd k ≤ day))) = true := by
  simp only [standsP, inB, Bool.and_eq_true, Bool.or_eq_true, Bool.not_eq_true', decide_eq_true_eq, decide_eq_false_iff_not]
  constructor
  · rintro ⟨a, b, c⟩; exact ⟨⟨b, c⟩, a⟩
  · rintro ⟨⟨b, c⟩, a⟩; exact ⟨a, b, c⟩
theorem goodM_bt {fs ss fd ed dd : Nat → Int32} {day wo : Int32} {n : Nat} (hn : n ≤ 8) (h1 : ∀ i, i < n → sgP fs i) (h2 : ∀ i, i < n → sgP ss i) : ∀ k : Nat, k ≤ n → ∀ i, i < 32 → bt (goodM fs ss fd ed dd day wo k) i = (decide (i < k) && gd fs ss fd ed dd day wo i) := by
  intro k
  induction k with
  | zero => intro _ i _; rw [goodM, b_0]; simp
  | succ k ih =>
    intro hk i hi
    have ihk := ih (by omega)
    have hC : (¬ nI k = wo ∧ standsP fd ed dd k day ∧ heldP fs ss k (goodM fs ss fd ed dd day wo k)) ↔ gd fs ss fd ed dd day wo k = true := by
      rw [gd_eq (h1 k (by omega)) (h2 k (by omega)), stands_inB, heldP_gd (fd := fd) (ed := ed) (dd := dd) (day := day) (wo := wo) (h1 k (by omega)) (h2 k (by omega)) (by omega) (fun i hi => by rw [ihk i (by omega)]; simp [hi])]
      simp only [Bool.and_eq_true, Bool.not_eq_true', decide_eq_false_iff_not]
      constructor
      · rintro ⟨a, b, c⟩; exact ⟨⟨a, b⟩, c⟩
      · rintro ⟨⟨a, b⟩, c⟩; exact ⟨a, b, c⟩
    rw [goodM]
    by_cases hg : gd fs ss fd ed dd day wo k = true
    · rw [if_pos (hC.mpr hg), b_or, ihk i hi, shl1_bt (by omega) hi]
      by_cases e : i = k
      · subst e; simp [hg]
      · have : (decide (i < k + 1)) = decide (i < k) := by simp; omega
        rw [this]; simp [e]
    · rw [if_neg (fun h => hg (hC.mp h)), ihk i hi]
      by_cases e : i = k
      · subst e; simp [hg]
      · have : (decide (i < k + 1)) = decide (i < k) := by simp; omega
        rw [this]
theorem goodM_gd {fs ss fd ed dd : Nat → Int32} {day wo : Int32} {n j : Nat} (hn : n ≤ 8) (h1 : ∀ i, i < n → sgP fs i) (h2 : ∀ i, i < n → sgP ss i) (hj : j < n) : hasB (goodM fs ss fd ed dd day wo n) (nI j) ↔ gd fs ss fd ed dd day wo j = true := by
  rw [hasB_bt (by omega), goodM_bt hn h1 h2 n (Nat.le_refl n) j (by omega)]
  simp [hj]
/-- a subject in its range -/
def subOK (sb : Nat → Int32) (kc : Nat) : Prop := ∀ i, i < kc → sb i = nI (ix (sb i)) ∧ ix (sb i) < 20
theorem orN_or (s g : Int32) : ∀ m : Nat, orN s g m = g ||| orN s 0 m := by
  intro m
  induction m with
  | zero => exact (Int32.or_zero).symm
  | succ m ih => rw [orN, orN, ih, Int32.or_assoc]
theorem orN_20 : ∀ x, x < 20 → orN (nI x) 0 16 = nmOf (nI x) := by decide +kernel
theorem orN_nm {s : Int32} (g : Int32) (h1 : s = nI (ix s)) (h2 : ix s < 20) : orN s g 16 = g ||| nmOf s := by
  rw [orN_or, h1, orN_20 _ h2]
theorem nh_nm {fs ss fd ed dd : Nat → Int32} {n : Nat} {iss sb fst len : Nat → Int32} {kc : Nat} {day wo : Int32} (hn : n ≤ 8) (h1 : ∀ i, i < n → sgP fs i) (h2 : ∀ i, i < n → sgP ss i) (hc : certOK n iss len kc) (hs : subOK sb kc) :
    ∀ k, k ≤ kc → nhN iss sb fst len day (goodM fs ss fd ed dd day wo n) k = nmN fs ss fd ed dd iss sb fst len day wo k := by
  intro k
  induction k with
  | zero => intro _; rfl
  | succ k ih =>
    intro hk
    obtain ⟨c1, c2, -⟩ := hc k (by omega)
    obtain ⟨s1, s2⟩ := hs k (by omega)
    have hg : hasB (goodM fs ss fd ed dd day wo n) (iss k) ↔ gd fs ss fd ed dd day wo (ix (iss k)) = true := by
      have := goodM_gd (fd := fd) (ed := ed) (dd := dd) (day := day) (wo := wo) hn h1 h2 c2
      rw [← c1] at this
      exact this
    have hC : (¬ day < fst k ∧ ¬ ctEnd fst len k < day ∧ hasB (goodM fs ss fd ed dd day wo n) (iss k)) ↔ (inB day (fst k) (ctEnd fst len k) = true ∧ gd fs ss fd ed dd day wo (ix (iss k)) = true) := by
      rw [hg]
      simp only [inB, Bool.and_eq_true, Bool.not_eq_true', decide_eq_false_iff_not]
      constructor
      · rintro ⟨a, b, c⟩; exact ⟨⟨a, b⟩, c⟩
      · rintro ⟨⟨a, b⟩, c⟩; exact ⟨a, b, c⟩
    rw [nhN, nmN, ih (by omega)]
    by_cases h : inB day (fst k) (ctEnd fst len k) = true ∧ gd fs ss fd ed dd day wo (ix (iss k)) = true
    · rw [if_pos (hC.mpr h), if_pos h, orN_nm _ s1 s2]
    · rw [if_neg (fun q => h (hC.mp q)), if_neg h]
theorem iwN_le (iss fst : Nat → Int32) (iu wk : Int32) : ∀ k, k < 2147483648 → ∃ c, c ≤ k ∧ iwN iss fst iu wk k = nI c := by
  intro k
  induction k with
  | zero => intro _; exact ⟨0, Nat.le_refl 0, rfl⟩
  | succ k ih =>
    intro hk
    obtain ⟨c, h1, h2⟩ := ih (by omega)
    rw [iwN]
    split
    · exact ⟨c + 1, by omega, by rw [h2, nI_1]⟩
    · exact ⟨c, by omega, h2⟩
/-- an issuer's limit in its range -/
def lmOK (lm : Nat → Int32) (n : Nat) : Prop := ∀ i, i < n → ∃ v, v ≤ 50 ∧ lm i = nI v
theorem room_iff {iss fst : Nat → Int32} {iu wk x : Int32} {kc v : Nat} (hk : kc ≤ 60) (hv : v ≤ 50) (hx : x = nI v) : x - iwN iss fst iu wk kc ≤ 0 ↔ x ≤ iwN iss fst iu wk kc := by
  obtain ⟨c, h1, h2⟩ := iwN_le iss fst iu wk kc (by omega)
  rw [h2, hx, i32_le, i32_le]
  have e1 : (nI v : Int32).toInt = v := nI_toInt (by omega)
  have e2 : (nI c : Int32).toInt = c := nI_toInt (by omega)
  rw [fb_subI (by omega) (by omega), e1, e2]
  have e3 : (0 : Int32).toInt = 0 := by decide
  rw [e3]; omega
theorem nm_cv : ∀ x, x < 20 → ∀ k, k < 16 → (decide (hasB (nmOf (nI x)) (nI k)) = decide (cvP (nI x) k)) := by decide +kernel
theorem may_pin {pins : Nat → Int32} {su : Int32} {j : Nat} (hj : j < 32) (h1 : su = nI (ix su)) (h2 : ix su < 20) : mayP pins (nmOf su) (nI j) 16 ↔ ∀ k, k < 16 → pinOK pins j su k := by
  have key : ∀ k, k < 16 → (¬ pinBad pins (nmOf su) (nI j) k ↔ pinOK pins j su k) := by
    intro k hk
    have h3 : hasB (nmOf su) (nI k) ↔ cvP su k := by
      have := nm_cv (ix su) h2 k hk
      rw [← h1] at this
      exact decide_eq_decide.mp this
    have h4 : hasB (pins k) (nI j) ↔ (pins k >>> (nI j &&& 31)) &&& 1 = 1 := hasB_and1 hj
    unfold pinBad pinOK
    rw [h3, h4]
    by_cases a : cvP su k <;> by_cases b : pins k = 0 <;> by_cases c : (pins k >>> (nI j &&& 31)) &&& 1 = 1 <;> simp [a, b, c]
  constructor
  · intro h k hk; exact (key k hk).mp (h k hk)
  · intro h k hk; exact (key k hk).mpr (h k hk)
theorem can_can {fs ss fd ed lm dd : Nat → Int32} {n : Nat} {iss fst : Nat → Int32} {kc : Nat} {pins : Nat → Int32} {dy : Int32} {j : Nat} {su : Int32} (hn : n ≤ 8) (h1 : ∀ i, i < n → sgP fs i) (h2 : ∀ i, i < n → sgP ss i) (hl : lmOK lm n) (hk : kc ≤ 60) (hj : j < n) (hs1 : su = nI (ix su)) (hs2 : ix su < 20) :
    canC fs ss fd ed lm dd n iss fst kc pins dy j su ↔ canM fs ss fd ed lm dd iss fst kc pins dy j su 16 := by
  obtain ⟨v, hv, hx⟩ := hl j hj
  unfold canC canM
  rw [room_iff hk hv hx, may_pin (by omega) hs1 hs2, goodM_gd hn h1 h2 hj]
  constructor
  · rintro ⟨a, b, c, d⟩; exact ⟨⟨d, b, a⟩, c⟩
  · rintro ⟨⟨d, b, a⟩, c⟩; exact ⟨a, b, c, d⟩
theorem due_due (fst len off : Nat → Int32) (j : Nat) : dueM fst len off j = ctDue fst len off j := by
  show fst j + 2 * len j / 3 + off j = fst j + len j * 2 / 3 + off j
  rw [Int32.mul_comm]
theorem wt_wt (fst len off ren : Nat → Int32) (dy : Int32) (j : Nat) : wtM fst len off ren dy j ↔ waitP fst len off ren dy j := by
  unfold wtM waitP
  rw [due_due]
theorem fqS_wc (fst len off ren : Nat → Int32) (dy : Int32) (que : Nat → Int32) : ∀ k, nI (fqS fst len off ren dy que k) = wcN fst len off ren dy k := by
  intro k
  induction k with
  | zero => rfl
  | succ k ih =>
    show nI (fqSQ fst len off ren dy que (k + 1)).1 = _
    rw [fqSQ, wcN, ← ih]
    by_cases h : waitP fst len off ren dy k
    · rw [if_pos h, if_pos ((wt_wt fst len off ren dy k).mpr h)]; exact (nI_1 _).symm
    · rw [if_neg h, if_neg (fun q => h ((wt_wt fst len off ren dy k).mp q))]; exact (Int32.add_zero _).symm
