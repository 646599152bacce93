/-! The model's methods as functions of numbers. -/
def inB (v lo hi : Int32) : Bool := !decide (v < lo) && !decide (hi < v)
theorem i32_lt {x y : Int32} : x < y ↔ x.toInt < y.toInt := Int32.lt_iff_toInt_lt
theorem i32_le {x y : Int32} : x ≤ y ↔ x.toInt ≤ y.toInt := Int32.le_iff_toInt_le
theorem i32_nlt {x y : Int32} : ¬ x < y ↔ y ≤ x := by rw [i32_lt, i32_le]; omega
theorem inB_n {i : Int32} {n : Nat} (hn : n < 2147483648) : inB i 0 (nI n - 1) = true ↔ badI n i = false := by
  have h1 : (nI n - 1 : Int32).toInt = (n : Int) - 1 := by
    cases n with
    | zero => rfl
    | succ m => rw [nI_pred, nI_toInt (by omega)]; omega
  simp only [inB, badI, Bool.and_eq_true, Bool.not_eq_true', decide_eq_false_iff_not, Bool.or_eq_false_iff, Bool.not_eq_false', decide_eq_true_eq, i32_lt, h1, nI_toInt (show n < 2 ^ 31 by omega)]
  constructor
  · rintro ⟨a, b⟩; exact ⟨a, by omega⟩
  · rintro ⟨a, b⟩; exact ⟨a, by omega⟩
theorem inB_name {x : Int32} : inB x 0 15 = true ↔ badN x = false := by
  have h1 : (15 : Int32).toInt = 15 := by decide
  have h2 : (16 : Int32).toInt = 16 := by decide
  simp only [inB, badN, Bool.and_eq_true, Bool.not_eq_true', decide_eq_false_iff_not, Bool.or_eq_false_iff, Bool.not_eq_false', decide_eq_true_eq, i32_lt, h1, h2]
  constructor
  · rintro ⟨a, b⟩; exact ⟨a, by omega⟩
  · rintro ⟨a, b⟩; exact ⟨a, by omega⟩
theorem inB_day {x : Int32} : inB x 0 5000 = true ↔ badD x = false := by
  simp only [inB, badD, Bool.and_eq_true, Bool.not_eq_true', decide_eq_false_iff_not, Bool.or_eq_false_iff, Bool.not_eq_false', decide_eq_true_eq, i32_nlt]
/-- good on a day, of the first k issuers -/
def gdT (fs ss fd ed dd : Nat → Int32) (day wo : Int32) : Nat → Nat → Bool
  | 0, _ => false
  | k + 1, i => if i = k then (!decide (nI k = wo) && (inB day (fd k) (ed k) && (decide (dd k = -1) || !decide (dd k ≤ day))) && (decide (fs k = -1) || gdT fs ss fd ed dd day wo k (ix (fs k)) || (!decide (ss k = -1) && gdT fs ss fd ed dd day wo k (ix (ss k))))) else gdT fs ss fd ed dd day wo k i
def gd (fs ss fd ed dd : Nat → Int32) (day wo : Int32) (i : Nat) : Bool := gdT fs ss fd ed dd day wo (i + 1) i
theorem gdT_gd (fs ss fd ed dd : Nat → Int32) (day wo : Int32) : ∀ (k i : Nat), i < k → gdT fs ss fd ed dd day wo k i = gd fs ss fd ed dd day wo i := by
  intro k
  induction k with
  | zero => intro i h; exact absurd h (Nat.not_lt_zero _)
  | succ k ih =>
    intro i h
    by_cases e : i = k
    · subst e; rfl
    · rw [gdT, if_neg e]; exact ih i (by omega)
theorem gd_eq {fs ss fd ed dd : Nat → Int32} {day wo : Int32} {k : Nat} (h1 : sgP fs k) (h2 : sgP ss k) :
    gd fs ss fd ed dd day wo k = (!decide (nI k = wo) && (inB day (fd k) (ed k) && (decide (dd k = -1) || !decide (dd k ≤ day))) && (decide (fs k = -1) || gd fs ss fd ed dd day wo (ix (fs k)) || (!decide (ss k = -1) && gd fs ss fd ed dd day wo (ix (ss k))))) := by
  rw [gd, gdT, if_pos rfl]
  by_cases e1 : fs k = -1
  · simp [e1]
  · rw [gdT_gd _ _ _ _ _ _ _ k (ix (fs k)) (h1.resolve_left e1).2]
    by_cases e2 : ss k = -1
    · simp [e2]
    · rw [gdT_gd _ _ _ _ _ _ _ k (ix (ss k)) (h2.resolve_left e2).2]
theorem tb_succ {g v : Nat → Int32} {k : Nat} {x : Int32} (h : ∀ i, i < k → g i = v i) (hx : x = v k) : ∀ i, i < k + 1 → upd g k x i = v i := by
  intro i hi
  by_cases e : i = k
  · subst e; rw [upd_eq]; exact hx
  · rw [upd_ne _ _ e]; exact h i (by omega)
/-- until when the longest-lived chain lasts -/
def edT (fs ss ed : Nat → Int32) : Nat → Nat → Int32
  | 0, _ => 0
  | k + 1, i => if i = k then
      (let m : Int32 := if fs k = -1 then 5000 else if ¬ ss k = -1 ∧ ¬ edT fs ss ed k (ix (ss k)) ≤ edT fs ss ed k (ix (fs k)) then edT fs ss ed k (ix (ss k)) else edT fs ss ed k (ix (fs k))
       if ed k ≤ m then ed k else m) else edT fs ss ed k i
def edV (fs ss ed : Nat → Int32) (i : Nat) : Int32 := edT fs ss ed (i + 1) i
theorem edT_V (fs ss ed : Nat → Int32) : ∀ (k i : Nat), i < k → edT fs ss ed k i = edV fs ss ed i := by
  intro k
  induction k with
  | zero => intro i h; exact absurd h (Nat.not_lt_zero _)
  | succ k ih =>
    intro i h
    by_cases e : i = k
    · subst e; rfl
    · rw [edT, if_neg e]; exact ih i (by omega)
def edM (fs ss ed : Nat → Int32) (k : Nat) : Int32 := if fs k = -1 then 5000 else if ¬ ss k = -1 ∧ ¬ edV fs ss ed (ix (ss k)) ≤ edV fs ss ed (ix (fs k)) then edV fs ss ed (ix (ss k)) else edV fs ss ed (ix (fs k))
theorem edV_eq {fs ss ed : Nat → Int32} {k : Nat} (h1 : sgP fs k) (h2 : sgP ss k) : edV fs ss ed k = if ed k ≤ edM fs ss ed k then ed k else edM fs ss ed k := by
  rw [edV, edT, if_pos rfl]
  unfold edM
  by_cases e1 : fs k = -1
  · simp [e1]
  · rw [edT_V _ _ _ k (ix (fs k)) (h1.resolve_left e1).2]
    by_cases e2 : ss k = -1
    · simp [e2]
    · rw [edT_V _ _ _ k (ix (ss k)) (h2.resolve_left e2).2]
/-- how many chains -/
def cnT (fs ss : Nat → Int32) : Nat → Nat → Int32
  | 0, _ => 0
  | k + 1, i => if i = k then (if fs k = -1 then 1 else cnT fs ss k (ix (fs k)) + (if ss k = -1 then 0 else cnT fs ss k (ix (ss k)))) else cnT fs ss k i
def cnV (fs ss : Nat → Int32) (i : Nat) : Int32 := cnT fs ss (i + 1) i
theorem cnT_V (fs ss : Nat → Int32) : ∀ (k i : Nat), i < k → cnT fs ss k i = cnV fs ss i := by
  intro k
  induction k with
  | zero => intro i h; exact absurd h (Nat.not_lt_zero _)
  | succ k ih =>
    intro i h
    by_cases e : i = k
    · subst e; rfl
    · rw [cnT, if_neg e]; exact ih i (by omega)
theorem cnV_eq {fs ss : Nat → Int32} {k : Nat} (h1 : sgP fs k) (h2 : sgP ss k) : cnV fs ss k = if fs k = -1 then 1 else cnV fs ss (ix (fs k)) + (if ss k = -1 then 0 else cnV fs ss (ix (ss k))) := by
  rw [cnV, cnT, if_pos rfl]
  by_cases e1 : fs k = -1
  · simp [e1]
  · rw [cnT_V _ _ k (ix (fs k)) (h1.resolve_left e1).2]
    by_cases e2 : ss k = -1
    · simp [e2]
    · rw [cnT_V _ _ k (ix (ss k)) (h2.resolve_left e2).2]
abbrev cvP (s : Int32) (k : Nat) : Prop := s = nI k ∨ s = 16 + nI k / 4
abbrev pinOK (pin : Nat → Int32) (j : Nat) (su : Int32) (k : Nat) : Prop := ¬ cvP su k ∨ pin k = 0 ∨ (pin k >>> (nI j &&& 31)) &&& 1 = 1
/-- the model's 'can issue', its pins up to K -/
abbrev canM (fs ss fd ed lm dd isu fir : Nat → Int32) (mc : Nat) (pin : Nat → Int32) (td : Int32) (j : Nat) (su : Int32) (K : Nat) : Prop :=
  (gd fs ss fd ed dd td (-1) j = true ∧ ¬ lm j ≤ iwN isu fir (nI j) (td / 7) mc ∧ ¬ 60 ≤ mc) ∧ ∀ k, k < K → pinOK pin j su k
theorem canM_0 {fs ss fd ed lm dd isu fir : Nat → Int32} {mc : Nat} {pin : Nat → Int32} {td : Int32} {j : Nat} {su : Int32} : canM fs ss fd ed lm dd isu fir mc pin td j su 0 ↔ (gd fs ss fd ed dd td (-1) j = true ∧ ¬ lm j ≤ iwN isu fir (nI j) (td / 7) mc ∧ ¬ 60 ≤ mc) :=
  ⟨fun h => h.1, fun h => ⟨h, fun k hk => absurd hk (Nat.not_lt_zero _)⟩⟩
theorem canM_s {fs ss fd ed lm dd isu fir : Nat → Int32} {mc : Nat} {pin : Nat → Int32} {td : Int32} {j : Nat} {su : Int32} {k : Nat} : canM fs ss fd ed lm dd isu fir mc pin td j su (k + 1) ↔ canM fs ss fd ed lm dd isu fir mc pin td j su k ∧ pinOK pin j su k := by
  constructor
  · intro h
    exact ⟨⟨h.1, fun i hi => h.2 i (by omega)⟩, h.2 k (by omega)⟩
  · intro h
    refine ⟨h.1.1, fun i hi => ?_⟩
    by_cases e : i = k
    · subst e; exact h.2
    · exact h.1.2 i (by omega)
abbrev dueM (fir lgt ofs : Nat → Int32) (j : Nat) : Int32 := fir j + 2 * lgt j / 3 + ofs j
abbrev wtM (fir lgt ofs rn : Nat → Int32) (td : Int32) (j : Nat) : Prop := ¬ td < dueM fir lgt ofs j ∧ rn j = -1 ∧ ¬ ctEnd fir lgt j < td
/-- the first that waits and was not seen, of the first k -/
def nwN (fir lgt ofs rn : Nat → Int32) (td : Int32) (w : Nat → Int32) : Nat → Int32
  | 0 => -1
  | k + 1 => if wtM fir lgt ofs rn td k ∧ w k = 0 ∧ (nwN fir lgt ofs rn td w k = -1 ∨ ¬ ctEnd fir lgt (ix (nwN fir lgt ofs rn td w k)) ≤ ctEnd fir lgt k) then nI k else nwN fir lgt ofs rn td w k
theorem nwN_ok (fir lgt ofs rn : Nat → Int32) (td : Int32) (w : Nat → Int32) : ∀ k : Nat, k < 2147483648 → sgP (fun _ => nwN fir lgt ofs rn td w k) k := by
  intro k
  induction k with
  | zero => intro _; exact Or.inl rfl
  | succ k ih =>
    intro hk
    show nwN fir lgt ofs rn td w (k + 1) = -1 ∨ _
    by_cases hc : wtM fir lgt ofs rn td k ∧ w k = 0 ∧ (nwN fir lgt ofs rn td w k = -1 ∨ ¬ ctEnd fir lgt (ix (nwN fir lgt ofs rn td w k)) ≤ ctEnd fir lgt k)
    · have e : nwN fir lgt ofs rn td w (k + 1) = nI k := by rw [nwN]; exact if_pos hc
      refine Or.inr ?_
      show nwN fir lgt ofs rn td w (k + 1) = nI (ix (nwN fir lgt ofs rn td w (k + 1))) ∧ ix (nwN fir lgt ofs rn td w (k + 1)) < k + 1
      rw [e, ix_nI (by omega)]
      exact ⟨rfl, by omega⟩
    · have e : nwN fir lgt ofs rn td w (k + 1) = nwN fir lgt ofs rn td w k := by rw [nwN]; exact if_neg hc
      rcases ih (by omega) with h | h
      · exact Or.inl (e.trans h)
      · refine Or.inr ?_
        show nwN fir lgt ofs rn td w (k + 1) = nI (ix (nwN fir lgt ofs rn td w (k + 1))) ∧ ix (nwN fir lgt ofs rn td w (k + 1)) < k + 1
        rw [e]
        exact ⟨h.1, Nat.lt_succ_of_lt h.2⟩
/-- the first k are set to b -/
def seeN (w : Nat → Int32) (b : Int32) : Nat → (Nat → Int32)
  | 0 => w
  | k + 1 => upd (seeN w b k) k b
/-- the names of a subject, one by one -/
def orN (s g : Int32) : Nat → Int32
  | 0 => g
  | m + 1 => orN s g m ||| (if cvP s m then 1 <<< (nI m &&& 31) else 0)
/-- the names covered on a day by the first k certificates, with one issuer left out -/
def nmN (fs ss fd ed dd : Nat → Int32) (isu su fir lgt : Nat → Int32) (day wo : Int32) : Nat → Int32
  | 0 => 0
  | k + 1 => if inB day (fir k) (ctEnd fir lgt k) = true ∧ gd fs ss fd ed dd day wo (ix (isu k)) = true then orN (su k) (nmN fs ss fd ed dd isu su fir lgt day wo k) 16 else nmN fs ss fd ed dd isu su fir lgt day wo k
def cdAddM (n : Nat) (sg fr to li : Int32) : Int32 := if (!decide (sg = -1) && badI n sg) = true then 1 else if (inB fr 0 5000 && inB to fr 5000 && inB li 0 50) = false then 2 else if nI n = 8 then 3 else 0
def cdCrossM (n : Nat) (fs ss : Nat → Int32) (i s : Int32) : Int32 := if (badI n i || badI n s) = true then 1 else if (!decide (s < i)) = true then 2 else if fs (ix i) = -1 ∨ ¬ ss (ix i) = -1 ∨ fs (ix i) = s then 3 else 0
def cdPinM (x v : Int32) : Int32 := if badN x = true then 1 else if inB v 0 255 = false then 2 else 0
def cdIssM (can : Bool) (n : Nat) (i su ln : Int32) : Int32 := if badI n i = true then 1 else if (inB su 0 19 && inB ln 1 400) = false then 2 else if can = true then 0 else 3
def cdPassM (dy d : Int32) : Int32 := if inB d 1 100 = false then 1 else if (!decide (dy + d ≤ 3000)) = true then 2 else 0
