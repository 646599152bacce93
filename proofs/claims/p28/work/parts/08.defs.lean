/-! The class's methods as functions of numbers. -/
abbrev hasB (set el : Int32) : Prop := ¬ (set >>> (el &&& 31)) &&& 1 = 0
def nmOf (s : Int32) : Int32 := if (16 : Int32) ≤ s then 15 <<< (((s - 16) * 4) &&& 31) else 1 <<< (s &&& 31)
abbrev standsP (fd ed dd : Nat → Int32) (j : Nat) (day : Int32) : Prop := (dd j = -1 ∨ ¬ dd j ≤ day) ∧ ¬ day < fd j ∧ ¬ ed j < day
abbrev heldP (fs ss : Nat → Int32) (j : Nat) (good : Int32) : Prop := fs j = -1 ∨ hasB good (fs j) ∨ (¬ ss j = -1 ∧ hasB good (ss j))
/-- the set of the good ones of the first k issuers -/
def goodM (fs ss fd ed dd : Nat → Int32) (day wo : Int32) : Nat → Int32
  | 0 => 0
  | k + 1 => if ¬ nI k = wo ∧ standsP fd ed dd k day ∧ heldP fs ss k (goodM fs ss fd ed dd day wo k) then goodM fs ss fd ed dd day wo k ||| (1 <<< (nI k &&& 31)) else goodM fs ss fd ed dd day wo k
abbrev ix (x : Int32) : Nat := x.toNatClampNeg
/-- a signer: none, or a number below -/
def sgP (f : Nat → Int32) (i : Nat) : Prop := f i = -1 ∨ (f i = nI (ix (f i)) ∧ ix (f i) < i)
theorem upd_eq (f : Nat → Int32) (k : Nat) (x : Int32) : upd f k x k = x := pk_us
theorem upd_ne (f : Nat → Int32) {k j : Nat} (x : Int32) (h : j ≠ k) : upd f k x j = f j := pk_un h
theorem sgP_upd {f : Nat → Int32} {n : Nat} {x : Int32} (h : ∀ i, i < n → sgP f i) (hx : x = -1 ∨ (x = nI (ix x) ∧ ix x < n)) : ∀ i, i < n + 1 → sgP (upd f n x) i := by
  intro i hi
  unfold sgP
  by_cases e : i = n
  · subst e; rw [upd_eq]; exact hx
  · rw [upd_ne _ _ e]; exact h i (by omega)
theorem ix_nI {g : Nat} (h : g < 2147483648) : ix (nI g) = g := nI_clamp (by omega)
theorem sgP_put {f : Nat → Int32} {n j g : Nat} (h : ∀ i, i < n → sgP f i) (hg : g < j) (hj : j < 2147483648) : ∀ i, i < n → sgP (upd f j (nI g)) i := by
  intro i hi
  unfold sgP
  by_cases e : i = j
  · subst e; rw [upd_eq, ix_nI (by omega)]; exact Or.inr ⟨rfl, hg⟩
  · rw [upd_ne _ _ e]; exact h i hi
def ucEnd (fs ss ed ce : Nat → Int32) (k : Nat) : Int32 :=
  let e0 : Int32 := if fs k = -1 then 5000 else ce (ix (fs k))
  let e1 : Int32 := if ss k = -1 then e0 else (if e0 < ce (ix (ss k)) then ce (ix (ss k)) else e0)
  if ed k < e1 then ed k else e1
def ucCnt (fs ss cw : Nat → Int32) (k : Nat) : Int32 :=
  let c0 : Int32 := if fs k = -1 then 1 else cw (ix (fs k))
  if ss k = -1 then c0 else c0 + cw (ix (ss k))
def ucE (fs ss ed : Nat → Int32) (j : Nat) (ce : Nat → Int32) : Nat → (Nat → Int32)
  | 0 => ce
  | t + 1 => upd (ucE fs ss ed j ce t) (j + t) (ucEnd fs ss ed (ucE fs ss ed j ce t) (j + t))
def ucC (fs ss : Nat → Int32) (j : Nat) (cw : Nat → Int32) : Nat → (Nat → Int32)
  | 0 => cw
  | t + 1 => upd (ucC fs ss j cw t) (j + t) (ucCnt fs ss (ucC fs ss j cw t) (j + t))
abbrev ctEnd (fst len : Nat → Int32) (j : Nat) : Int32 := fst j + len j - 1
abbrev ctDue (fst len off : Nat → Int32) (j : Nat) : Int32 := fst j + len j * 2 / 3 + off j
abbrev waitP (fst len off ren : Nat → Int32) (day : Int32) (j : Nat) : Prop := ¬ day < ctDue fst len off j ∧ ren j = -1 ∧ ¬ ctEnd fst len j < day
def iwN (iss fst : Nat → Int32) (iu wk : Int32) : Nat → Int32
  | 0 => 0
  | k + 1 => if iss k = iu ∧ fst k / 7 = wk then iwN iss fst iu wk k + 1 else iwN iss fst iu wk k
/-- number x goes into the queue below place p, behind all that end no later -/
def insQ (fst len : Nat → Int32) (x : Nat) : (Nat → Int32) → Nat → (Nat → Int32)
  | q, 0 => upd q 0 (nI x)
  | q, p + 1 => if ctEnd fst len (ix (q p)) ≤ ctEnd fst len x then upd q (p + 1) (nI x) else insQ fst len x (upd q (p + 1) (q p)) p
def fqSQ (fst len off ren : Nat → Int32) (day : Int32) (que : Nat → Int32) : Nat → Nat × (Nat → Int32)
  | 0 => (0, que)
  | k + 1 => if waitP fst len off ren day k then ((fqSQ fst len off ren day que k).1 + 1, insQ fst len k (fqSQ fst len off ren day que k).2 (fqSQ fst len off ren day que k).1) else fqSQ fst len off ren day que k
abbrev fqS (fst len off ren : Nat → Int32) (day : Int32) (que : Nat → Int32) (k : Nat) : Nat := (fqSQ fst len off ren day que k).1
abbrev fqQ (fst len off ren : Nat → Int32) (day : Int32) (que : Nat → Int32) (k : Nat) : Nat → Int32 := (fqSQ fst len off ren day que k).2
theorem insQ_ok (fst len : Nat → Int32) (x B : Nat) (hx : x < B) (hB : B < 2147483648) : ∀ (p : Nat) (q : Nat → Int32), (∀ i, i < p → q i = nI (ix (q i)) ∧ ix (q i) < B) → ∀ n, p ≤ n → (∀ i, p < i → i < n + 1 → q i = nI (ix (q i)) ∧ ix (q i) < B) → ∀ i, i < n + 1 → insQ fst len x q p i = nI (ix (insQ fst len x q p i)) ∧ ix (insQ fst len x q p i) < B := by
  intro p
  induction p with
  | zero =>
    intro q h n hn h2 i hi
    unfold insQ
    by_cases e : i = 0
    · subst e; rw [upd_eq, ix_nI (by omega)]; exact ⟨rfl, hx⟩
    · rw [upd_ne _ _ e]; exact h2 i (by omega) hi
  | succ p ih =>
    intro q h n hn h2 i hi
    unfold insQ
    split
    · by_cases e : i = p + 1
      · subst e; rw [upd_eq, ix_nI (by omega)]; exact ⟨rfl, hx⟩
      · rw [upd_ne _ _ e]
        by_cases e2 : i < p + 1
        · exact h i e2
        · exact h2 i (by omega) hi
    · refine ih (upd q (p + 1) (q p)) (fun i hi => ?_) n (by omega) (fun i h3 h4 => ?_) i hi
      · rw [upd_ne _ _ (by omega : i ≠ p + 1)]; exact h i (by omega)
      · by_cases e : i = p + 1
        · subst e; rw [upd_eq]; exact h p (by omega)
        · rw [upd_ne _ _ e]; exact h2 i (by omega) h4
theorem fq_ok (fst len off ren : Nat → Int32) (day : Int32) (que : Nat → Int32) : ∀ k : Nat, k < 2147483648 → fqS fst len off ren day que k ≤ k ∧ ∀ i, i < fqS fst len off ren day que k → fqQ fst len off ren day que k i = nI (ix (fqQ fst len off ren day que k i)) ∧ ix (fqQ fst len off ren day que k i) < k := by
  intro k
  induction k with
  | zero => intro _; exact ⟨Nat.le_refl _, fun i h => absurd h (Nat.not_lt_zero _)⟩
  | succ k ih =>
    intro hk
    obtain ⟨h1, h2⟩ := ih (by omega)
    unfold fqS fqQ fqSQ
    split
    · refine ⟨by show _ + 1 ≤ _; exact Nat.succ_le_succ h1, fun i hi => ?_⟩
      exact insQ_ok fst len k (k + 1) (by omega) (by omega) _ _ (fun i hi => ⟨(h2 i hi).1, Nat.lt_succ_of_lt (h2 i hi).2⟩) _ (Nat.le_refl _) (fun i h3 h4 => absurd h3 (by omega)) i hi
    · exact ⟨Nat.le_succ_of_le h1, fun i hi => ⟨(h2 i hi).1, Nat.lt_succ_of_lt (h2 i hi).2⟩⟩
theorem k_dec (k : Nat) : nI (k + 1) + Int32.ofInt (-1) = nI k := by
  rw [show Int32.ofInt (-1) = -1 by decide]
  exact pk_m1 k
def nhN (iss sb fst len : Nat → Int32) (day good : Int32) : Nat → Int32
  | 0 => 0
  | k + 1 => if ¬ day < fst k ∧ ¬ ctEnd fst len k < day ∧ hasB good (iss k) then nhN iss sb fst len day good k ||| nmOf (sb k) else nhN iss sb fst len day good k
abbrev wT (cy : ClassId × ClassId × ClassId) (a0 a1 a2 a3 a4 a5 a6 a7 a8 : Nat) (fs ss fd ed lm dd ce cw : Nat → Int32) (n : Nat) : va_W := [(a0, .inr (1, [.ref a1, .ref a2, .ref a3, .ref a4, .ref a5, .ref a6, .ref a7, .ref a8, .int (nI n)])), (a1, .inl (cy.1, 8, .inl fs)), (a2, .inl (cy.1, 8, .inl ss)), (a3, .inl (cy.1, 8, .inl fd)), (a4, .inl (cy.1, 8, .inl ed)), (a5, .inl (cy.1, 8, .inl lm)), (a6, .inl (cy.1, 8, .inl dd)), (a7, .inl (cy.1, 8, .inl ce)), (a8, .inl (cy.1, 8, .inl cw))]
abbrev wC (cy : ClassId × ClassId × ClassId) (b0 b1 b2 b3 b4 b5 b6 b7 : Nat) (iss sb fst len off ren que : Nat → Int32) (kc : Nat) : va_W := [(b0, .inr (0, [.ref b1, .ref b2, .ref b3, .ref b4, .ref b5, .ref b6, .ref b7, .int (nI kc)])), (b1, .inl (cy.1, 60, .inl iss)), (b2, .inl (cy.1, 60, .inl sb)), (b3, .inl (cy.1, 60, .inl fst)), (b4, .inl (cy.1, 60, .inl len)), (b5, .inl (cy.1, 60, .inl off)), (b6, .inl (cy.1, 60, .inl ren)), (b7, .inl (cy.1, 60, .inl que))]
abbrev wH (cy : ClassId × ClassId × ClassId) (h pn a0 a1 a2 a3 a4 a5 a6 a7 a8 b0 b1 b2 b3 b4 b5 b6 b7 : Nat) (fs ss fd ed lm dd ce cw : Nat → Int32) (n : Nat) (iss sb fst len off ren que : Nat → Int32) (kc : Nat) (pins : Nat → Int32) (sd dy : Int32) : va_W := (h, .inr (2, [.ref a0, .ref b0, .ref pn, .int sd, .int dy])) :: (wT cy a0 a1 a2 a3 a4 a5 a6 a7 a8 fs ss fd ed lm dd ce cw n ++ (wC cy b0 b1 b2 b3 b4 b5 b6 b7 iss sb fst len off ren que kc ++ [(pn, .inl (cy.1, 16, .inl pins))]))
theorem k_le0t {a : Nat} (ha : a < 2147483648) (h : nI a ≤ 0) : a = 0 := by
  have := k_leN (a := a) (b := 0) ha (by omega) h
  omega
theorem k_le0f {a : Nat} (ha : a < 2147483648) (h : ¬ nI a ≤ 0) : 0 < a := by
  have := k_nleN (a := a) (b := 0) ha (by omega) h
  omega
theorem k_gt0t {a : Nat} (ha : a < 2147483648) (h : 0 < nI a) : 0 < a := k_ltN (a := 0) (b := a) (by omega) ha h
theorem k_gt0f {a : Nat} (ha : a < 2147483648) (h : ¬ 0 < nI a) : a = 0 := by
  have := k_nltN (a := 0) (b := a) (by omega) ha h
  omega
theorem k_eq0t {a : Nat} (ha : a < 2147483648) (h : nI a = 0) : a = 0 := k_eqN (a := a) (b := 0) ha (by omega) h
theorem k_eq0f {a : Nat} (ha : a < 2147483648) (h : ¬ nI a = 0) : 0 < a := by
  have := k_neN (a := a) (b := 0) ha (by omega) h
  omega
theorem k_ne0t {a : Nat} (ha : a < 2147483648) (h : ¬ nI a = 0) : 0 < a := k_eq0f ha h
theorem k_ne0f {a : Nat} (ha : a < 2147483648) (h : nI a = 0) : a = 0 := k_eq0t ha h
