theorem nwN_un (fir lgt ofs rn : Nat → Int32) (td : Int32) (w : Nat → Int32) : ∀ k : Nat, k < 2147483648 → ¬ nwN fir lgt ofs rn td w k = -1 → w (ix (nwN fir lgt ofs rn td w k)) = 0 ∧ wtM fir lgt ofs rn td (ix (nwN fir lgt ofs rn td w k)) := by
  intro k
  induction k with
  | zero => intro _ h; exact absurd rfl h
  | succ k ih =>
    intro hk h
    by_cases hc : wtM fir lgt ofs rn td k ∧ w k = 0 ∧ (nwN fir lgt ofs rn td w k = -1 ∨ ¬ ctEnd fir lgt (ix (nwN fir lgt ofs rn td w k)) ≤ ctEnd fir lgt k)
    · have e : nwN fir lgt ofs rn td w (k + 1) = nI k := by rw [nwN]; exact if_pos hc
      rw [e, ix_nI (by omega)]
      exact ⟨hc.2.1, hc.1⟩
    · have e : nwN fir lgt ofs rn td w (k + 1) = nwN fir lgt ofs rn td w k := by rw [nwN]; exact if_neg hc
      rw [e] at h ⊢
      exact ih (by omega) h
theorem nwN_cong {fir lgt ofs rn : Nat → Int32} {td : Int32} {w w' : Nat → Int32} : ∀ k : Nat, (∀ i, i < k → w i = w' i) → nwN fir lgt ofs rn td w k = nwN fir lgt ofs rn td w' k := by
  intro k
  induction k with
  | zero => intro _; rfl
  | succ k ih =>
    intro h
    rw [nwN, nwN, ih (fun i hi => h i (by omega)), h k (by omega)]
/-- how many of the first k were not seen -/
def ctU (w : Nat → Int32) : Nat → Nat
  | 0 => 0
  | k + 1 => ctU w k + (if w k = 0 then 1 else 0)
theorem ctU_cong {w w' : Nat → Int32} : ∀ k : Nat, (∀ i, i < k → w i = w' i) → ctU w k = ctU w' k := by
  intro k
  induction k with
  | zero => intro _; rfl
  | succ k ih => intro h; rw [ctU, ctU, ih (fun i hi => h i (by omega)), h k (by omega)]
theorem ctU_0 : ∀ k : Nat, ctU (fun _ => 0) k = k := by
  intro k
  induction k with
  | zero => rfl
  | succ k ih => rw [ctU, ih]; simp
theorem ctU_upd {w : Nat → Int32} {o : Nat} (h0 : w o = 0) : ∀ k : Nat, o < k → ctU (upd w o 1) k + 1 = ctU w k := by
  intro k
  induction k with
  | zero => intro h; exact absurd h (Nat.not_lt_zero _)
  | succ k ih =>
    intro h
    by_cases e : o = k
    · subst e
      rw [ctU, ctU, upd_eq, if_pos h0, if_neg (by decide), ctU_cong (w := upd w o 1) (w' := w) o (fun i hi => upd_ne _ _ (by omega))]
    · have := ih (by omega)
      rw [ctU, ctU, upd_ne _ _ (by omega : k ≠ o)]
      omega
def dyOne (fs ss fd ed lm dd pin : Nat → Int32) (td : Int32) (Y : CS × Nat) (o : Nat) : CS × Nat :=
  if canM fs ss fd ed lm dd (cI Y.1) (cF Y.1) (cK Y.1) pin td (ix (cI Y.1 o)) (cS Y.1 o) 16 then (rnMk td Y.1 o, Y.2 + 1) else Y
/-- the model's day, of the certificates below had -/
def dyN (fs ss fd ed lm dd pin : Nat → Int32) (td : Int32) (had : Nat) : Nat → CS × Nat → (Nat → Int32) → CS × Nat
  | 0, Y, _ => Y
  | f + 1, Y, w => if nwN (cF Y.1) (cL Y.1) (cO Y.1) (cR Y.1) td w had = -1 then Y else dyN fs ss fd ed lm dd pin td had f (dyOne fs ss fd ed lm dd pin td Y (ix (nwN (cF Y.1) (cL Y.1) (cO Y.1) (cR Y.1) td w had))) (upd w (ix (nwN (cF Y.1) (cL Y.1) (cO Y.1) (cR Y.1) td w had)) 1)
theorem dyN_stop {fs ss fd ed lm dd pin : Nat → Int32} {td : Int32} {had : Nat} {f : Nat} {Y : CS × Nat} {w : Nat → Int32} (h : nwN (cF Y.1) (cL Y.1) (cO Y.1) (cR Y.1) td w had = -1) : dyN fs ss fd ed lm dd pin td had f Y w = Y := by
  cases f with
  | zero => rfl
  | succ f => rw [dyN, if_pos h]
theorem dyN_cong {fs ss fd ed lm dd pin : Nat → Int32} {td : Int32} {had : Nat} : ∀ (f : Nat) (Y : CS × Nat) (w w' : Nat → Int32), (∀ i, i < had → w i = w' i) → dyN fs ss fd ed lm dd pin td had f Y w = dyN fs ss fd ed lm dd pin td had f Y w' := by
  intro f
  induction f with
  | zero => intro Y w w' h; rfl
  | succ f ih =>
    intro Y w w' h
    rw [dyN, dyN, nwN_cong had h]
    congr 1
    refine ih _ _ _ (fun i hi => ?_)
    by_cases e : i = ix (nwN (cF Y.1) (cL Y.1) (cO Y.1) (cR Y.1) td w' had)
    · rw [e, upd_eq, upd_eq]
    · rw [upd_ne _ _ e, upd_ne _ _ e]; exact h i hi
def dyE (fs ss fd ed lm dd pin : Nat → Int32) (td : Int32) (X : CS) : CS × Nat := dyN fs ss fd ed lm dd pin td (cK X) (cK X) (X, 0) (fun _ => 0)
theorem seeN_lt (w : Nat → Int32) (b : Int32) : ∀ k i : Nat, i < k → seeN w b k i = b := by
  intro k
  induction k with
  | zero => intro i h; exact absurd h (Nat.not_lt_zero _)
  | succ k ih =>
    intro i h
    rw [seeN]
    by_cases e : i = k
    · subst e; exact upd_eq _ _ _
    · rw [upd_ne _ _ e]; exact ih i (by omega)
theorem dyE_in {fs ss fd ed lm dd pin : Nat → Int32} {td : Int32} {X : CS} (w : Nat → Int32) (hk : cK X ≤ 60) : dyN fs ss fd ed lm dd pin td (cK X) (ctU (seeN w 0 60) (cK X)) (X, 0) (seeN w 0 60) = dyE fs ss fd ed lm dd pin td X := by
  have h : ∀ i, i < cK X → seeN w 0 60 i = (fun _ => (0 : Int32)) i := fun i hi => seeN_lt w 0 60 i (by omega)
  rw [dyE, ctU_cong _ h, ctU_0, dyN_cong _ _ _ _ h]
theorem dyN_step {fs ss fd ed lm dd pin : Nat → Int32} {td : Int32} {had : Nat} {Y : CS × Nat} {w : Nat → Int32} (hh : had < 2147483648) (h : ¬ nwN (cF Y.1) (cL Y.1) (cO Y.1) (cR Y.1) td w had = -1) :
    dyN fs ss fd ed lm dd pin td had (ctU w had) Y w = dyN fs ss fd ed lm dd pin td had (ctU (upd w (ix (nwN (cF Y.1) (cL Y.1) (cO Y.1) (cR Y.1) td w had)) 1) had) (dyOne fs ss fd ed lm dd pin td Y (ix (nwN (cF Y.1) (cL Y.1) (cO Y.1) (cR Y.1) td w had))) (upd w (ix (nwN (cF Y.1) (cL Y.1) (cO Y.1) (cR Y.1) td w had)) 1) := by
  have h1 := (nwN_un (cF Y.1) (cL Y.1) (cO Y.1) (cR Y.1) td w had hh h).1
  have h2 : ix (nwN (cF Y.1) (cL Y.1) (cO Y.1) (cR Y.1) td w had) < had := ((nwN_ok (cF Y.1) (cL Y.1) (cO Y.1) (cR Y.1) td w had hh).resolve_left h).2
  rw [← ctU_upd h1 had h2, dyN, if_neg h]
theorem dyOne_ok {fs ss fd ed lm dd pin : Nat → Int32} {n : Nat} {td : Int32} {Y : CS × Nat} {o : Nat} (hn : n < 2147483648) (h : certOK n (cI Y.1) (cL Y.1) (cK Y.1)) (hk : cK Y.1 ≤ 60) (ho : o < cK Y.1) :
    certOK n (cI (dyOne fs ss fd ed lm dd pin td Y o).1) (cL (dyOne fs ss fd ed lm dd pin td Y o).1) (cK (dyOne fs ss fd ed lm dd pin td Y o).1) ∧ cK (dyOne fs ss fd ed lm dd pin td Y o).1 ≤ 60 ∧ cK Y.1 ≤ cK (dyOne fs ss fd ed lm dd pin td Y o).1 := by
  unfold dyOne
  split
  · rename_i hc
    have h6 : ¬ 60 ≤ cK Y.1 := hc.1.2.2
    obtain ⟨h1, h2, h3⟩ := h o ho
    refine ⟨?_, by show cK Y.1 + 1 ≤ 60; omega, by show cK Y.1 ≤ cK Y.1 + 1; omega⟩
    exact certOK_mk h (by rw [ix_nI (by omega)]) (by rw [ix_nI (by omega)]; exact h2) h3
  · exact ⟨h, hk, Nat.le_refl _⟩
theorem dyN_ok {fs ss fd ed lm dd pin : Nat → Int32} {n : Nat} {td : Int32} {had : Nat} (hn : n < 2147483648) (hh : had < 2147483648) : ∀ (f : Nat) (Y : CS × Nat) (w : Nat → Int32), certOK n (cI Y.1) (cL Y.1) (cK Y.1) → cK Y.1 ≤ 60 → had ≤ cK Y.1 →
    certOK n (cI (dyN fs ss fd ed lm dd pin td had f Y w).1) (cL (dyN fs ss fd ed lm dd pin td had f Y w).1) (cK (dyN fs ss fd ed lm dd pin td had f Y w).1) ∧ cK (dyN fs ss fd ed lm dd pin td had f Y w).1 ≤ 60 ∧ had ≤ cK (dyN fs ss fd ed lm dd pin td had f Y w).1 := by
  intro f
  induction f with
  | zero => intro Y w h1 h2 h3; exact ⟨h1, h2, h3⟩
  | succ f ih =>
    intro Y w h1 h2 h3
    rw [dyN]
    split
    · exact ⟨h1, h2, h3⟩
    · rename_i hne
      have ho : ix (nwN (cF Y.1) (cL Y.1) (cO Y.1) (cR Y.1) td w had) < had := ((nwN_ok (cF Y.1) (cL Y.1) (cO Y.1) (cR Y.1) td w had hh).resolve_left hne).2
      obtain ⟨g1, g2, g3⟩ := dyOne_ok (fs := fs) (ss := ss) (fd := fd) (ed := ed) (lm := lm) (dd := dd) (pin := pin) (td := td) (Y := Y) (o := ix (nwN (cF Y.1) (cL Y.1) (cO Y.1) (cR Y.1) td w had)) hn h1 h2 (by omega)
      exact ih _ _ g1 g2 (by omega)
theorem dyE_ok {fs ss fd ed lm dd pin : Nat → Int32} {n : Nat} {td : Int32} {X : CS} (hn : n < 2147483648) (h : certOK n (cI X) (cL X) (cK X)) (hk : cK X ≤ 60) :
    certOK n (cI (dyE fs ss fd ed lm dd pin td X).1) (cL (dyE fs ss fd ed lm dd pin td X).1) (cK (dyE fs ss fd ed lm dd pin td X).1) ∧ cK (dyE fs ss fd ed lm dd pin td X).1 ≤ 60 ∧ cK X ≤ cK (dyE fs ss fd ed lm dd pin td X).1 :=
  dyN_ok hn (by omega) _ (X, 0) _ h hk (Nat.le_refl _)
def psM (fs ss fd ed lm dd pin : Nat → Int32) (X : CS) (td : Int32) : Nat → (CS × Int32) × Int32
  | 0 => ((X, td), 0)
  | t + 1 => (((dyE fs ss fd ed lm dd pin ((psM fs ss fd ed lm dd pin X td t).1.2 + 1) (psM fs ss fd ed lm dd pin X td t).1.1).1, (psM fs ss fd ed lm dd pin X td t).1.2 + 1), (psM fs ss fd ed lm dd pin X td t).2 + nI (dyE fs ss fd ed lm dd pin ((psM fs ss fd ed lm dd pin X td t).1.2 + 1) (psM fs ss fd ed lm dd pin X td t).1.1).2)
theorem ln_neB {ln : Int32} (h : inB ln 1 400 = true) : ¬ ln / 6 + 1 = 0 := by
  simp only [inB, Bool.and_eq_true, Bool.not_eq_true', decide_eq_false_iff_not] at h
  exact ln_ne h.1 (i32_nlt.mp h.2)
theorem pd_okB {d : Int32} (h : inB d 1 100 = true) : d = nI (ix d) ∧ ix d ≤ 100 := by
  simp only [inB, Bool.and_eq_true, Bool.not_eq_true', decide_eq_false_iff_not] at h
  exact pd_ok h.1 (i32_nlt.mp h.2)
def wcN (fir lgt ofs rn : Nat → Int32) (td : Int32) : Nat → Int32
  | 0 => 0
  | k + 1 => wcN fir lgt ofs rn td k + (if wtM fir lgt ofs rn td k then 1 else 0)
/-- which waits, behind k that were seen -/
def waN (fir lgt ofs rn : Nat → Int32) (td : Int32) (had : Nat) (w : Nat → Int32) : Nat → (Nat → Int32) × Int32
  | 0 => (w, nwN fir lgt ofs rn td w had)
  | k + 1 => if (waN fir lgt ofs rn td had w k).2 = -1 then waN fir lgt ofs rn td had w k else
      (upd (waN fir lgt ofs rn td had w k).1 (ix (waN fir lgt ofs rn td had w k).2) 1, nwN fir lgt ofs rn td (upd (waN fir lgt ofs rn td had w k).1 (ix (waN fir lgt ofs rn td had w k).2) 1) had)
theorem waN_stop {fir lgt ofs rn : Nat → Int32} {td : Int32} {had : Nat} {w : Nat → Int32} {k : Nat} (h : (waN fir lgt ofs rn td had w k).2 = -1) : ∀ t : Nat, waN fir lgt ofs rn td had w (k + t) = waN fir lgt ofs rn td had w k := by
  intro t
  induction t with
  | zero => rfl
  | succ t ih =>
    show waN fir lgt ofs rn td had w ((k + t) + 1) = _
    rw [waN, ih, if_pos h]
theorem waN_ok (fir lgt ofs rn : Nat → Int32) (td : Int32) (had : Nat) (w : Nat → Int32) (hh : had < 2147483648) : ∀ k : Nat, sgP (fun _ => (waN fir lgt ofs rn td had w k).2) had := by
  intro k
  induction k with
  | zero => exact nwN_ok fir lgt ofs rn td w had hh
  | succ k ih =>
    by_cases h : (waN fir lgt ofs rn td had w k).2 = -1
    · show sgP (fun _ => (waN fir lgt ofs rn td had w (k + 1)).2) had
      rw [waN, if_pos h]; exact ih
    · show sgP (fun _ => (waN fir lgt ofs rn td had w (k + 1)).2) had
      rw [waN, if_neg h]; exact nwN_ok fir lgt ofs rn td _ had hh
def cdWa (fir lgt ofs rn : Nat → Int32) (td : Int32) (had : Nat) (w : Nat → Int32) (p : Int32) : Int32 := if p < 0 then 1 else if (waN fir lgt ofs rn td had w (ix p)).2 = -1 then 1 else 0
/-- the first day from x on, of f days, whose set hasn't the name -/
def ngM (fs ss fd ed dd : Nat → Int32) (isu su fir lgt : Nat → Int32) (mc : Nat) (nm : Int32) : Nat → Nat → Int32
  | 0, _ => -1
  | f + 1, x => if (nmN fs ss fd ed dd isu su fir lgt (nI x) (-1) mc >>> (nm &&& 31)) &&& 1 = 1 then ngM fs ss fd ed dd isu su fir lgt mc nm f (x + 1) else nI x
def bsN (x : Int32) : Nat → Int32
  | 0 => 0
  | k + 1 => bsN x k + ((x >>> (nI k &&& 31)) &&& 1)
abbrev lostM (fs ss fd ed dd : Nat → Int32) (isu su fir lgt : Nat → Int32) (mc : Nat) (day wo : Int32) : Int32 :=
  nmN fs ss fd ed dd isu su fir lgt day (-1) mc &&& (nmN fs ss fd ed dd isu su fir lgt day wo mc ^^^ (-1))
