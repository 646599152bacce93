/-! Renewing: a certificates' state, iss sb fst len off ren kc sd. -/
abbrev CS : Type := (Nat → Int32) × (Nat → Int32) × (Nat → Int32) × (Nat → Int32) × (Nat → Int32) × (Nat → Int32) × Nat × Int32
abbrev cI (X : CS) : Nat → Int32 := X.1
abbrev cS (X : CS) : Nat → Int32 := X.2.1
abbrev cF (X : CS) : Nat → Int32 := X.2.2.1
abbrev cL (X : CS) : Nat → Int32 := X.2.2.2.1
abbrev cO (X : CS) : Nat → Int32 := X.2.2.2.2.1
abbrev cR (X : CS) : Nat → Int32 := X.2.2.2.2.2.1
abbrev cK (X : CS) : Nat := X.2.2.2.2.2.2.1
abbrev cD (X : CS) : Int32 := X.2.2.2.2.2.2.2
/-- certificate o is renewed on day dy -/
def rnMk (dy : Int32) (X : CS) (o : Nat) : CS :=
  (upd (cI X) (cK X) (nI (ix (cI X o))), upd (cS X) (cK X) (cS X o), upd (cF X) (cK X) dy, upd (cL X) (cK X) (cL X o), upd (cO X) (cK X) (offD (seedN (cD X)) (cL X o)), upd (upd (cR X) (cK X) (-1)) o (nI (cK X)), cK X + 1, seedN (cD X))
/-- .. if its issuer can issue; and how many were -/
def rnOne (fs ss fd ed lm dd : Nat → Int32) (n : Nat) (pins : Nat → Int32) (dy : Int32) (Y : CS × Nat) (o : Nat) : CS × Nat :=
  if canC fs ss fd ed lm dd n (cI Y.1) (cF Y.1) (cK Y.1) pins dy (ix (cI Y.1 o)) (cS Y.1 o) then (rnMk dy Y.1 o, Y.2 + 1) else Y
/-- the first t of a queue -/
def rnC (fs ss fd ed lm dd : Nat → Int32) (n : Nat) (pins : Nat → Int32) (dy : Int32) (q : Nat → Int32) (X : CS) : Nat → CS × Nat
  | 0 => (X, 0)
  | t + 1 => rnOne fs ss fd ed lm dd n pins dy (rnC fs ss fd ed lm dd n pins dy q X t) (ix (q t))
/-- all that wait on day dy -/
def rnE (fs ss fd ed lm dd : Nat → Int32) (n : Nat) (pins que : Nat → Int32) (dy : Int32) (X : CS) : CS × Nat :=
  rnC fs ss fd ed lm dd n pins dy (fqQ (cF X) (cL X) (cO X) (cR X) dy que (cK X)) X (fqS (cF X) (cL X) (cO X) (cR X) dy que (cK X))
/-- what holds of the certificates -/
def certOK (n : Nat) (iss len : Nat → Int32) (kc : Nat) : Prop := ∀ i, i < kc → iss i = nI (ix (iss i)) ∧ ix (iss i) < n ∧ ¬ len i / 6 + 1 = 0
theorem certOK_mk {n : Nat} {iss len : Nat → Int32} {kc : Nat} {x y : Int32} (h : certOK n iss len kc) (h1 : x = nI (ix x)) (h2 : ix x < n) (h3 : ¬ y / 6 + 1 = 0) : certOK n (upd iss kc x) (upd len kc y) (kc + 1) := by
  intro i hi
  by_cases e : i = kc
  · subst e; rw [upd_eq, upd_eq]; exact ⟨h1, h2, h3⟩
  · rw [upd_ne _ _ e, upd_ne _ _ e]; exact h i (by omega)
theorem rnOne_ok {fs ss fd ed lm dd : Nat → Int32} {n : Nat} {pins : Nat → Int32} {dy : Int32} {Y : CS × Nat} {o : Nat} (hn : n < 2147483648) (h : certOK n (cI Y.1) (cL Y.1) (cK Y.1)) (hk : cK Y.1 ≤ 60) (ho : o < cK Y.1) :
    certOK n (cI (rnOne fs ss fd ed lm dd n pins dy Y o).1) (cL (rnOne fs ss fd ed lm dd n pins dy Y o).1) (cK (rnOne fs ss fd ed lm dd n pins dy Y o).1) ∧ cK (rnOne fs ss fd ed lm dd n pins dy Y o).1 ≤ 60 ∧ cK Y.1 ≤ cK (rnOne fs ss fd ed lm dd n pins dy Y o).1 := by
  unfold rnOne
  split
  · rename_i hc
    have h6 : ¬ 60 ≤ cK Y.1 := hc.1
    obtain ⟨h1, h2, h3⟩ := h o ho
    refine ⟨?_, by show cK Y.1 + 1 ≤ 60; omega, by show cK Y.1 ≤ cK Y.1 + 1; omega⟩
    exact certOK_mk h (by rw [ix_nI (by omega)]) (by rw [ix_nI (by omega)]; exact h2) h3
  · exact ⟨h, hk, Nat.le_refl _⟩
theorem rnC_ok {fs ss fd ed lm dd : Nat → Int32} {n : Nat} {pins : Nat → Int32} {dy : Int32} {q : Nat → Int32} {X : CS} (hn : n < 2147483648) (h : certOK n (cI X) (cL X) (cK X)) (hk : cK X ≤ 60) : ∀ t : Nat, (∀ i, i < t → ix (q i) < cK X) →
    certOK n (cI (rnC fs ss fd ed lm dd n pins dy q X t).1) (cL (rnC fs ss fd ed lm dd n pins dy q X t).1) (cK (rnC fs ss fd ed lm dd n pins dy q X t).1) ∧ cK (rnC fs ss fd ed lm dd n pins dy q X t).1 ≤ 60 ∧ cK X ≤ cK (rnC fs ss fd ed lm dd n pins dy q X t).1 := by
  intro t
  induction t with
  | zero => intro _; exact ⟨h, hk, Nat.le_refl _⟩
  | succ t ih =>
    intro hq
    obtain ⟨h1, h2, h3⟩ := ih (fun i hi => hq i (by omega))
    have ho := hq t (by omega)
    obtain ⟨g1, g2, g3⟩ := rnOne_ok (fs := fs) (ss := ss) (fd := fd) (ed := ed) (lm := lm) (dd := dd) (pins := pins) (dy := dy) (o := ix (q t)) hn h1 h2 (by omega)
    exact ⟨g1, g2, by unfold rnC; omega⟩
theorem rnE_ok {fs ss fd ed lm dd : Nat → Int32} {n : Nat} {pins que : Nat → Int32} {dy : Int32} {X : CS} (hn : n < 2147483648) (h : certOK n (cI X) (cL X) (cK X)) (hk : cK X ≤ 60) :
    certOK n (cI (rnE fs ss fd ed lm dd n pins que dy X).1) (cL (rnE fs ss fd ed lm dd n pins que dy X).1) (cK (rnE fs ss fd ed lm dd n pins que dy X).1) ∧ cK (rnE fs ss fd ed lm dd n pins que dy X).1 ≤ 60 ∧ cK X ≤ cK (rnE fs ss fd ed lm dd n pins que dy X).1 :=
  rnC_ok hn h hk _ (fun i hi => ((fq_ok (cF X) (cL X) (cO X) (cR X) dy que (cK X) (by omega)).2 i hi).2)
set_option maxHeartbeats 4000000 in
set_option maxRecDepth 100000 in
theorem c_X2_renewDueCertificates (l : Launch) (D : va_G) (cy : ClassId × ClassId × ClassId) (h pn a0 a1 a2 a3 a4 a5 a6 a7 a8 b0 b1 b2 b3 b4 b5 b6 b7 : Nat) (fs ss fd ed lm dd ce cw : Nat → Int32) (n : Nat) (iss sb fst len off ren que : Nat → Int32) (kc : Nat) (pins : Nat → Int32) (sd dy : Int32) (hn : n ≤ 8) (hc : kc ≤ 60) (hok : certOK n iss len kc) : kI l D cy yX2_renewDueCertificates wsX2_renewDueCertificates (krm 4 89) [.ref h] (wH cy h pn a0 a1 a2 a3 a4 a5 a6 a7 a8 b0 b1 b2 b3 b4 b5 b6 b7 fs ss fd ed lm dd ce cw n iss sb fst len off ren que kc pins sd dy) (fun (r : Int32) (u : Unit) => r = nI (rnE fs ss fd ed lm dd n pins que dy (iss, sb, fst, len, off, ren, kc, sd)).2) (fun _ : Unit => wH cy h pn a0 a1 a2 a3 a4 a5 a6 a7 a8 b0 b1 b2 b3 b4 b5 b6 b7 fs ss fd ed lm dd ce cw n (cI (rnE fs ss fd ed lm dd n pins que dy (iss, sb, fst, len, off, ren, kc, sd)).1) (cS (rnE fs ss fd ed lm dd n pins que dy (iss, sb, fst, len, off, ren, kc, sd)).1) (cF (rnE fs ss fd ed lm dd n pins que dy (iss, sb, fst, len, off, ren, kc, sd)).1) (cL (rnE fs ss fd ed lm dd n pins que dy (iss, sb, fst, len, off, ren, kc, sd)).1) (cO (rnE fs ss fd ed lm dd n pins que dy (iss, sb, fst, len, off, ren, kc, sd)).1) (cR (rnE fs ss fd ed lm dd n pins que dy (iss, sb, fst, len, off, ren, kc, sd)).1) (fqQ fst len off ren dy que kc) (cK (rnE fs ss fd ed lm dd n pins que dy (iss, sb, fst, len, off, ren, kc, sd)).1) pins (cD (rnE fs ss fd ed lm dd n pins que dy (iss, sb, fst, len, off, ren, kc, sd)).1) dy) := by
  refine kI.of (cc := cX2_renewDueCertificates) (maxL := 7) (rt := .int) (Or.inl rfl) (by decide) rfl (Nat.le_of_ble_eq_true rfl) ?_
  intro p e s m args below meth c Q A ls hx hb hml hown hts hE hA hP hD hl hret
  have hS : va_S A s.heap s.heap [] := va_S.rf
  have hl : lv_has ls 7 [(0, .ref h)] := hl
  have g_X2 : ∀ w ∈ wsX20, w ∈ wsX2_renewDueCertificates := by decide +kernel
  have f_19 := hts (.fieldLink RX2 19 "CertHerd" "certificateTable" "LCertHerd$CertificateTable;") (by decide +kernel)
  have f_31 := hts (.fieldLink RX2 31 "CertHerd" "dayNow" "I") (by decide +kernel)
  have g_X0 : ∀ w ∈ wsX00, w ∈ wsX2_renewDueCertificates := by decide +kernel
  have f_135 := hts (.fieldLink RX2 135 "CertHerd$CertificateTable" "queue" "[I") (by decide +kernel)
  have f_114 := hts (.fieldLink RX2 114 "CertHerd$CertificateTable" "issuerNumbers" "[I") (by decide +kernel)
  have f_193 := hts (.fieldLink RX2 193 "CertHerd$CertificateTable" "subjects" "[I") (by decide +kernel)
  have f_124 := hts (.fieldLink RX2 124 "CertHerd$CertificateTable" "renewals" "[I") (by decide +kernel)
  have f_196 := hts (.fieldLink RX2 196 "CertHerd$CertificateTable" "lengths" "[I") (by decide +kernel)
  refine lv_aload_n hx hb dX2_renewDueCertificates_0 rfl (lv_at hl 0 rfl) ?_
  refine va_get (D := D) (ci := 2) (v := .ref b0) (C := RX2) (T := TX2) (N := 5) hx hb hts g_X2 hown hE.1 hP 0 rfl rfl 1 (by decide) f_19 (fun _ h9 => h9) rfl dX2_renewDueCertificates_1 ?_
  refine lv_aload_n hx hb dX2_renewDueCertificates_4 rfl (lv_at hl 0 rfl) ?_
  refine va_get (D := D) (ci := 2) (v := .int dy) (C := RX2) (T := TX2) (N := 5) hx hb hts g_X2 hown hE.1 hP 0 rfl rfl 4 (by decide) f_31 (fun _ h9 => h9) rfl dX2_renewDueCertificates_5 ?_
  refine kcV_i (n := 1) (X := (h, .inr (2, [.ref a0, .ref b0, .ref pn, .int sd, .int dy])) :: wT cy a0 a1 a2 a3 a4 a5 a6 a7 a8 fs ss fd ed lm dd ce cw n) (wc := wC cy b0 b1 b2 b3 b4 b5 b6 b7 iss sb fst len off ren que kc) (Y := [(pn, .inl (cy.1, 16, .inl pins))]) (As := [.int dy]) (rest := []) ⟨hx, hb, hml, hown, hts⟩ hE hA hP hD hS (c_X0_fillQueue l D cy b0 b1 b2 b3 b4 b5 b6 b7 iss sb fst len off ren que kc dy (by first | assumption | omega)) (fun _ => Eq.trans (b := [b0, b1, b2, b3, b4, b5, b6, b7]) rfl rfl) (q0 := 0) (ci := 0) rfl rfl gX2_renewDueCertificates_X0_fillQueue rfl rfl rfl ⟨rfl, by decide, by decide, by decide +kernel⟩ ⟨Nat.le_of_ble_eq_true rfl, Nat.le_of_ble_eq_true rfl⟩ rfl hl.1 rfl (Nat.le_of_ble_eq_true rfl) dX2_renewDueCertificates_8 ⟨Nat.zero_le _, Nat.zero_le _⟩ (fun r_1 u H locs e_2 hP hD hS => ?_)
  have hP : va_P D vwCl (wH cy h pn a0 a1 a2 a3 a4 a5 a6 a7 a8 b0 b1 b2 b3 b4 b5 b6 b7 fs ss fd ed lm dd ce cw n iss sb fst len off ren (fqQ fst len off ren dy que kc) kc pins sd dy) H := hP
  have hD : va_D A (wH cy h pn a0 a1 a2 a3 a4 a5 a6 a7 a8 b0 b1 b2 b3 b4 b5 b6 b7 fs ss fd ed lm dd ce cw n iss sb fst len off ren (fqQ fst len off ren dy que kc) kc pins sd dy) := hD
  have e_2 : r_1 = nI (fqS fst len off ren dy que kc) := e_2
  subst e_2
  obtain ⟨z, ez⟩ : ∃ z, z = fqS fst len off ren dy que kc := ⟨_, rfl⟩
  obtain ⟨q_, eq_⟩ : ∃ q_, q_ = fqQ fst len off ren dy que kc := ⟨_, rfl⟩
  have hfq := fq_ok fst len off ren dy que kc (by omega)
  rw [← ez, ← eq_] at hfq
  rw [← eq_] at hP hD
  refine k_top (z := nI z) (by rw [ez]) ?_
  refine lv_istore_n (lv' := [(1, .int (nI z)), (0, .ref h)]) hx hb dX2_renewDueCertificates_11 rfl hl (by decide) rfl (fun ls hl => ?_)
  refine lv_iconst (v := 0) hx hb dX2_renewDueCertificates_12 (by decide) ?_
  refine lv_istore_n (lv' := [(2, .int 0), (1, .int (nI z)), (0, .ref h)]) hx hb dX2_renewDueCertificates_13 rfl hl (by decide) rfl (fun ls hl => ?_)
  refine lv_iconst (v := 0) hx hb dX2_renewDueCertificates_14 (by decide) ?_
  refine lv_istore_n (lv' := [(3, .int 0), (2, .int 0), (1, .int (nI z)), (0, .ref h)]) hx hb dX2_renewDueCertificates_15 rfl hl (by decide) rfl (fun ls hl => ?_)
  have L_16 : ∀ (f : Nat) (t c2 : Nat) (i_ : Nat → Int32) (s_ : Nat → Int32) (f_ : Nat → Int32) (l_ : Nat → Int32) (o_ : Nat → Int32) (r_ : Nat → Int32) (k_ : Nat) (d_ : Int32) (H : Heap) (locs : List Loc) (ls : Array Slot), ((z - t) < f) → (t ≤ z) → (((i_, s_, f_, l_, o_, r_, k_, d_), c2) = rnC fs ss fd ed lm dd n pins dy q_ (iss, sb, fst, len, off, ren, kc, sd) t) → (kc ≤ k_) → (k_ ≤ 60) → (certOK n i_ l_ k_) → va_P D vwCl (wH cy h pn a0 a1 a2 a3 a4 a5 a6 a7 a8 b0 b1 b2 b3 b4 b5 b6 b7 fs ss fd ed lm dd ce cw n i_ s_ f_ l_ o_ r_ q_ k_ pins d_ dy) H → va_D A (wH cy h pn a0 a1 a2 a3 a4 a5 a6 a7 a8 b0 b1 b2 b3 b4 b5 b6 b7 fs ss fd ed lm dd ce cw n i_ s_ f_ l_ o_ r_ q_ k_ pins d_ dy) → va_S A s.heap H locs → lv_has ls 7 [(3, .int (nI t)), (2, .int (nI c2)), (1, .int (nI z)), (0, .ref h)] → W p l e (krm 4 89) s m args below meth c H locs 0 0 Q (F0 m 16 ls []) := by
    intro f
    induction f with
    | zero => intro t c2 i_ s_ f_ l_ o_ r_ k_ d_ H locs ls hf; exact absurd hf (Nat.not_lt_zero _)
    | succ f ih_16 =>
      intro t c2 i_ s_ f_ l_ o_ r_ k_ d_ H locs ls hf ht hX hk1 hk2 hok2 hP hD hS hl
      refine lv_iload_n hx hb dX2_renewDueCertificates_16 rfl (lv_at hl 0 rfl) ?_
      refine lv_iload_n hx hb dX2_renewDueCertificates_17 rfl (lv_at hl 2 rfl) ?_
      refine lv_icmp_ge (tgt := 104) hx hb dX2_renewDueCertificates_18 (by decide) (fun c_18 => ?_) (fun c_18 => ?_)
      · have c_18n : z ≤ t := k_leN (a := z) (b := t) (by omega) (by omega) c_18
        have hE9 : rnE fs ss fd ed lm dd n pins que dy (iss, sb, fst, len, off, ren, kc, sd) = ((i_, s_, f_, l_, o_, r_, k_, d_), c2) := by
          have e9 : t = z := (by omega)
          subst e9
          rw [hX, ez, eq_]
          rfl
        refine lv_iload_n hx hb dX2_renewDueCertificates_104 rfl (lv_at hl 1 rfl) ?_
        have w_iss : i_ = cI (rnE fs ss fd ed lm dd n pins que dy (iss, sb, fst, len, off, ren, kc, sd)).1 := (by rw [hE9])
        have w_sb : s_ = cS (rnE fs ss fd ed lm dd n pins que dy (iss, sb, fst, len, off, ren, kc, sd)).1 := (by rw [hE9])
        have w_fst : f_ = cF (rnE fs ss fd ed lm dd n pins que dy (iss, sb, fst, len, off, ren, kc, sd)).1 := (by rw [hE9])
        have w_len : l_ = cL (rnE fs ss fd ed lm dd n pins que dy (iss, sb, fst, len, off, ren, kc, sd)).1 := (by rw [hE9])
        have w_off : o_ = cO (rnE fs ss fd ed lm dd n pins que dy (iss, sb, fst, len, off, ren, kc, sd)).1 := (by rw [hE9])
        have w_ren : r_ = cR (rnE fs ss fd ed lm dd n pins que dy (iss, sb, fst, len, off, ren, kc, sd)).1 := (by rw [hE9])
        have w_que : q_ = fqQ fst len off ren dy que kc := eq_
        have w_kc : k_ = cK (rnE fs ss fd ed lm dd n pins que dy (iss, sb, fst, len, off, ren, kc, sd)).1 := (by rw [hE9])
        have w_sd : d_ = cD (rnE fs ss fd ed lm dd n pins que dy (iss, sb, fst, len, off, ren, kc, sd)).1 := (by rw [hE9])
        exact hret _ _ _ _ (nI c2) () dX2_renewDueCertificates_105 (Or.inl rfl) (by rw [hE9]) (by show va_P D vwCl (wH cy h pn a0 a1 a2 a3 a4 a5 a6 a7 a8 b0 b1 b2 b3 b4 b5 b6 b7 fs ss fd ed lm dd ce cw n (cI (rnE fs ss fd ed lm dd n pins que dy (iss, sb, fst, len, off, ren, kc, sd)).1) (cS (rnE fs ss fd ed lm dd n pins que dy (iss, sb, fst, len, off, ren, kc, sd)).1) (cF (rnE fs ss fd ed lm dd n pins que dy (iss, sb, fst, len, off, ren, kc, sd)).1) (cL (rnE fs ss fd ed lm dd n pins que dy (iss, sb, fst, len, off, ren, kc, sd)).1) (cO (rnE fs ss fd ed lm dd n pins que dy (iss, sb, fst, len, off, ren, kc, sd)).1) (cR (rnE fs ss fd ed lm dd n pins que dy (iss, sb, fst, len, off, ren, kc, sd)).1) (fqQ fst len off ren dy que kc) (cK (rnE fs ss fd ed lm dd n pins que dy (iss, sb, fst, len, off, ren, kc, sd)).1) pins (cD (rnE fs ss fd ed lm dd n pins que dy (iss, sb, fst, len, off, ren, kc, sd)).1) dy) _; rw [← w_iss, ← w_sb, ← w_fst, ← w_len, ← w_off, ← w_ren, ← w_que, ← w_kc, ← w_sd]; exact hP) hS
      · have c_18n : ¬ z ≤ t := k_nleN (a := z) (b := t) (by omega) (by omega) c_18
        have hz : t < z := by omega
        have hold := (hfq.2 t hz).2
        have hix := (hok2 _ (show ix (q_ t) < k_ by omega)).2.1
        refine lv_aload_n hx hb dX2_renewDueCertificates_21 rfl (lv_at hl 3 rfl) ?_
        refine va_get (D := D) (ci := 2) (v := .ref b0) (C := RX2) (T := TX2) (N := 5) hx hb hts g_X2 hown hE.1 hP 0 rfl rfl 1 (by decide) f_19 (fun _ h9 => h9) rfl dX2_renewDueCertificates_22 ?_
        refine va_get (D := D) (ci := 0) (v := .ref b7) (C := RX0) (T := TX0) (N := 8) hx hb hts g_X0 hown hE.1 hP 10 rfl rfl 6 (by decide) f_135 (fun _ h9 => h9) rfl dX2_renewDueCertificates_25 ?_
        refine lv_iload_n hx hb dX2_renewDueCertificates_28 rfl (lv_at hl 0 rfl) ?_
        refine k_ild hx hb hE.1 hP 17 0 rfl rfl (j := t) (by omega) (by decide) dX2_renewDueCertificates_29 ?_
        refine k_top (z := nI (ix (q_ t))) (hfq.2 t hz).1 ?_
        refine lv_istore (lv' := [(4, .int (nI (ix (q_ t)))), (3, .int (nI t)), (2, .int (nI c2)), (1, .int (nI z)), (0, .ref h)]) hx hb dX2_renewDueCertificates_30 hl (by decide) rfl (fun ls hl => ?_)
        refine lv_aload_n hx hb dX2_renewDueCertificates_32 rfl (lv_at hl 4 rfl) ?_
        refine va_get (D := D) (ci := 2) (v := .ref b0) (C := RX2) (T := TX2) (N := 5) hx hb hts g_X2 hown hE.1 hP 0 rfl rfl 1 (by decide) f_19 (fun _ h9 => h9) rfl dX2_renewDueCertificates_33 ?_
        refine va_get (D := D) (ci := 0) (v := .ref b1) (C := RX0) (T := TX0) (N := 8) hx hb hts g_X0 hown hE.1 hP 10 rfl rfl 0 (by decide) f_114 (fun _ h9 => h9) rfl dX2_renewDueCertificates_36 ?_
        refine lv_iload hx hb dX2_renewDueCertificates_39 (lv_at hl 0 rfl) ?_
        refine k_ild hx hb hE.1 hP 11 0 rfl rfl (j := (ix (q_ t))) (by omega) (by decide) dX2_renewDueCertificates_41 ?_
        refine k_top (z := nI (ix (i_ (ix (q_ t))))) (hok2 _ (by omega)).1 ?_
        refine lv_istore (lv' := [(5, .int (nI (ix (i_ (ix (q_ t)))))), (4, .int (nI (ix (q_ t)))), (3, .int (nI t)), (2, .int (nI c2)), (1, .int (nI z)), (0, .ref h)]) hx hb dX2_renewDueCertificates_42 hl (by decide) rfl (fun ls hl => ?_)
        refine lv_aload_n hx hb dX2_renewDueCertificates_44 rfl (lv_at hl 5 rfl) ?_
        refine va_get (D := D) (ci := 2) (v := .ref b0) (C := RX2) (T := TX2) (N := 5) hx hb hts g_X2 hown hE.1 hP 0 rfl rfl 1 (by decide) f_19 (fun _ h9 => h9) rfl dX2_renewDueCertificates_45 ?_
        refine va_get (D := D) (ci := 0) (v := .ref b2) (C := RX0) (T := TX0) (N := 8) hx hb hts g_X0 hown hE.1 hP 10 rfl rfl 1 (by decide) f_193 (fun _ h9 => h9) rfl dX2_renewDueCertificates_48 ?_
        refine lv_iload hx hb dX2_renewDueCertificates_51 (lv_at hl 1 rfl) ?_
        refine k_ild hx hb hE.1 hP 12 0 rfl rfl (j := (ix (q_ t))) (by omega) (by decide) dX2_renewDueCertificates_53 ?_
        refine lv_istore (lv' := [(6, .int (s_ (ix (q_ t)))), (5, .int (nI (ix (i_ (ix (q_ t)))))), (4, .int (nI (ix (q_ t)))), (3, .int (nI t)), (2, .int (nI c2)), (1, .int (nI z)), (0, .ref h)]) hx hb dX2_renewDueCertificates_54 hl (by decide) rfl (fun ls hl => ?_)
        refine lv_aload_n hx hb dX2_renewDueCertificates_56 rfl (lv_at hl 6 rfl) ?_
        refine lv_iload hx hb dX2_renewDueCertificates_57 (lv_at hl 1 rfl) ?_
        refine lv_iload hx hb dX2_renewDueCertificates_59 (lv_at hl 0 rfl) ?_
        refine kcW_i (n := 2) (wc := wH cy h pn a0 a1 a2 a3 a4 a5 a6 a7 a8 b0 b1 b2 b3 b4 b5 b6 b7 fs ss fd ed lm dd ce cw n i_ s_ f_ l_ o_ r_ q_ k_ pins d_ dy) (As := [.int (nI (ix (i_ (ix (q_ t))))), .int (s_ (ix (q_ t)))]) (rest := []) ⟨hx, hb, hml, hown, hts⟩ hE hA hP hD hS (c_X2_canIssue l D cy h pn a0 a1 a2 a3 a4 a5 a6 a7 a8 b0 b1 b2 b3 b4 b5 b6 b7 fs ss fd ed lm dd ce cw n i_ s_ f_ l_ o_ r_ q_ k_ pins d_ dy (ix (i_ (ix (q_ t)))) (s_ (ix (q_ t))) (by omega) (by omega) (by first | assumption | omega)) (fun _ => rfl) (q0 := 0) (ci := 2) rfl rfl gX2_renewDueCertificates_X2_canIssue rfl rfl rfl ⟨rfl, by decide, by decide, by decide +kernel⟩ ⟨Nat.le_of_ble_eq_true rfl, Nat.le_of_ble_eq_true rfl⟩ rfl hl.1 rfl (Nat.le_of_ble_eq_true rfl) dX2_renewDueCertificates_61 ⟨Nat.zero_le _, Nat.zero_le _⟩ (fun r_3 u H locs e_4 hP hD hS => ?_)
        have hP : va_P D vwCl (wH cy h pn a0 a1 a2 a3 a4 a5 a6 a7 a8 b0 b1 b2 b3 b4 b5 b6 b7 fs ss fd ed lm dd ce cw n i_ s_ f_ l_ o_ r_ q_ k_ pins d_ dy) H := hP
        have hD : va_D A (wH cy h pn a0 a1 a2 a3 a4 a5 a6 a7 a8 b0 b1 b2 b3 b4 b5 b6 b7 fs ss fd ed lm dd ce cw n i_ s_ f_ l_ o_ r_ q_ k_ pins d_ dy) := hD
        have e_4 : r_3 = bI (canC fs ss fd ed lm dd n i_ f_ k_ pins dy (ix (i_ (ix (q_ t)))) (s_ (ix (q_ t)))) := e_4
        subst e_4
        refine k_ifeq (tgt := 98) hx hb dX2_renewDueCertificates_64 (by decide) (fun c_64 => ?_) (fun c_64 => ?_)
        · refine lv_iinc (v := (nI (t + 1))) (lv' := [(3, .int (nI (t + 1))), (6, .int (s_ (ix (q_ t)))), (5, .int (nI (ix (i_ (ix (q_ t)))))), (4, .int (nI (ix (q_ t)))), (2, .int (nI c2)), (1, .int (nI z)), (0, .ref h)]) hx hb dX2_renewDueCertificates_98 hl (k := 3) rfl (k_inc _) (by decide) rfl (fun ls hl => ?_)
          refine lv_goto (tgt := 16) hx hb dX2_renewDueCertificates_101 (by decide) ?_
          exact ih_16 (t + 1) c2 i_ s_ f_ l_ o_ r_ k_ d_ _ _ ls (by omega) (by omega) (by rw [rnC, ← hX, rnOne]; exact (if_neg c_64).symm) (by omega) (by omega) hok2 hP hD hS (lv_sub hl [0, 4, 5, 6] rfl)
        · refine lv_aload_n hx hb dX2_renewDueCertificates_67 rfl (lv_at hl 6 rfl) ?_
          refine va_get (D := D) (ci := 2) (v := .ref b0) (C := RX2) (T := TX2) (N := 5) hx hb hts g_X2 hown hE.1 hP 0 rfl rfl 1 (by decide) f_19 (fun _ h9 => h9) rfl dX2_renewDueCertificates_68 ?_
          refine va_get (D := D) (ci := 0) (v := .ref b6) (C := RX0) (T := TX0) (N := 8) hx hb hts g_X0 hown hE.1 hP 10 rfl rfl 5 (by decide) f_124 (fun _ h9 => h9) rfl dX2_renewDueCertificates_71 ?_
          refine lv_iload hx hb dX2_renewDueCertificates_74 (lv_at hl 2 rfl) ?_
          refine lv_aload_n hx hb dX2_renewDueCertificates_76 rfl (lv_at hl 6 rfl) ?_
          refine lv_iload hx hb dX2_renewDueCertificates_77 (lv_at hl 1 rfl) ?_
          refine lv_iload hx hb dX2_renewDueCertificates_79 (lv_at hl 0 rfl) ?_
          refine lv_aload_n hx hb dX2_renewDueCertificates_81 rfl (lv_at hl 6 rfl) ?_
          refine va_get (D := D) (ci := 2) (v := .ref b0) (C := RX2) (T := TX2) (N := 5) hx hb hts g_X2 hown hE.1 hP 0 rfl rfl 1 (by decide) f_19 (fun _ h9 => h9) rfl dX2_renewDueCertificates_82 ?_
          refine va_get (D := D) (ci := 0) (v := .ref b4) (C := RX0) (T := TX0) (N := 8) hx hb hts g_X0 hown hE.1 hP 10 rfl rfl 3 (by decide) f_196 (fun _ h9 => h9) rfl dX2_renewDueCertificates_85 ?_
          refine lv_iload hx hb dX2_renewDueCertificates_88 (lv_at hl 2 rfl) ?_
          refine k_ild hx hb hE.1 hP 14 0 rfl rfl (j := (ix (q_ t))) (by omega) (by decide) dX2_renewDueCertificates_90 ?_
          refine kcW_i (n := 3) (wc := wH cy h pn a0 a1 a2 a3 a4 a5 a6 a7 a8 b0 b1 b2 b3 b4 b5 b6 b7 fs ss fd ed lm dd ce cw n i_ s_ f_ l_ o_ r_ q_ k_ pins d_ dy) (As := [.int (nI (ix (i_ (ix (q_ t))))), .int (s_ (ix (q_ t))), .int (l_ (ix (q_ t)))]) (rest := [.int (nI (ix (q_ t))), .ref b6]) ⟨hx, hb, hml, hown, hts⟩ hE hA hP hD hS (c_X2_makeCertificate l D cy h pn a0 a1 a2 a3 a4 a5 a6 a7 a8 b0 b1 b2 b3 b4 b5 b6 b7 fs ss fd ed lm dd ce cw n i_ s_ f_ l_ o_ r_ q_ k_ pins d_ dy (nI (ix (i_ (ix (q_ t))))) (s_ (ix (q_ t))) (l_ (ix (q_ t))) (by have := c_64.1; omega) (hok2 _ (by omega)).2.2) (fun _ => Eq.trans (b := [h, a0, a1, a2, a3, a4, a5, a6, a7, a8, b0, b1, b2, b3, b4, b5, b6, b7, pn]) rfl rfl) (q0 := 0) (ci := 2) rfl rfl gX2_renewDueCertificates_X2_makeCertificate rfl rfl rfl ⟨rfl, by decide, by decide, by decide +kernel⟩ ⟨Nat.le_of_ble_eq_true rfl, Nat.le_of_ble_eq_true rfl⟩ rfl hl.1 rfl (Nat.le_of_ble_eq_true rfl) dX2_renewDueCertificates_91 ⟨Nat.zero_le _, Nat.zero_le _⟩ (fun r_5 u H locs e_6 hP hD hS => ?_)
          have hP : va_P D vwCl (wH cy h pn a0 a1 a2 a3 a4 a5 a6 a7 a8 b0 b1 b2 b3 b4 b5 b6 b7 fs ss fd ed lm dd ce cw n (upd i_ k_ (nI (ix (i_ (ix (q_ t)))))) (upd s_ k_ (s_ (ix (q_ t)))) (upd f_ k_ dy) (upd l_ k_ (l_ (ix (q_ t)))) (upd o_ k_ (offD (seedN d_) (l_ (ix (q_ t))))) (upd r_ k_ (-1)) q_ (k_ + 1) pins (seedN d_) dy) H := hP
          have hD : va_D A (wH cy h pn a0 a1 a2 a3 a4 a5 a6 a7 a8 b0 b1 b2 b3 b4 b5 b6 b7 fs ss fd ed lm dd ce cw n (upd i_ k_ (nI (ix (i_ (ix (q_ t)))))) (upd s_ k_ (s_ (ix (q_ t)))) (upd f_ k_ dy) (upd l_ k_ (l_ (ix (q_ t)))) (upd o_ k_ (offD (seedN d_) (l_ (ix (q_ t))))) (upd r_ k_ (-1)) q_ (k_ + 1) pins (seedN d_) dy) := hD
          have e_6 : r_5 = nI k_ := e_6
          subst e_6
          refine k_ist hx hb hE.1 hP hD hS 16 0 rfl rfl (j := (ix (q_ t))) (by omega) (by decide) dX2_renewDueCertificates_94 (fun H locs hP hD hS => ?_)
          have hP : va_P D vwCl (wH cy h pn a0 a1 a2 a3 a4 a5 a6 a7 a8 b0 b1 b2 b3 b4 b5 b6 b7 fs ss fd ed lm dd ce cw n (upd i_ k_ (nI (ix (i_ (ix (q_ t)))))) (upd s_ k_ (s_ (ix (q_ t)))) (upd f_ k_ dy) (upd l_ k_ (l_ (ix (q_ t)))) (upd o_ k_ (offD (seedN d_) (l_ (ix (q_ t))))) (upd (upd r_ k_ (-1)) (ix (q_ t)) (nI k_)) q_ (k_ + 1) pins (seedN d_) dy) H := hP
          have hD : va_D A (wH cy h pn a0 a1 a2 a3 a4 a5 a6 a7 a8 b0 b1 b2 b3 b4 b5 b6 b7 fs ss fd ed lm dd ce cw n (upd i_ k_ (nI (ix (i_ (ix (q_ t)))))) (upd s_ k_ (s_ (ix (q_ t)))) (upd f_ k_ dy) (upd l_ k_ (l_ (ix (q_ t)))) (upd o_ k_ (offD (seedN d_) (l_ (ix (q_ t))))) (upd (upd r_ k_ (-1)) (ix (q_ t)) (nI k_)) q_ (k_ + 1) pins (seedN d_) dy) := hD
          refine lv_iinc (v := (nI (c2 + 1))) (lv' := [(2, .int (nI (c2 + 1))), (6, .int (s_ (ix (q_ t)))), (5, .int (nI (ix (i_ (ix (q_ t)))))), (4, .int (nI (ix (q_ t)))), (3, .int (nI t)), (1, .int (nI z)), (0, .ref h)]) hx hb dX2_renewDueCertificates_95 hl (k := 4) rfl (k_inc _) (by decide) rfl (fun ls hl => ?_)
          refine lv_iinc (v := (nI (t + 1))) (lv' := [(3, .int (nI (t + 1))), (2, .int (nI (c2 + 1))), (6, .int (s_ (ix (q_ t)))), (5, .int (nI (ix (i_ (ix (q_ t)))))), (4, .int (nI (ix (q_ t)))), (1, .int (nI z)), (0, .ref h)]) hx hb dX2_renewDueCertificates_98 hl (k := 4) rfl (k_inc _) (by decide) rfl (fun ls hl => ?_)
          refine lv_goto (tgt := 16) hx hb dX2_renewDueCertificates_101 (by decide) ?_
          exact ih_16 (t + 1) (c2 + 1) (upd i_ k_ (nI (ix (i_ (ix (q_ t)))))) (upd s_ k_ (s_ (ix (q_ t)))) (upd f_ k_ dy) (upd l_ k_ (l_ (ix (q_ t)))) (upd o_ k_ (offD (seedN d_) (l_ (ix (q_ t))))) (upd (upd r_ k_ (-1)) (ix (q_ t)) (nI k_)) (k_ + 1) (seedN d_) _ _ ls (by omega) (by omega) (by rw [rnC, ← hX, rnOne]; exact (if_pos c_64).symm) (by omega) (by have := c_64.1; omega) (certOK_mk hok2 (by rw [ix_nI (by omega)]) (by rw [ix_nI (by omega)]; exact hix) (hok2 _ (by omega)).2.2) hP hD hS (lv_sub hl [0, 1, 5, 6] rfl)
  exact L_16 ((z - 0) + 1) 0 0 iss sb fst len off ren kc sd _ _ ls (Nat.lt_succ_self _) (by omega) rfl (Nat.le_refl _) (by omega) hok hP hD hS (lv_sub hl [0, 1, 2, 3] rfl)
