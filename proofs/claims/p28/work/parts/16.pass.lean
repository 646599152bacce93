theorem pd_ok {d : Int32} (h1 : ¬ d < 1) (h2 : d ≤ 100) : d = nI (ix d) ∧ ix d ≤ 100 := by
  have h0 : ¬ d < 0 := fun h => h1 (Int32.lt_trans h (by decide))
  have e := k_ix h0
  refine ⟨e, ?_⟩
  rw [e] at h2
  exact k_leN (b := 100) (ix_lt h0) (by omega) h2
/-- t days pass: the certificates, the queue's row, the day; and how many came -/
def psC (fs ss fd ed lm dd : Nat → Int32) (n : Nat) (pins : Nat → Int32) (X : CS) (que : Nat → Int32) (dy : Int32) : Nat → (CS × (Nat → Int32) × Int32) × Int32
  | 0 => ((X, que, dy), 0)
  | t + 1 =>
    ((( rnE fs ss fd ed lm dd n pins (psC fs ss fd ed lm dd n pins X que dy t).1.2.1 ((psC fs ss fd ed lm dd n pins X que dy t).1.2.2 + 1) (psC fs ss fd ed lm dd n pins X que dy t).1.1).1,
      fqQ (cF (psC fs ss fd ed lm dd n pins X que dy t).1.1) (cL (psC fs ss fd ed lm dd n pins X que dy t).1.1) (cO (psC fs ss fd ed lm dd n pins X que dy t).1.1) (cR (psC fs ss fd ed lm dd n pins X que dy t).1.1) ((psC fs ss fd ed lm dd n pins X que dy t).1.2.2 + 1) (psC fs ss fd ed lm dd n pins X que dy t).1.2.1 (cK (psC fs ss fd ed lm dd n pins X que dy t).1.1),
      (psC fs ss fd ed lm dd n pins X que dy t).1.2.2 + 1),
     (psC fs ss fd ed lm dd n pins X que dy t).2 + nI (rnE fs ss fd ed lm dd n pins (psC fs ss fd ed lm dd n pins X que dy t).1.2.1 ((psC fs ss fd ed lm dd n pins X que dy t).1.2.2 + 1) (psC fs ss fd ed lm dd n pins X que dy t).1.1).2)
set_option maxHeartbeats 4000000 in
set_option maxRecDepth 100000 in
theorem c_X2_pass (l : Launch) (D : va_G) (cy : ClassId × ClassId × ClassId) (hfl : l.stackTraces = false) (h pn a0 a1 a2 a3 a4 a5 a6 a7 a8 b0 b1 b2 b3 b4 b5 b6 b7 : Nat) (fs ss fd ed lm dd ce cw : Nat → Int32) (n : Nat) (iss sb fst len off ren que : Nat → Int32) (kc : Nat) (pins : Nat → Int32) (sd dy : Int32) (ds_ : Int32) (hn : n ≤ 8) (hc : kc ≤ 60) (hok : certOK n iss len kc) : kXI l D cy yX2_pass wsX2_pass (krx 6 115) [.ref h, .int ds_] (wH cy h pn a0 a1 a2 a3 a4 a5 a6 a7 a8 b0 b1 b2 b3 b4 b5 b6 b7 fs ss fd ed lm dd ce cw n iss sb fst len off ren que kc pins sd dy) (fun (r : Int32) (u : Unit) => r = (psC fs ss fd ed lm dd n pins (iss, sb, fst, len, off, ren, kc, sd) que dy (ix ds_)).2 ∧ cdPass dy ds_ = 0) (fun _ : Unit => wH cy h pn a0 a1 a2 a3 a4 a5 a6 a7 a8 b0 b1 b2 b3 b4 b5 b6 b7 fs ss fd ed lm dd ce cw n (cI (psC fs ss fd ed lm dd n pins (iss, sb, fst, len, off, ren, kc, sd) que dy (ix ds_)).1.1) (cS (psC fs ss fd ed lm dd n pins (iss, sb, fst, len, off, ren, kc, sd) que dy (ix ds_)).1.1) (cF (psC fs ss fd ed lm dd n pins (iss, sb, fst, len, off, ren, kc, sd) que dy (ix ds_)).1.1) (cL (psC fs ss fd ed lm dd n pins (iss, sb, fst, len, off, ren, kc, sd) que dy (ix ds_)).1.1) (cO (psC fs ss fd ed lm dd n pins (iss, sb, fst, len, off, ren, kc, sd) que dy (ix ds_)).1.1) (cR (psC fs ss fd ed lm dd n pins (iss, sb, fst, len, off, ren, kc, sd) que dy (ix ds_)).1.1) ((psC fs ss fd ed lm dd n pins (iss, sb, fst, len, off, ren, kc, sd) que dy (ix ds_)).1.2.1) (cK (psC fs ss fd ed lm dd n pins (iss, sb, fst, len, off, ren, kc, sd) que dy (ix ds_)).1.1) pins (cD (psC fs ss fd ed lm dd n pins (iss, sb, fst, len, off, ren, kc, sd) que dy (ix ds_)).1.1) ((psC fs ss fd ed lm dd n pins (iss, sb, fst, len, off, ren, kc, sd) que dy (ix ds_)).1.2.2)) (fun E => xkB E (cdPass dy ds_)) (wH cy h pn a0 a1 a2 a3 a4 a5 a6 a7 a8 b0 b1 b2 b3 b4 b5 b6 b7 fs ss fd ed lm dd ce cw n iss sb fst len off ren que kc pins sd dy) := by
  refine kXI.of (cc := cX2_pass) (maxL := 4) (rt := .int) (Or.inl rfl) hfl (by decide) rfl rfl (Nat.le_of_ble_eq_true rfl) (Nat.le_of_ble_eq_true rfl) (Nat.le_of_ble_eq_true rfl) ?_
  intro p e s m args below meth c Q A ls hx hb hml hown hts hE hA hP hD hl hZ hret hthrow hout
  have hS : va_S A s.heap s.heap [] := va_S.rf
  have hl : lv_has ls 4 [(0, .ref h), (1, .int ds_)] := hl
  have g_X2 : ∀ w ∈ wsX20, w ∈ wsX2_pass := by decide +kernel
  have f_31 := hts (.fieldLink RX2 31 "CertHerd" "dayNow" "I") (by decide +kernel)
  have hw_45 : ∀ w ∈ Cond.classLink RX2 41 xIA :: Cond.initialized xIA :: (vx_atS RX2 45 xIA kNms).filter goodWord, w ∈ wsX2_pass := by decide +kernel
  have hw_58 : ∀ w ∈ Cond.classLink RX2 54 xIS :: Cond.initialized xIS :: (vx_atS RX2 58 xIS kNms).filter goodWord, w ∈ wsX2_pass := by decide +kernel
  refine lv_iload_n hx hb dX2_pass_0 rfl (lv_at hl 1 rfl) ?_
  refine lv_iconst (v := 1) hx hb dX2_pass_1 (by decide) ?_
  refine lv_icmp_lt (tgt := 11) hx hb dX2_pass_2 (by decide) (fun c_2 => ?_) (fun c_2 => ?_)
  · exact hthrow _ _ _ ls [] xIA "days out of range" 41 99 45 hS (by rw [hml]; exact hl.1) (by decide) (by decide) hw_45 dX2_pass_11 dX2_pass_14 dX2_pass_15 dX2_pass_17 dX2_pass_20 (by decide) (Nat.le_of_ble_eq_true rfl) (Or.inl ⟨rfl, by simp [cdPass, c_2]⟩) hP
  · refine lv_iload_n hx hb dX2_pass_5 rfl (lv_at hl 1 rfl) ?_
    refine lv_bipush (v := 100) hx hb dX2_pass_6 (by decide) ?_
    refine lv_icmp_le (tgt := 21) hx hb dX2_pass_8 (by decide) (fun c_8 => ?_) (fun c_8 => ?_)
    · refine lv_aload_n hx hb dX2_pass_21 rfl (lv_at hl 0 rfl) ?_
      refine va_get (D := D) (ci := 2) (v := .int dy) (C := RX2) (T := TX2) (N := 5) hx hb hts g_X2 hown hE.1 hP 0 rfl rfl 4 (by decide) f_31 (fun _ h9 => h9) rfl dX2_pass_22 ?_
      refine lv_iload_n hx hb dX2_pass_25 rfl (lv_at hl 1 rfl) ?_
      refine lv_iadd hx hb dX2_pass_26 ?_
      refine lv_sipush (v := 3000) hx hb dX2_pass_27 (by decide) ?_
      refine lv_icmp_le (tgt := 43) hx hb dX2_pass_30 (by decide) (fun c_30 => ?_) (fun c_30 => ?_)
      · have hpd := pd_ok c_2 c_8
        refine lv_iconst (v := 0) hx hb dX2_pass_43 (by decide) ?_
        refine lv_istore_n (lv' := [(2, .int 0), (0, .ref h), (1, .int ds_)]) hx hb dX2_pass_44 rfl hl (by decide) rfl (fun ls hl => ?_)
        refine lv_iconst (v := 0) hx hb dX2_pass_45 (by decide) ?_
        refine lv_istore_n (lv' := [(3, .int 0), (2, .int 0), (0, .ref h), (1, .int ds_)]) hx hb dX2_pass_46 rfl hl (by decide) rfl (fun ls hl => ?_)
        have L_47 : ∀ (f : Nat) (t : Nat) (g : Int32) (i_ : Nat → Int32) (s_ : Nat → Int32) (f_ : Nat → Int32) (l_ : Nat → Int32) (o_ : Nat → Int32) (r_ : Nat → Int32) (k_ : Nat) (d_ : Int32) (q_ : Nat → Int32) (y_ : Int32) (H : Heap) (locs : List Loc) (ls : Array Slot), ((ix ds_ - t) < f) → (t ≤ ix ds_) → ((((i_, s_, f_, l_, o_, r_, k_, d_), q_, y_), g) = psC fs ss fd ed lm dd n pins (iss, sb, fst, len, off, ren, kc, sd) que dy t) → (k_ ≤ 60) → (certOK n i_ l_ k_) → va_P D vwCl (wH cy h pn a0 a1 a2 a3 a4 a5 a6 a7 a8 b0 b1 b2 b3 b4 b5 b6 b7 fs ss fd ed lm dd ce cw n i_ s_ f_ l_ o_ r_ q_ k_ pins d_ y_) H → va_D A (wH cy h pn a0 a1 a2 a3 a4 a5 a6 a7 a8 b0 b1 b2 b3 b4 b5 b6 b7 fs ss fd ed lm dd ce cw n i_ s_ f_ l_ o_ r_ q_ k_ pins d_ y_) → va_S A s.heap H locs → lv_has ls 4 [(3, .int (nI t)), (2, .int g), (0, .ref h), (1, .int ds_)] → W p l e (krx 6 115) s m args below meth c H locs 0 0 Q (F0 m 47 ls []) := by
          intro f
          induction f with
          | zero => intro t g i_ s_ f_ l_ o_ r_ k_ d_ q_ y_ H locs ls hf; exact absurd hf (Nat.not_lt_zero _)
          | succ f ih_47 =>
            intro t g i_ s_ f_ l_ o_ r_ k_ d_ q_ y_ H locs ls hf ht hX hk2 hok2 hP hD hS hl
            refine lv_iload_n hx hb dX2_pass_47 rfl (lv_at hl 0 rfl) ?_
            refine lv_iload_n hx hb dX2_pass_48 rfl (lv_at hl 3 rfl) ?_
            refine k_top (z := nI (ix ds_)) hpd.1 ?_
            refine lv_icmp_ge (tgt := 75) hx hb dX2_pass_49 (by decide) (fun c_49 => ?_) (fun c_49 => ?_)
            · have c_49n : (ix ds_) ≤ t := k_leN (a := (ix ds_)) (b := t) (by omega) (by omega) c_49
              have hE9 : psC fs ss fd ed lm dd n pins (iss, sb, fst, len, off, ren, kc, sd) que dy (ix ds_) = (((i_, s_, f_, l_, o_, r_, k_, d_), q_, y_), g) := by
                have e9 : t = ix ds_ := (by omega)
                rw [← e9]; exact hX.symm
              refine lv_iload_n hx hb dX2_pass_75 rfl (lv_at hl 1 rfl) ?_
              have w_iss : i_ = cI (psC fs ss fd ed lm dd n pins (iss, sb, fst, len, off, ren, kc, sd) que dy (ix ds_)).1.1 := (by rw [hE9])
              have w_sb : s_ = cS (psC fs ss fd ed lm dd n pins (iss, sb, fst, len, off, ren, kc, sd) que dy (ix ds_)).1.1 := (by rw [hE9])
              have w_fst : f_ = cF (psC fs ss fd ed lm dd n pins (iss, sb, fst, len, off, ren, kc, sd) que dy (ix ds_)).1.1 := (by rw [hE9])
              have w_len : l_ = cL (psC fs ss fd ed lm dd n pins (iss, sb, fst, len, off, ren, kc, sd) que dy (ix ds_)).1.1 := (by rw [hE9])
              have w_off : o_ = cO (psC fs ss fd ed lm dd n pins (iss, sb, fst, len, off, ren, kc, sd) que dy (ix ds_)).1.1 := (by rw [hE9])
              have w_ren : r_ = cR (psC fs ss fd ed lm dd n pins (iss, sb, fst, len, off, ren, kc, sd) que dy (ix ds_)).1.1 := (by rw [hE9])
              have w_que : q_ = (psC fs ss fd ed lm dd n pins (iss, sb, fst, len, off, ren, kc, sd) que dy (ix ds_)).1.2.1 := (by rw [hE9])
              have w_kc : k_ = cK (psC fs ss fd ed lm dd n pins (iss, sb, fst, len, off, ren, kc, sd) que dy (ix ds_)).1.1 := (by rw [hE9])
              have w_sd : d_ = cD (psC fs ss fd ed lm dd n pins (iss, sb, fst, len, off, ren, kc, sd) que dy (ix ds_)).1.1 := (by rw [hE9])
              have w_dy : y_ = (psC fs ss fd ed lm dd n pins (iss, sb, fst, len, off, ren, kc, sd) que dy (ix ds_)).1.2.2 := (by rw [hE9])
              exact hret _ _ _ _ g () dX2_pass_76 (Or.inl rfl) (⟨by rw [hE9], by simp [cdPass, c_2, c_8, c_30, c_49]⟩) (by show va_P D vwCl (wH cy h pn a0 a1 a2 a3 a4 a5 a6 a7 a8 b0 b1 b2 b3 b4 b5 b6 b7 fs ss fd ed lm dd ce cw n (cI (psC fs ss fd ed lm dd n pins (iss, sb, fst, len, off, ren, kc, sd) que dy (ix ds_)).1.1) (cS (psC fs ss fd ed lm dd n pins (iss, sb, fst, len, off, ren, kc, sd) que dy (ix ds_)).1.1) (cF (psC fs ss fd ed lm dd n pins (iss, sb, fst, len, off, ren, kc, sd) que dy (ix ds_)).1.1) (cL (psC fs ss fd ed lm dd n pins (iss, sb, fst, len, off, ren, kc, sd) que dy (ix ds_)).1.1) (cO (psC fs ss fd ed lm dd n pins (iss, sb, fst, len, off, ren, kc, sd) que dy (ix ds_)).1.1) (cR (psC fs ss fd ed lm dd n pins (iss, sb, fst, len, off, ren, kc, sd) que dy (ix ds_)).1.1) ((psC fs ss fd ed lm dd n pins (iss, sb, fst, len, off, ren, kc, sd) que dy (ix ds_)).1.2.1) (cK (psC fs ss fd ed lm dd n pins (iss, sb, fst, len, off, ren, kc, sd) que dy (ix ds_)).1.1) pins (cD (psC fs ss fd ed lm dd n pins (iss, sb, fst, len, off, ren, kc, sd) que dy (ix ds_)).1.1) ((psC fs ss fd ed lm dd n pins (iss, sb, fst, len, off, ren, kc, sd) que dy (ix ds_)).1.2.2)) _; rw [← w_iss, ← w_sb, ← w_fst, ← w_len, ← w_off, ← w_ren, ← w_que, ← w_kc, ← w_sd, ← w_dy]; exact hP) hS
            · have c_49n : ¬ (ix ds_) ≤ t := k_nleN (a := (ix ds_)) (b := t) (by omega) (by omega) c_49
              refine lv_aload_n hx hb dX2_pass_52 rfl (lv_at hl 2 rfl) ?_
              refine lv_dup hx hb dX2_pass_53 rfl ?_
              refine va_get (D := D) (ci := 2) (v := .int y_) (C := RX2) (T := TX2) (N := 5) hx hb hts g_X2 hown hE.1 hP 0 rfl rfl 4 (by decide) f_31 (fun _ h9 => h9) rfl dX2_pass_54 ?_
              refine lv_iconst (v := 1) hx hb dX2_pass_57 (by decide) ?_
              refine lv_iadd hx hb dX2_pass_58 ?_
              refine va_put (D := D) (ci := 2) (v := .int (y_ + 1)) (ty := .int) (C := RX2) (T := TX2) (N := 5) hx hb hts g_X2 tyX2 tyX2_ok nmX2 hown hE.1 hP hD hS 0 rfl rfl 4 (by decide) f_31 (fun _ h9 => h9) rfl (by decide +kernel) rfl rfl (Nat.le_of_ble_eq_true rfl) dX2_pass_59 (fun H locs hP hD hS => ?_)
              have hP : va_P D vwCl (wH cy h pn a0 a1 a2 a3 a4 a5 a6 a7 a8 b0 b1 b2 b3 b4 b5 b6 b7 fs ss fd ed lm dd ce cw n i_ s_ f_ l_ o_ r_ q_ k_ pins d_ (y_ + 1)) H := hP
              have hD : va_D A (wH cy h pn a0 a1 a2 a3 a4 a5 a6 a7 a8 b0 b1 b2 b3 b4 b5 b6 b7 fs ss fd ed lm dd ce cw n i_ s_ f_ l_ o_ r_ q_ k_ pins d_ (y_ + 1)) := hD
              refine lv_iload_n hx hb dX2_pass_62 rfl (lv_at hl 1 rfl) ?_
              refine lv_aload_n hx hb dX2_pass_63 rfl (lv_at hl 2 rfl) ?_
              refine kcW_i (n := 0) (wc := wH cy h pn a0 a1 a2 a3 a4 a5 a6 a7 a8 b0 b1 b2 b3 b4 b5 b6 b7 fs ss fd ed lm dd ce cw n i_ s_ f_ l_ o_ r_ q_ k_ pins d_ (y_ + 1)) (As := []) (rest := [.int g]) ⟨hx, hb, hml, hown, hts⟩ hE hA hP hD hS (c_X2_renewDueCertificates l D cy h pn a0 a1 a2 a3 a4 a5 a6 a7 a8 b0 b1 b2 b3 b4 b5 b6 b7 fs ss fd ed lm dd ce cw n i_ s_ f_ l_ o_ r_ q_ k_ pins d_ (y_ + 1) (by first | assumption | omega) (by first | assumption | omega) (by first | assumption | omega)) (fun _ => Eq.trans (b := [h, a0, a1, a2, a3, a4, a5, a6, a7, a8, b0, b1, b2, b3, b4, b5, b6, b7, pn]) rfl rfl) (q0 := 0) (ci := 2) rfl rfl gX2_pass_X2_renewDueCertificates rfl rfl rfl ⟨rfl, by decide, by decide, by decide +kernel⟩ ⟨Nat.le_of_ble_eq_true rfl, Nat.le_of_ble_eq_true rfl⟩ rfl hl.1 rfl (Nat.le_of_ble_eq_true rfl) dX2_pass_64 ⟨Nat.zero_le _, Nat.zero_le _⟩ (fun r_1 u H locs e_2 hP hD hS => ?_)
              have hP : va_P D vwCl (wH cy h pn a0 a1 a2 a3 a4 a5 a6 a7 a8 b0 b1 b2 b3 b4 b5 b6 b7 fs ss fd ed lm dd ce cw n (cI (rnE fs ss fd ed lm dd n pins q_ (y_ + 1) (i_, s_, f_, l_, o_, r_, k_, d_)).1) (cS (rnE fs ss fd ed lm dd n pins q_ (y_ + 1) (i_, s_, f_, l_, o_, r_, k_, d_)).1) (cF (rnE fs ss fd ed lm dd n pins q_ (y_ + 1) (i_, s_, f_, l_, o_, r_, k_, d_)).1) (cL (rnE fs ss fd ed lm dd n pins q_ (y_ + 1) (i_, s_, f_, l_, o_, r_, k_, d_)).1) (cO (rnE fs ss fd ed lm dd n pins q_ (y_ + 1) (i_, s_, f_, l_, o_, r_, k_, d_)).1) (cR (rnE fs ss fd ed lm dd n pins q_ (y_ + 1) (i_, s_, f_, l_, o_, r_, k_, d_)).1) (fqQ f_ l_ o_ r_ (y_ + 1) q_ k_) (cK (rnE fs ss fd ed lm dd n pins q_ (y_ + 1) (i_, s_, f_, l_, o_, r_, k_, d_)).1) pins (cD (rnE fs ss fd ed lm dd n pins q_ (y_ + 1) (i_, s_, f_, l_, o_, r_, k_, d_)).1) (y_ + 1)) H := hP
              have hD : va_D A (wH cy h pn a0 a1 a2 a3 a4 a5 a6 a7 a8 b0 b1 b2 b3 b4 b5 b6 b7 fs ss fd ed lm dd ce cw n (cI (rnE fs ss fd ed lm dd n pins q_ (y_ + 1) (i_, s_, f_, l_, o_, r_, k_, d_)).1) (cS (rnE fs ss fd ed lm dd n pins q_ (y_ + 1) (i_, s_, f_, l_, o_, r_, k_, d_)).1) (cF (rnE fs ss fd ed lm dd n pins q_ (y_ + 1) (i_, s_, f_, l_, o_, r_, k_, d_)).1) (cL (rnE fs ss fd ed lm dd n pins q_ (y_ + 1) (i_, s_, f_, l_, o_, r_, k_, d_)).1) (cO (rnE fs ss fd ed lm dd n pins q_ (y_ + 1) (i_, s_, f_, l_, o_, r_, k_, d_)).1) (cR (rnE fs ss fd ed lm dd n pins q_ (y_ + 1) (i_, s_, f_, l_, o_, r_, k_, d_)).1) (fqQ f_ l_ o_ r_ (y_ + 1) q_ k_) (cK (rnE fs ss fd ed lm dd n pins q_ (y_ + 1) (i_, s_, f_, l_, o_, r_, k_, d_)).1) pins (cD (rnE fs ss fd ed lm dd n pins q_ (y_ + 1) (i_, s_, f_, l_, o_, r_, k_, d_)).1) (y_ + 1)) := hD
              have e_2 : r_1 = nI (rnE fs ss fd ed lm dd n pins q_ (y_ + 1) (i_, s_, f_, l_, o_, r_, k_, d_)).2 := e_2
              subst e_2
              refine lv_iadd hx hb dX2_pass_67 ?_
              refine lv_istore_n (lv' := [(2, .int (g + (nI (rnE fs ss fd ed lm dd n pins q_ (y_ + 1) (i_, s_, f_, l_, o_, r_, k_, d_)).2))), (3, .int (nI t)), (0, .ref h), (1, .int ds_)]) hx hb dX2_pass_68 rfl hl (by decide) rfl (fun ls hl => ?_)
              refine lv_iinc (v := (nI (t + 1))) (lv' := [(3, .int (nI (t + 1))), (2, .int (g + (nI (rnE fs ss fd ed lm dd n pins q_ (y_ + 1) (i_, s_, f_, l_, o_, r_, k_, d_)).2))), (0, .ref h), (1, .int ds_)]) hx hb dX2_pass_69 hl (k := 1) rfl (k_inc _) (by decide) rfl (fun ls hl => ?_)
              refine lv_goto (tgt := 47) hx hb dX2_pass_72 (by decide) ?_
              exact ih_47 (t + 1) (g + (nI (rnE fs ss fd ed lm dd n pins q_ (y_ + 1) (i_, s_, f_, l_, o_, r_, k_, d_)).2)) (cI (rnE fs ss fd ed lm dd n pins q_ (y_ + 1) (i_, s_, f_, l_, o_, r_, k_, d_)).1) (cS (rnE fs ss fd ed lm dd n pins q_ (y_ + 1) (i_, s_, f_, l_, o_, r_, k_, d_)).1) (cF (rnE fs ss fd ed lm dd n pins q_ (y_ + 1) (i_, s_, f_, l_, o_, r_, k_, d_)).1) (cL (rnE fs ss fd ed lm dd n pins q_ (y_ + 1) (i_, s_, f_, l_, o_, r_, k_, d_)).1) (cO (rnE fs ss fd ed lm dd n pins q_ (y_ + 1) (i_, s_, f_, l_, o_, r_, k_, d_)).1) (cR (rnE fs ss fd ed lm dd n pins q_ (y_ + 1) (i_, s_, f_, l_, o_, r_, k_, d_)).1) (cK (rnE fs ss fd ed lm dd n pins q_ (y_ + 1) (i_, s_, f_, l_, o_, r_, k_, d_)).1) (cD (rnE fs ss fd ed lm dd n pins q_ (y_ + 1) (i_, s_, f_, l_, o_, r_, k_, d_)).1) (fqQ f_ l_ o_ r_ (y_ + 1) q_ k_) (y_ + 1) _ _ ls (by omega) (by omega) (by rw [psC, ← hX]) (rnE_ok (X := (i_, s_, f_, l_, o_, r_, k_, d_)) (by omega) hok2 hk2).2.1 (rnE_ok (X := (i_, s_, f_, l_, o_, r_, k_, d_)) (by omega) hok2 hk2).1 hP hD hS (lv_sub hl [0, 1, 2, 3] rfl)
        exact L_47 ((ix ds_ - 0) + 1) 0 0 iss sb fst len off ren kc sd que dy _ _ ls (Nat.lt_succ_self _) (by omega) rfl (by omega) hok hP hD hS (lv_sub hl [0, 1, 2, 3] rfl)
      · exact hthrow _ _ _ ls [] xIS "today would be too late" 54 101 58 hS (by rw [hml]; exact hl.1) (by decide) (by decide) hw_58 dX2_pass_33 dX2_pass_36 dX2_pass_37 dX2_pass_39 dX2_pass_42 (by decide) (Nat.le_of_ble_eq_true rfl) (Or.inr (⟨rfl, by simp [cdPass, c_2, c_8, c_30]⟩)) hP
    · exact hthrow _ _ _ ls [] xIA "days out of range" 41 99 45 hS (by rw [hml]; exact hl.1) (by decide) (by decide) hw_45 dX2_pass_11 dX2_pass_14 dX2_pass_15 dX2_pass_17 dX2_pass_20 (by decide) (Nat.le_of_ble_eq_true rfl) (Or.inl ⟨rfl, by simp [cdPass, c_2, c_8]⟩) hP
