set_option maxHeartbeats 4000000 in
set_option maxRecDepth 100000 in
theorem c_X3_day (l : Launch) (D : va_G) (cy : ClassId × ClassId × ClassId) (m0 m1 m2 m3 m4 m5 m6 m7 m8 m9 m10 m11 m12 m13 m14 m15 m16 m17 : Nat) (th td sed : Int32) (mi : Nat) (fr to lim f1 f2 dis pin ag en cm : Nat → Int32) (mc : Nat) (su isu fir lgt ofs rn wsn : Nat → Int32) (hm : mi ≤ 8) (hc : mc ≤ 60) (h1 : ∀ i, i < mi → sgP f1 i) (h2 : ∀ i, i < mi → sgP f2 i) (hok : certOK mi isu lgt mc) : kI l D cy yX3_day wsX3_day (krm 3 73) [.ref m0] (wM cy m0 m1 m2 m3 m4 m5 m6 m7 m8 m9 m10 m11 m12 m13 m14 m15 m16 m17 th td sed mi fr to lim f1 f2 dis pin ag en cm mc su isu fir lgt ofs rn wsn) (fun (r : Int32) (u : (Nat → Int32) × (Nat → Int32)) => r = nI (dyE f1 f2 fr to lim dis pin (td + 1) (isu, su, fir, lgt, ofs, rn, mc, sed)).2) (fun u : (Nat → Int32) × (Nat → Int32) => wM cy m0 m1 m2 m3 m4 m5 m6 m7 m8 m9 m10 m11 m12 m13 m14 m15 m16 m17 th (td + 1) (cD (dyE f1 f2 fr to lim dis pin (td + 1) (isu, su, fir, lgt, ofs, rn, mc, sed)).1) mi fr to lim f1 f2 dis pin u.1 en cm (cK (dyE f1 f2 fr to lim dis pin (td + 1) (isu, su, fir, lgt, ofs, rn, mc, sed)).1) (cS (dyE f1 f2 fr to lim dis pin (td + 1) (isu, su, fir, lgt, ofs, rn, mc, sed)).1) (cI (dyE f1 f2 fr to lim dis pin (td + 1) (isu, su, fir, lgt, ofs, rn, mc, sed)).1) (cF (dyE f1 f2 fr to lim dis pin (td + 1) (isu, su, fir, lgt, ofs, rn, mc, sed)).1) (cL (dyE f1 f2 fr to lim dis pin (td + 1) (isu, su, fir, lgt, ofs, rn, mc, sed)).1) (cO (dyE f1 f2 fr to lim dis pin (td + 1) (isu, su, fir, lgt, ofs, rn, mc, sed)).1) (cR (dyE f1 f2 fr to lim dis pin (td + 1) (isu, su, fir, lgt, ofs, rn, mc, sed)).1) u.2) := by
  refine kI.of (cc := cX3_day) (maxL := 4) (rt := .int) (Or.inl rfl) (by decide) rfl (Nat.le_of_ble_eq_true rfl) ?_
  intro p e s m args below meth c Q A ls hx hb hml hown hts hE hA hP hD hl hret
  have hS : va_S A s.heap s.heap [] := va_S.rf
  have hl : lv_has ls 4 [(0, .ref m0)] := hl
  have g_X3 : ∀ w ∈ wsX30, w ∈ wsX3_day := by decide +kernel
  have f_76 := hts (.fieldLink RX3 76 "CertHerdModel" "certMany" "I") (by decide +kernel)
  have f_96 := hts (.fieldLink RX3 96 "CertHerdModel" "today" "I") (by decide +kernel)
  have f_63 := hts (.fieldLink RX3 63 "CertHerdModel" "wasSeen" "[Z") (by decide +kernel)
  have f_48 := hts (.fieldLink RX3 48 "CertHerdModel" "issuers" "[I") (by decide +kernel)
  have f_45 := hts (.fieldLink RX3 45 "CertHerdModel" "subjects" "[I") (by decide +kernel)
  have f_60 := hts (.fieldLink RX3 60 "CertHerdModel" "renewals" "[I") (by decide +kernel)
  have f_54 := hts (.fieldLink RX3 54 "CertHerdModel" "lengths" "[I") (by decide +kernel)
  refine lv_iconst (v := 0) hx hb dX3_day_0 (by decide) ?_
  refine lv_istore_n (lv' := [(1, .int 0), (0, .ref m0)]) hx hb dX3_day_1 rfl hl (by decide) rfl (fun ls hl => ?_)
  refine lv_aload_n hx hb dX3_day_2 rfl (lv_at hl 1 rfl) ?_
  refine va_get (D := D) (ci := 3) (v := .int (nI mc)) (C := RX3) (T := TX3) (N := 22) hx hb hts g_X3 hown hE.1 hP 0 rfl rfl 14 (by decide) f_76 (fun _ h9 => h9) rfl dX3_day_3 ?_
  refine lv_istore_n (lv' := [(2, .int (nI mc)), (1, .int 0), (0, .ref m0)]) hx hb dX3_day_6 rfl hl (by decide) rfl (fun ls hl => ?_)
  refine lv_aload_n hx hb dX3_day_7 rfl (lv_at hl 2 rfl) ?_
  refine lv_dup hx hb dX3_day_8 rfl ?_
  refine va_get (D := D) (ci := 3) (v := .int td) (C := RX3) (T := TX3) (N := 22) hx hb hts g_X3 hown hE.1 hP 0 rfl rfl 1 (by decide) f_96 (fun _ h9 => h9) rfl dX3_day_9 ?_
  refine lv_iconst (v := 1) hx hb dX3_day_12 (by decide) ?_
  refine lv_iadd hx hb dX3_day_13 ?_
  refine va_put (D := D) (ci := 3) (v := .int (td + 1)) (ty := .int) (C := RX3) (T := TX3) (N := 22) hx hb hts g_X3 tyX3 tyX3_ok nmX3 hown hE.1 hP hD hS 0 rfl rfl 1 (by decide) f_96 (fun _ h9 => h9) rfl (by decide +kernel) rfl rfl (Nat.le_of_ble_eq_true rfl) dX3_day_14 (fun H locs hP hD hS => ?_)
  have hP : va_P D vwCl (wM cy m0 m1 m2 m3 m4 m5 m6 m7 m8 m9 m10 m11 m12 m13 m14 m15 m16 m17 th (td + 1) sed mi fr to lim f1 f2 dis pin ag en cm mc su isu fir lgt ofs rn wsn) H := hP
  have hD : va_D A (wM cy m0 m1 m2 m3 m4 m5 m6 m7 m8 m9 m10 m11 m12 m13 m14 m15 m16 m17 th (td + 1) sed mi fr to lim f1 f2 dis pin ag en cm mc su isu fir lgt ofs rn wsn) := hD
  refine lv_aload_n hx hb dX3_day_17 rfl (lv_at hl 2 rfl) ?_
  refine lv_iconst (v := 0) hx hb dX3_day_18 (by decide) ?_
  refine kcW_v (n := 1) (wc := wM cy m0 m1 m2 m3 m4 m5 m6 m7 m8 m9 m10 m11 m12 m13 m14 m15 m16 m17 th (td + 1) sed mi fr to lim f1 f2 dis pin ag en cm mc su isu fir lgt ofs rn wsn) (As := [.int 0]) (rest := []) ⟨hx, hb, hml, hown, hts⟩ hE hA hP hD hS (c_X3_sees l D cy m0 m1 m2 m3 m4 m5 m6 m7 m8 m9 m10 m11 m12 m13 m14 m15 m16 m17 th (td + 1) sed mi fr to lim f1 f2 dis pin ag en cm mc su isu fir lgt ofs rn wsn 0 (Or.inl rfl)) (fun _ => Eq.trans (b := [m0, m1, m2, m3, m4, m5, m6, m7, m8, m9, m10, m11, m12, m13, m14, m15, m16, m17]) rfl rfl) (q0 := 0) (ci := 3) rfl rfl gX3_day_X3_sees rfl rfl rfl ⟨rfl, by decide, by decide, by decide +kernel⟩ ⟨Nat.le_of_ble_eq_true rfl, Nat.le_of_ble_eq_true rfl⟩ rfl hl.1 rfl (Nat.le_of_ble_eq_true rfl) dX3_day_19 ⟨Nat.zero_le _, Nat.zero_le _⟩ (fun u H locs e_2 hP hD hS => ?_)
  have hP : va_P D vwCl (wM cy m0 m1 m2 m3 m4 m5 m6 m7 m8 m9 m10 m11 m12 m13 m14 m15 m16 m17 th (td + 1) sed mi fr to lim f1 f2 dis pin ag en cm mc su isu fir lgt ofs rn (seeN wsn 0 60)) H := hP
  have hD : va_D A (wM cy m0 m1 m2 m3 m4 m5 m6 m7 m8 m9 m10 m11 m12 m13 m14 m15 m16 m17 th (td + 1) sed mi fr to lim f1 f2 dis pin ag en cm mc su isu fir lgt ofs rn (seeN wsn 0 60)) := hD
  refine lv_aload_n hx hb dX3_day_22 rfl (lv_at hl 2 rfl) ?_
  refine lv_iload_n hx hb dX3_day_23 rfl (lv_at hl 0 rfl) ?_
  refine kcW_i (n := 1) (wc := wM cy m0 m1 m2 m3 m4 m5 m6 m7 m8 m9 m10 m11 m12 m13 m14 m15 m16 m17 th (td + 1) sed mi fr to lim f1 f2 dis pin ag en cm mc su isu fir lgt ofs rn (seeN wsn 0 60)) (As := [.int (nI mc)]) (rest := []) ⟨hx, hb, hml, hown, hts⟩ hE hA hP hD hS (c_X3_nextWaiting l D cy m0 m1 m2 m3 m4 m5 m6 m7 m8 m9 m10 m11 m12 m13 m14 m15 m16 m17 th (td + 1) sed mi fr to lim f1 f2 dis pin ag en cm mc su isu fir lgt ofs rn (seeN wsn 0 60) mc hc) (fun _ => rfl) (q0 := 0) (ci := 3) rfl rfl gX3_day_X3_nextWaiting rfl rfl rfl ⟨rfl, by decide, by decide, by decide +kernel⟩ ⟨Nat.le_of_ble_eq_true rfl, Nat.le_of_ble_eq_true rfl⟩ rfl hl.1 rfl (Nat.le_of_ble_eq_true rfl) dX3_day_24 ⟨Nat.zero_le _, Nat.zero_le _⟩ (fun r_3 u H locs e_4 hP hD hS => ?_)
  have hP : va_P D vwCl (wM cy m0 m1 m2 m3 m4 m5 m6 m7 m8 m9 m10 m11 m12 m13 m14 m15 m16 m17 th (td + 1) sed mi fr to lim f1 f2 dis pin ag en cm mc su isu fir lgt ofs rn (seeN wsn 0 60)) H := hP
  have hD : va_D A (wM cy m0 m1 m2 m3 m4 m5 m6 m7 m8 m9 m10 m11 m12 m13 m14 m15 m16 m17 th (td + 1) sed mi fr to lim f1 f2 dis pin ag en cm mc su isu fir lgt ofs rn (seeN wsn 0 60)) := hD
  have e_4 : r_3 = nwN fir lgt ofs rn (td + 1) (seeN wsn 0 60) mc := e_4
  subst e_4
  refine lv_istore_n (lv' := [(3, .int (nwN fir lgt ofs rn (td + 1) (seeN wsn 0 60) mc)), (2, .int (nI mc)), (1, .int 0), (0, .ref m0)]) hx hb dX3_day_27 rfl hl (by decide) rfl (fun ls hl => ?_)
  have L_28 : ∀ (f : Nat) (c2 : Nat) (g : Int32) (i_ : Nat → Int32) (s_ : Nat → Int32) (f_ : Nat → Int32) (l_ : Nat → Int32) (o_ : Nat → Int32) (r_ : Nat → Int32) (k_ : Nat) (d_ : Int32) (w_ : Nat → Int32) (g_ : Nat → Int32) (H : Heap) (locs : List Loc) (ls : Array Slot), ((ctU w_ mc) < f) → (g = nwN f_ l_ o_ r_ (td + 1) w_ mc) → (dyN f1 f2 fr to lim dis pin (td + 1) mc (ctU w_ mc) ((i_, s_, f_, l_, o_, r_, k_, d_), c2) w_ = dyE f1 f2 fr to lim dis pin (td + 1) (isu, su, fir, lgt, ofs, rn, mc, sed)) → (mc ≤ k_) → (k_ ≤ 60) → (certOK mi i_ l_ k_) → va_P D vwCl (wM cy m0 m1 m2 m3 m4 m5 m6 m7 m8 m9 m10 m11 m12 m13 m14 m15 m16 m17 th (td + 1) d_ mi fr to lim f1 f2 dis pin g_ en cm k_ s_ i_ f_ l_ o_ r_ w_) H → va_D A (wM cy m0 m1 m2 m3 m4 m5 m6 m7 m8 m9 m10 m11 m12 m13 m14 m15 m16 m17 th (td + 1) d_ mi fr to lim f1 f2 dis pin g_ en cm k_ s_ i_ f_ l_ o_ r_ w_) → va_S A s.heap H locs → lv_has ls 4 [(3, .int g), (2, .int (nI mc)), (1, .int (nI c2)), (0, .ref m0)] → W p l e (krm 3 73) s m args below meth c H locs 0 0 Q (F0 m 28 ls []) := by
    intro f
    induction f with
    | zero => intro c2 g i_ s_ f_ l_ o_ r_ k_ d_ w_ g_ H locs ls hf; exact absurd hf (Nat.not_lt_zero _)
    | succ f ih_28 =>
      intro c2 g i_ s_ f_ l_ o_ r_ k_ d_ w_ g_ H locs ls hf eg hDy hk1 hk2 hok2 hP hD hS hl
      refine lv_iload_n hx hb dX3_day_28 rfl (lv_at hl 0 rfl) ?_
      refine lv_iconst (v := (-1)) hx hb dX3_day_29 (by decide) ?_
      refine lv_icmp_eq (tgt := 99) hx hb dX3_day_30 (by decide) (fun c_30 => ?_) (fun c_30 => ?_)
      · have hE9 : dyE f1 f2 fr to lim dis pin (td + 1) (isu, su, fir, lgt, ofs, rn, mc, sed) = ((i_, s_, f_, l_, o_, r_, k_, d_), c2) := by rw [← hDy]; exact dyN_stop (by show nwN f_ l_ o_ r_ (td + 1) w_ mc = -1; rw [← eg]; exact c_30)
        refine lv_iload_n hx hb dX3_day_99 rfl (lv_at hl 2 rfl) ?_
        have w_sed : d_ = cD (dyE f1 f2 fr to lim dis pin (td + 1) (isu, su, fir, lgt, ofs, rn, mc, sed)).1 := (by rw [hE9])
        have w_mc : k_ = cK (dyE f1 f2 fr to lim dis pin (td + 1) (isu, su, fir, lgt, ofs, rn, mc, sed)).1 := (by rw [hE9])
        have w_su : s_ = cS (dyE f1 f2 fr to lim dis pin (td + 1) (isu, su, fir, lgt, ofs, rn, mc, sed)).1 := (by rw [hE9])
        have w_isu : i_ = cI (dyE f1 f2 fr to lim dis pin (td + 1) (isu, su, fir, lgt, ofs, rn, mc, sed)).1 := (by rw [hE9])
        have w_fir : f_ = cF (dyE f1 f2 fr to lim dis pin (td + 1) (isu, su, fir, lgt, ofs, rn, mc, sed)).1 := (by rw [hE9])
        have w_lgt : l_ = cL (dyE f1 f2 fr to lim dis pin (td + 1) (isu, su, fir, lgt, ofs, rn, mc, sed)).1 := (by rw [hE9])
        have w_ofs : o_ = cO (dyE f1 f2 fr to lim dis pin (td + 1) (isu, su, fir, lgt, ofs, rn, mc, sed)).1 := (by rw [hE9])
        have w_rn : r_ = cR (dyE f1 f2 fr to lim dis pin (td + 1) (isu, su, fir, lgt, ofs, rn, mc, sed)).1 := (by rw [hE9])
        exact hret _ _ _ _ (nI c2) (g_, w_) dX3_day_100 (Or.inl rfl) (by rw [hE9]) (by show va_P D vwCl (wM cy m0 m1 m2 m3 m4 m5 m6 m7 m8 m9 m10 m11 m12 m13 m14 m15 m16 m17 th (td + 1) (cD (dyE f1 f2 fr to lim dis pin (td + 1) (isu, su, fir, lgt, ofs, rn, mc, sed)).1) mi fr to lim f1 f2 dis pin g_ en cm (cK (dyE f1 f2 fr to lim dis pin (td + 1) (isu, su, fir, lgt, ofs, rn, mc, sed)).1) (cS (dyE f1 f2 fr to lim dis pin (td + 1) (isu, su, fir, lgt, ofs, rn, mc, sed)).1) (cI (dyE f1 f2 fr to lim dis pin (td + 1) (isu, su, fir, lgt, ofs, rn, mc, sed)).1) (cF (dyE f1 f2 fr to lim dis pin (td + 1) (isu, su, fir, lgt, ofs, rn, mc, sed)).1) (cL (dyE f1 f2 fr to lim dis pin (td + 1) (isu, su, fir, lgt, ofs, rn, mc, sed)).1) (cO (dyE f1 f2 fr to lim dis pin (td + 1) (isu, su, fir, lgt, ofs, rn, mc, sed)).1) (cR (dyE f1 f2 fr to lim dis pin (td + 1) (isu, su, fir, lgt, ofs, rn, mc, sed)).1) w_) _; rw [← w_sed, ← w_mc, ← w_su, ← w_isu, ← w_fir, ← w_lgt, ← w_ofs, ← w_rn]; exact hP) hS
      · obtain ⟨q1, q2⟩ := (show sgP (fun _ => g) mc by rw [eg]; exact nwN_ok f_ l_ o_ r_ (td + 1) w_ mc (by omega)).resolve_left c_30
        have q1 : g = nI (ix g) := q1
        have q2 : ix g < mc := q2
        have hw0 : w_ (ix g) = 0 := by rw [eg]; exact (nwN_un f_ l_ o_ r_ (td + 1) w_ mc (by omega) (by rw [← eg]; exact c_30)).1
        have hct := ctU_upd hw0 mc q2
        have hj9 := (hok2 _ (show ix g < k_ by omega)).2.1
        refine lv_aload_n hx hb dX3_day_33 rfl (lv_at hl 3 rfl) ?_
        refine va_get (D := D) (ci := 3) (v := .ref m17) (C := RX3) (T := TX3) (N := 22) hx hb hts g_X3 hown hE.1 hP 0 rfl rfl 21 (by decide) f_63 (fun _ h9 => h9) rfl dX3_day_34 ?_
        refine lv_iload_n hx hb dX3_day_37 rfl (lv_at hl 0 rfl) ?_
        refine k_top (z := nI (ix g)) q1 ?_
        refine lv_iconst (v := 1) hx hb dX3_day_38 (by decide) ?_
        refine k_zst hx hb hE.1 hP hD hS 17 1 rfl rfl (j := (ix g)) (Or.inr rfl) (by omega) (by decide) dX3_day_39 (fun H locs hP hD hS => ?_)
        have hP : va_P D vwCl (wM cy m0 m1 m2 m3 m4 m5 m6 m7 m8 m9 m10 m11 m12 m13 m14 m15 m16 m17 th (td + 1) d_ mi fr to lim f1 f2 dis pin g_ en cm k_ s_ i_ f_ l_ o_ r_ (upd w_ (ix g) 1)) H := hP
        have hD : va_D A (wM cy m0 m1 m2 m3 m4 m5 m6 m7 m8 m9 m10 m11 m12 m13 m14 m15 m16 m17 th (td + 1) d_ mi fr to lim f1 f2 dis pin g_ en cm k_ s_ i_ f_ l_ o_ r_ (upd w_ (ix g) 1)) := hD
        refine lv_aload_n hx hb dX3_day_40 rfl (lv_at hl 3 rfl) ?_
        refine lv_aload_n hx hb dX3_day_41 rfl (lv_at hl 3 rfl) ?_
        refine va_get (D := D) (ci := 3) (v := .ref m12) (C := RX3) (T := TX3) (N := 22) hx hb hts g_X3 hown hE.1 hP 0 rfl rfl 16 (by decide) f_48 (fun _ h9 => h9) rfl dX3_day_42 ?_
        refine lv_iload_n hx hb dX3_day_45 rfl (lv_at hl 0 rfl) ?_
        refine k_top (z := nI (ix g)) q1 ?_
        refine k_ild hx hb hE.1 hP 12 0 rfl rfl (j := (ix g)) (by omega) (by decide) dX3_day_46 ?_
        refine k_top (z := nI (ix (i_ (ix g)))) (hok2 _ (by omega)).1 ?_
        refine lv_aload_n hx hb dX3_day_47 rfl (lv_at hl 3 rfl) ?_
        refine va_get (D := D) (ci := 3) (v := .ref m11) (C := RX3) (T := TX3) (N := 22) hx hb hts g_X3 hown hE.1 hP 0 rfl rfl 15 (by decide) f_45 (fun _ h9 => h9) rfl dX3_day_48 ?_
        refine lv_iload_n hx hb dX3_day_51 rfl (lv_at hl 0 rfl) ?_
        refine k_top (z := nI (ix g)) q1 ?_
        refine k_ild hx hb hE.1 hP 11 0 rfl rfl (j := (ix g)) (by omega) (by decide) dX3_day_52 ?_
        refine kcW_i (n := 2) (wc := wM cy m0 m1 m2 m3 m4 m5 m6 m7 m8 m9 m10 m11 m12 m13 m14 m15 m16 m17 th (td + 1) d_ mi fr to lim f1 f2 dis pin g_ en cm k_ s_ i_ f_ l_ o_ r_ (upd w_ (ix g) 1)) (As := [.int (nI (ix (i_ (ix g)))), .int (s_ (ix g))]) (rest := []) ⟨hx, hb, hml, hown, hts⟩ hE hA hP hD hS (c_X3_canIssue l D cy m0 m1 m2 m3 m4 m5 m6 m7 m8 m9 m10 m11 m12 m13 m14 m15 m16 m17 th (td + 1) d_ mi fr to lim f1 f2 dis pin g_ en cm k_ s_ i_ f_ l_ o_ r_ (upd w_ (ix g) 1) (ix (i_ (ix g))) (s_ (ix g)) (by first | assumption | omega) hk2 (by first | assumption | omega) (by first | assumption | omega) (hok2 _ (by omega)).2.1) (fun _ => Eq.trans (b := [m0, m1, m2, m3, m4, m5, m6, m7, m8, m9, m10, m11, m12, m13, m14, m15, m16, m17]) rfl rfl) (q0 := 0) (ci := 3) rfl rfl gX3_day_X3_canIssue rfl rfl rfl ⟨rfl, by decide, by decide, by decide +kernel⟩ ⟨Nat.le_of_ble_eq_true rfl, Nat.le_of_ble_eq_true rfl⟩ rfl hl.1 rfl (Nat.le_of_ble_eq_true rfl) dX3_day_53 ⟨Nat.zero_le _, Nat.zero_le _⟩ (fun r_5 u H locs e_6 hP hD hS => ?_)
        obtain ⟨ag_7, rfl⟩ : ∃ z, z = u := ⟨_, rfl⟩
        have hP : va_P D vwCl (wM cy m0 m1 m2 m3 m4 m5 m6 m7 m8 m9 m10 m11 m12 m13 m14 m15 m16 m17 th (td + 1) d_ mi fr to lim f1 f2 dis pin ag_7 en cm k_ s_ i_ f_ l_ o_ r_ (upd w_ (ix g) 1)) H := hP
        have hD : va_D A (wM cy m0 m1 m2 m3 m4 m5 m6 m7 m8 m9 m10 m11 m12 m13 m14 m15 m16 m17 th (td + 1) d_ mi fr to lim f1 f2 dis pin ag_7 en cm k_ s_ i_ f_ l_ o_ r_ (upd w_ (ix g) 1)) := hD
        have e_6 : r_5 = bI (canM f1 f2 fr to lim dis i_ f_ k_ pin (td + 1) (ix (i_ (ix g))) (s_ (ix g)) 16) := e_6
        subst e_6
        refine k_ifeq (tgt := 90) hx hb dX3_day_56 (by decide) (fun c_56 => ?_) (fun c_56 => ?_)
        · refine lv_aload_n hx hb dX3_day_90 rfl (lv_at hl 3 rfl) ?_
          refine lv_iload_n hx hb dX3_day_91 rfl (lv_at hl 1 rfl) ?_
          refine kcW_i (n := 1) (wc := wM cy m0 m1 m2 m3 m4 m5 m6 m7 m8 m9 m10 m11 m12 m13 m14 m15 m16 m17 th (td + 1) d_ mi fr to lim f1 f2 dis pin ag_7 en cm k_ s_ i_ f_ l_ o_ r_ (upd w_ (ix g) 1)) (As := [.int (nI mc)]) (rest := []) ⟨hx, hb, hml, hown, hts⟩ hE hA hP hD hS (c_X3_nextWaiting l D cy m0 m1 m2 m3 m4 m5 m6 m7 m8 m9 m10 m11 m12 m13 m14 m15 m16 m17 th (td + 1) d_ mi fr to lim f1 f2 dis pin ag_7 en cm k_ s_ i_ f_ l_ o_ r_ (upd w_ (ix g) 1) mc hc) (fun _ => rfl) (q0 := 0) (ci := 3) rfl rfl gX3_day_X3_nextWaiting rfl rfl rfl ⟨rfl, by decide, by decide, by decide +kernel⟩ ⟨Nat.le_of_ble_eq_true rfl, Nat.le_of_ble_eq_true rfl⟩ rfl hl.1 rfl (Nat.le_of_ble_eq_true rfl) dX3_day_92 ⟨Nat.zero_le _, Nat.zero_le _⟩ (fun r_8 u H locs e_9 hP hD hS => ?_)
          have hP : va_P D vwCl (wM cy m0 m1 m2 m3 m4 m5 m6 m7 m8 m9 m10 m11 m12 m13 m14 m15 m16 m17 th (td + 1) d_ mi fr to lim f1 f2 dis pin ag_7 en cm k_ s_ i_ f_ l_ o_ r_ (upd w_ (ix g) 1)) H := hP
          have hD : va_D A (wM cy m0 m1 m2 m3 m4 m5 m6 m7 m8 m9 m10 m11 m12 m13 m14 m15 m16 m17 th (td + 1) d_ mi fr to lim f1 f2 dis pin ag_7 en cm k_ s_ i_ f_ l_ o_ r_ (upd w_ (ix g) 1)) := hD
          have e_9 : r_8 = nwN f_ l_ o_ r_ (td + 1) (upd w_ (ix g) 1) mc := e_9
          subst e_9
          refine lv_istore_n (lv' := [(3, .int (nwN f_ l_ o_ r_ (td + 1) (upd w_ (ix g) 1) mc)), (2, .int (nI mc)), (1, .int (nI c2)), (0, .ref m0)]) hx hb dX3_day_95 rfl hl (by decide) rfl (fun ls hl => ?_)
          refine lv_goto (tgt := 28) hx hb dX3_day_96 (by decide) ?_
          exact ih_28 c2 (nwN f_ l_ o_ r_ (td + 1) (upd w_ (ix g) 1) mc) i_ s_ f_ l_ o_ r_ k_ d_ (upd w_ (ix g) 1) ag_7 _ _ ls (by omega) rfl (by have e7 := dyN_step (fs := f1) (ss := f2) (fd := fr) (ed := to) (lm := lim) (dd := dis) (pin := pin) (td := td + 1) (had := mc) (Y := ((i_, s_, f_, l_, o_, r_, k_, d_), c2)) (w := w_) (by omega) (show ¬ nwN f_ l_ o_ r_ (td + 1) w_ mc = -1 by rw [← eg]; exact c_30); rw [show nwN (cF ((i_, s_, f_, l_, o_, r_, k_, d_), c2).1) (cL ((i_, s_, f_, l_, o_, r_, k_, d_), c2).1) (cO ((i_, s_, f_, l_, o_, r_, k_, d_), c2).1) (cR ((i_, s_, f_, l_, o_, r_, k_, d_), c2).1) (td + 1) w_ mc = g from eg.symm, dyOne, if_neg c_56] at e7; exact e7.symm.trans hDy) (by omega) hk2 hok2 hP hD hS (lv_sub hl [0, 1, 2, 3] rfl)
        · refine lv_aload_n hx hb dX3_day_59 rfl (lv_at hl 3 rfl) ?_
          refine va_get (D := D) (ci := 3) (v := .ref m16) (C := RX3) (T := TX3) (N := 22) hx hb hts g_X3 hown hE.1 hP 0 rfl rfl 20 (by decide) f_60 (fun _ h9 => h9) rfl dX3_day_60 ?_
          refine lv_iload_n hx hb dX3_day_63 rfl (lv_at hl 0 rfl) ?_
          refine k_top (z := nI (ix g)) q1 ?_
          refine lv_aload_n hx hb dX3_day_64 rfl (lv_at hl 3 rfl) ?_
          refine lv_aload_n hx hb dX3_day_65 rfl (lv_at hl 3 rfl) ?_
          refine va_get (D := D) (ci := 3) (v := .ref m12) (C := RX3) (T := TX3) (N := 22) hx hb hts g_X3 hown hE.1 hP 0 rfl rfl 16 (by decide) f_48 (fun _ h9 => h9) rfl dX3_day_66 ?_
          refine lv_iload_n hx hb dX3_day_69 rfl (lv_at hl 0 rfl) ?_
          refine k_top (z := nI (ix g)) q1 ?_
          refine k_ild hx hb hE.1 hP 12 0 rfl rfl (j := (ix g)) (by omega) (by decide) dX3_day_70 ?_
          refine k_top (z := nI (ix (i_ (ix g)))) (hok2 _ (by omega)).1 ?_
          refine lv_aload_n hx hb dX3_day_71 rfl (lv_at hl 3 rfl) ?_
          refine va_get (D := D) (ci := 3) (v := .ref m11) (C := RX3) (T := TX3) (N := 22) hx hb hts g_X3 hown hE.1 hP 0 rfl rfl 15 (by decide) f_45 (fun _ h9 => h9) rfl dX3_day_72 ?_
          refine lv_iload_n hx hb dX3_day_75 rfl (lv_at hl 0 rfl) ?_
          refine k_top (z := nI (ix g)) q1 ?_
          refine k_ild hx hb hE.1 hP 11 0 rfl rfl (j := (ix g)) (by omega) (by decide) dX3_day_76 ?_
          refine lv_aload_n hx hb dX3_day_77 rfl (lv_at hl 3 rfl) ?_
          refine va_get (D := D) (ci := 3) (v := .ref m14) (C := RX3) (T := TX3) (N := 22) hx hb hts g_X3 hown hE.1 hP 0 rfl rfl 18 (by decide) f_54 (fun _ h9 => h9) rfl dX3_day_78 ?_
          refine lv_iload_n hx hb dX3_day_81 rfl (lv_at hl 0 rfl) ?_
          refine k_top (z := nI (ix g)) q1 ?_
          refine k_ild hx hb hE.1 hP 14 0 rfl rfl (j := (ix g)) (by omega) (by decide) dX3_day_82 ?_
          refine kcW_i (n := 3) (wc := wM cy m0 m1 m2 m3 m4 m5 m6 m7 m8 m9 m10 m11 m12 m13 m14 m15 m16 m17 th (td + 1) d_ mi fr to lim f1 f2 dis pin ag_7 en cm k_ s_ i_ f_ l_ o_ r_ (upd w_ (ix g) 1)) (As := [.int (nI (ix (i_ (ix g)))), .int (s_ (ix g)), .int (l_ (ix g))]) (rest := [.int (nI (ix g)), .ref m16]) ⟨hx, hb, hml, hown, hts⟩ hE hA hP hD hS (c_X3_makes l D cy m0 m1 m2 m3 m4 m5 m6 m7 m8 m9 m10 m11 m12 m13 m14 m15 m16 m17 th (td + 1) d_ mi fr to lim f1 f2 dis pin ag_7 en cm k_ s_ i_ f_ l_ o_ r_ (upd w_ (ix g) 1) (nI (ix (i_ (ix g)))) (s_ (ix g)) (l_ (ix g)) (by have := c_56.1.2.2; omega) (hok2 _ (by omega)).2.2) (fun _ => Eq.trans (b := [m0, m1, m2, m3, m4, m5, m6, m7, m8, m9, m10, m11, m12, m13, m14, m15, m16, m17]) rfl rfl) (q0 := 0) (ci := 3) rfl rfl gX3_day_X3_makes rfl rfl rfl ⟨rfl, by decide, by decide, by decide +kernel⟩ ⟨Nat.le_of_ble_eq_true rfl, Nat.le_of_ble_eq_true rfl⟩ rfl hl.1 rfl (Nat.le_of_ble_eq_true rfl) dX3_day_83 ⟨Nat.zero_le _, Nat.zero_le _⟩ (fun r_10 u H locs e_11 hP hD hS => ?_)
          have hP : va_P D vwCl (wM cy m0 m1 m2 m3 m4 m5 m6 m7 m8 m9 m10 m11 m12 m13 m14 m15 m16 m17 th (td + 1) (seedN d_) mi fr to lim f1 f2 dis pin ag_7 en cm (k_ + 1) (upd s_ k_ (s_ (ix g))) (upd i_ k_ (nI (ix (i_ (ix g))))) (upd f_ k_ (td + 1)) (upd l_ k_ (l_ (ix g))) (upd o_ k_ (offD (seedN d_) (l_ (ix g)))) (upd r_ k_ (-1)) (upd w_ (ix g) 1)) H := hP
          have hD : va_D A (wM cy m0 m1 m2 m3 m4 m5 m6 m7 m8 m9 m10 m11 m12 m13 m14 m15 m16 m17 th (td + 1) (seedN d_) mi fr to lim f1 f2 dis pin ag_7 en cm (k_ + 1) (upd s_ k_ (s_ (ix g))) (upd i_ k_ (nI (ix (i_ (ix g))))) (upd f_ k_ (td + 1)) (upd l_ k_ (l_ (ix g))) (upd o_ k_ (offD (seedN d_) (l_ (ix g)))) (upd r_ k_ (-1)) (upd w_ (ix g) 1)) := hD
          have e_11 : r_10 = nI k_ := e_11
          subst e_11
          refine k_ist hx hb hE.1 hP hD hS 16 0 rfl rfl (j := (ix g)) (by omega) (by decide) dX3_day_86 (fun H locs hP hD hS => ?_)
          have hP : va_P D vwCl (wM cy m0 m1 m2 m3 m4 m5 m6 m7 m8 m9 m10 m11 m12 m13 m14 m15 m16 m17 th (td + 1) (seedN d_) mi fr to lim f1 f2 dis pin ag_7 en cm (k_ + 1) (upd s_ k_ (s_ (ix g))) (upd i_ k_ (nI (ix (i_ (ix g))))) (upd f_ k_ (td + 1)) (upd l_ k_ (l_ (ix g))) (upd o_ k_ (offD (seedN d_) (l_ (ix g)))) (upd (upd r_ k_ (-1)) (ix g) (nI k_)) (upd w_ (ix g) 1)) H := hP
          have hD : va_D A (wM cy m0 m1 m2 m3 m4 m5 m6 m7 m8 m9 m10 m11 m12 m13 m14 m15 m16 m17 th (td + 1) (seedN d_) mi fr to lim f1 f2 dis pin ag_7 en cm (k_ + 1) (upd s_ k_ (s_ (ix g))) (upd i_ k_ (nI (ix (i_ (ix g))))) (upd f_ k_ (td + 1)) (upd l_ k_ (l_ (ix g))) (upd o_ k_ (offD (seedN d_) (l_ (ix g)))) (upd (upd r_ k_ (-1)) (ix g) (nI k_)) (upd w_ (ix g) 1)) := hD
          refine lv_iinc (v := (nI (c2 + 1))) (lv' := [(1, .int (nI (c2 + 1))), (3, .int g), (2, .int (nI mc)), (0, .ref m0)]) hx hb dX3_day_87 hl (k := 2) rfl (k_inc _) (by decide) rfl (fun ls hl => ?_)
          refine lv_aload_n hx hb dX3_day_90 rfl (lv_at hl 3 rfl) ?_
          refine lv_iload_n hx hb dX3_day_91 rfl (lv_at hl 2 rfl) ?_
          refine kcW_i (n := 1) (wc := wM cy m0 m1 m2 m3 m4 m5 m6 m7 m8 m9 m10 m11 m12 m13 m14 m15 m16 m17 th (td + 1) (seedN d_) mi fr to lim f1 f2 dis pin ag_7 en cm (k_ + 1) (upd s_ k_ (s_ (ix g))) (upd i_ k_ (nI (ix (i_ (ix g))))) (upd f_ k_ (td + 1)) (upd l_ k_ (l_ (ix g))) (upd o_ k_ (offD (seedN d_) (l_ (ix g)))) (upd (upd r_ k_ (-1)) (ix g) (nI k_)) (upd w_ (ix g) 1)) (As := [.int (nI mc)]) (rest := []) ⟨hx, hb, hml, hown, hts⟩ hE hA hP hD hS (c_X3_nextWaiting l D cy m0 m1 m2 m3 m4 m5 m6 m7 m8 m9 m10 m11 m12 m13 m14 m15 m16 m17 th (td + 1) (seedN d_) mi fr to lim f1 f2 dis pin ag_7 en cm (k_ + 1) (upd s_ k_ (s_ (ix g))) (upd i_ k_ (nI (ix (i_ (ix g))))) (upd f_ k_ (td + 1)) (upd l_ k_ (l_ (ix g))) (upd o_ k_ (offD (seedN d_) (l_ (ix g)))) (upd (upd r_ k_ (-1)) (ix g) (nI k_)) (upd w_ (ix g) 1) mc hc) (fun _ => rfl) (q0 := 0) (ci := 3) rfl rfl gX3_day_X3_nextWaiting rfl rfl rfl ⟨rfl, by decide, by decide, by decide +kernel⟩ ⟨Nat.le_of_ble_eq_true rfl, Nat.le_of_ble_eq_true rfl⟩ rfl hl.1 rfl (Nat.le_of_ble_eq_true rfl) dX3_day_92 ⟨Nat.zero_le _, Nat.zero_le _⟩ (fun r_12 u H locs e_13 hP hD hS => ?_)
          have hP : va_P D vwCl (wM cy m0 m1 m2 m3 m4 m5 m6 m7 m8 m9 m10 m11 m12 m13 m14 m15 m16 m17 th (td + 1) (seedN d_) mi fr to lim f1 f2 dis pin ag_7 en cm (k_ + 1) (upd s_ k_ (s_ (ix g))) (upd i_ k_ (nI (ix (i_ (ix g))))) (upd f_ k_ (td + 1)) (upd l_ k_ (l_ (ix g))) (upd o_ k_ (offD (seedN d_) (l_ (ix g)))) (upd (upd r_ k_ (-1)) (ix g) (nI k_)) (upd w_ (ix g) 1)) H := hP
          have hD : va_D A (wM cy m0 m1 m2 m3 m4 m5 m6 m7 m8 m9 m10 m11 m12 m13 m14 m15 m16 m17 th (td + 1) (seedN d_) mi fr to lim f1 f2 dis pin ag_7 en cm (k_ + 1) (upd s_ k_ (s_ (ix g))) (upd i_ k_ (nI (ix (i_ (ix g))))) (upd f_ k_ (td + 1)) (upd l_ k_ (l_ (ix g))) (upd o_ k_ (offD (seedN d_) (l_ (ix g)))) (upd (upd r_ k_ (-1)) (ix g) (nI k_)) (upd w_ (ix g) 1)) := hD
          have e_13 : r_12 = nwN (upd f_ k_ (td + 1)) (upd l_ k_ (l_ (ix g))) (upd o_ k_ (offD (seedN d_) (l_ (ix g)))) (upd (upd r_ k_ (-1)) (ix g) (nI k_)) (td + 1) (upd w_ (ix g) 1) mc := e_13
          subst e_13
          refine lv_istore_n (lv' := [(3, .int (nwN (upd f_ k_ (td + 1)) (upd l_ k_ (l_ (ix g))) (upd o_ k_ (offD (seedN d_) (l_ (ix g)))) (upd (upd r_ k_ (-1)) (ix g) (nI k_)) (td + 1) (upd w_ (ix g) 1) mc)), (1, .int (nI (c2 + 1))), (2, .int (nI mc)), (0, .ref m0)]) hx hb dX3_day_95 rfl hl (by decide) rfl (fun ls hl => ?_)
          refine lv_goto (tgt := 28) hx hb dX3_day_96 (by decide) ?_
          exact ih_28 (c2 + 1) (nwN (upd f_ k_ (td + 1)) (upd l_ k_ (l_ (ix g))) (upd o_ k_ (offD (seedN d_) (l_ (ix g)))) (upd (upd r_ k_ (-1)) (ix g) (nI k_)) (td + 1) (upd w_ (ix g) 1) mc) (upd i_ k_ (nI (ix (i_ (ix g))))) (upd s_ k_ (s_ (ix g))) (upd f_ k_ (td + 1)) (upd l_ k_ (l_ (ix g))) (upd o_ k_ (offD (seedN d_) (l_ (ix g)))) (upd (upd r_ k_ (-1)) (ix g) (nI k_)) (k_ + 1) (seedN d_) (upd w_ (ix g) 1) ag_7 _ _ ls (by omega) rfl (by have e7 := dyN_step (fs := f1) (ss := f2) (fd := fr) (ed := to) (lm := lim) (dd := dis) (pin := pin) (td := td + 1) (had := mc) (Y := ((i_, s_, f_, l_, o_, r_, k_, d_), c2)) (w := w_) (by omega) (show ¬ nwN f_ l_ o_ r_ (td + 1) w_ mc = -1 by rw [← eg]; exact c_30); rw [show nwN (cF ((i_, s_, f_, l_, o_, r_, k_, d_), c2).1) (cL ((i_, s_, f_, l_, o_, r_, k_, d_), c2).1) (cO ((i_, s_, f_, l_, o_, r_, k_, d_), c2).1) (cR ((i_, s_, f_, l_, o_, r_, k_, d_), c2).1) (td + 1) w_ mc = g from eg.symm, dyOne, if_pos c_56] at e7; exact e7.symm.trans hDy) (by omega) (by have := c_56.1.2.2; omega) (certOK_mk hok2 (by rw [ix_nI (by omega)]) (by rw [ix_nI (by omega)]; exact hj9) (hok2 _ (by omega)).2.2) hP hD hS (lv_sub hl [0, 2, 1, 3] rfl)
  exact L_28 ((ctU (seeN wsn 0 60) mc) + 1) 0 (nwN fir lgt ofs rn (td + 1) (seeN wsn 0 60) mc) isu su fir lgt ofs rn mc sed (seeN wsn 0 60) ag _ _ ls (Nat.lt_succ_self _) rfl (dyE_in (X := (isu, su, fir, lgt, ofs, rn, mc, sed)) wsn hc) (Nat.le_refl _) hc hok hP hD hS (lv_sub hl [0, 1, 2, 3] rfl)

set_option maxHeartbeats 4000000 in
set_option maxRecDepth 100000 in
theorem c_X3_pass (l : Launch) (D : va_G) (cy : ClassId × ClassId × ClassId) (m0 m1 m2 m3 m4 m5 m6 m7 m8 m9 m10 m11 m12 m13 m14 m15 m16 m17 : Nat) (th td sed : Int32) (mi : Nat) (fr to lim f1 f2 dis pin ag en cm : Nat → Int32) (mc : Nat) (su isu fir lgt ofs rn wsn : Nat → Int32) (ds_ : Int32) (hm : mi ≤ 8) (hc : mc ≤ 60) (h1 : ∀ i, i < mi → sgP f1 i) (h2 : ∀ i, i < mi → sgP f2 i) (hok : certOK mi isu lgt mc) (hcd : cdPassM td ds_ = 0) : kI l D cy yX3_pass wsX3_pass (krm 4 96) [.ref m0, .int ds_] (wM cy m0 m1 m2 m3 m4 m5 m6 m7 m8 m9 m10 m11 m12 m13 m14 m15 m16 m17 th td sed mi fr to lim f1 f2 dis pin ag en cm mc su isu fir lgt ofs rn wsn) (fun (r : Int32) (u : (Nat → Int32) × (Nat → Int32)) => r = (psM f1 f2 fr to lim dis pin (isu, su, fir, lgt, ofs, rn, mc, sed) td (ix ds_)).2) (fun u : (Nat → Int32) × (Nat → Int32) => wM cy m0 m1 m2 m3 m4 m5 m6 m7 m8 m9 m10 m11 m12 m13 m14 m15 m16 m17 0 ((psM f1 f2 fr to lim dis pin (isu, su, fir, lgt, ofs, rn, mc, sed) td (ix ds_)).1.2) (cD (psM f1 f2 fr to lim dis pin (isu, su, fir, lgt, ofs, rn, mc, sed) td (ix ds_)).1.1) mi fr to lim f1 f2 dis pin u.1 en cm (cK (psM f1 f2 fr to lim dis pin (isu, su, fir, lgt, ofs, rn, mc, sed) td (ix ds_)).1.1) (cS (psM f1 f2 fr to lim dis pin (isu, su, fir, lgt, ofs, rn, mc, sed) td (ix ds_)).1.1) (cI (psM f1 f2 fr to lim dis pin (isu, su, fir, lgt, ofs, rn, mc, sed) td (ix ds_)).1.1) (cF (psM f1 f2 fr to lim dis pin (isu, su, fir, lgt, ofs, rn, mc, sed) td (ix ds_)).1.1) (cL (psM f1 f2 fr to lim dis pin (isu, su, fir, lgt, ofs, rn, mc, sed) td (ix ds_)).1.1) (cO (psM f1 f2 fr to lim dis pin (isu, su, fir, lgt, ofs, rn, mc, sed) td (ix ds_)).1.1) (cR (psM f1 f2 fr to lim dis pin (isu, su, fir, lgt, ofs, rn, mc, sed) td (ix ds_)).1.1) u.2) := by
  refine kI.of (cc := cX3_pass) (maxL := 4) (rt := .int) (Or.inl rfl) (by decide) rfl (Nat.le_of_ble_eq_true rfl) ?_
  intro p e s m args below meth c Q A ls hx hb hml hown hts hE hA hP hD hl hret
  have hS : va_S A s.heap s.heap [] := va_S.rf
  have hl : lv_has ls 4 [(0, .ref m0), (1, .int ds_)] := hl
  have g_X3 : ∀ w ∈ wsX30, w ∈ wsX3_pass := by decide +kernel
  have f_96 := hts (.fieldLink RX3 96 "CertHerdModel" "today" "I") (by decide +kernel)
  have f_66 := hts (.fieldLink RX3 66 "CertHerdModel" "thrown" "I") (by decide +kernel)
  refine lv_aload_n hx hb dX3_pass_0 rfl (lv_at hl 0 rfl) ?_
  refine lv_iload_n hx hb dX3_pass_1 rfl (lv_at hl 1 rfl) ?_
  refine lv_iconst (v := 1) hx hb dX3_pass_2 (by decide) ?_
  refine lv_bipush (v := 100) hx hb dX3_pass_3 (by decide) ?_
  refine kcS_i (n := 3) (X := []) (wc := []) (Y := wM cy m0 m1 m2 m3 m4 m5 m6 m7 m8 m9 m10 m11 m12 m13 m14 m15 m16 m17 th td sed mi fr to lim f1 f2 dis pin ag en cm mc su isu fir lgt ofs rn wsn) (As := [.int ds_, .int 1, .int 100]) (rest := [.ref m0]) ⟨hx, hb, hml, hown, hts⟩ hE hA hP hD hS (c_X3_in l D cy ds_ 1 100) (fun _ => rfl) gX3_pass_X3_in rfl rfl rfl ⟨by decide, by decide, by decide +kernel⟩ ⟨Nat.le_of_ble_eq_true rfl, Nat.le_of_ble_eq_true rfl⟩ rfl hl.1 rfl (Nat.le_of_ble_eq_true rfl) dX3_pass_5 ⟨Nat.zero_le _, Nat.zero_le _⟩ (fun r_1 u H locs e_2 hP hD hS => ?_)
  have hP : va_P D vwCl (wM cy m0 m1 m2 m3 m4 m5 m6 m7 m8 m9 m10 m11 m12 m13 m14 m15 m16 m17 th td sed mi fr to lim f1 f2 dis pin ag en cm mc su isu fir lgt ofs rn wsn) H := hP
  have hD : va_D A (wM cy m0 m1 m2 m3 m4 m5 m6 m7 m8 m9 m10 m11 m12 m13 m14 m15 m16 m17 th td sed mi fr to lim f1 f2 dis pin ag en cm mc su isu fir lgt ofs rn wsn) := hD
  have e_2 : r_1 = bI (inB ds_ 1 100 = true) := e_2
  subst e_2
  refine k_ifne (tgt := 15) hx hb dX3_pass_8 (by decide) (fun c_8 => ?_) (fun c_8 => ?_)
  · refine lv_aload_n hx hb dX3_pass_15 rfl (lv_at hl 0 rfl) ?_
    refine va_get (D := D) (ci := 3) (v := .int td) (C := RX3) (T := TX3) (N := 22) hx hb hts g_X3 hown hE.1 hP 0 rfl rfl 1 (by decide) f_96 (fun _ h9 => h9) rfl dX3_pass_16 ?_
    refine lv_iload_n hx hb dX3_pass_19 rfl (lv_at hl 1 rfl) ?_
    refine lv_iadd hx hb dX3_pass_20 ?_
    refine lv_sipush (v := 3000) hx hb dX3_pass_21 (by decide) ?_
    refine lv_icmp_le (tgt := 31) hx hb dX3_pass_24 (by decide) (fun c_24 => ?_) (fun c_24 => ?_)
    · refine lv_iconst (v := 0) hx hb dX3_pass_31 (by decide) ?_
      refine va_put (D := D) (ci := 3) (v := .int 0) (ty := .int) (C := RX3) (T := TX3) (N := 22) hx hb hts g_X3 tyX3 tyX3_ok nmX3 hown hE.1 hP hD hS 0 rfl rfl 0 (by decide) f_66 (fun _ h9 => h9) rfl (by decide +kernel) rfl rfl (Nat.le_of_ble_eq_true rfl) dX3_pass_32 (fun H locs hP hD hS => ?_)
      have hP : va_P D vwCl (wM cy m0 m1 m2 m3 m4 m5 m6 m7 m8 m9 m10 m11 m12 m13 m14 m15 m16 m17 0 td sed mi fr to lim f1 f2 dis pin ag en cm mc su isu fir lgt ofs rn wsn) H := hP
      have hD : va_D A (wM cy m0 m1 m2 m3 m4 m5 m6 m7 m8 m9 m10 m11 m12 m13 m14 m15 m16 m17 0 td sed mi fr to lim f1 f2 dis pin ag en cm mc su isu fir lgt ofs rn wsn) := hD
      have hpd := pd_okB c_8
      refine lv_iconst (v := 0) hx hb dX3_pass_35 (by decide) ?_
      refine lv_istore_n (lv' := [(2, .int 0), (0, .ref m0), (1, .int ds_)]) hx hb dX3_pass_36 rfl hl (by decide) rfl (fun ls hl => ?_)
      refine lv_iconst (v := 0) hx hb dX3_pass_37 (by decide) ?_
      refine lv_istore_n (lv' := [(3, .int 0), (2, .int 0), (0, .ref m0), (1, .int ds_)]) hx hb dX3_pass_38 rfl hl (by decide) rfl (fun ls hl => ?_)
      have L_39 : ∀ (f : Nat) (t : Nat) (g : Int32) (i_ : Nat → Int32) (s_ : Nat → Int32) (f_ : Nat → Int32) (l_ : Nat → Int32) (o_ : Nat → Int32) (r_ : Nat → Int32) (k_ : Nat) (d_ : Int32) (y_ : Int32) (w_ : Nat → Int32) (g_ : Nat → Int32) (H : Heap) (locs : List Loc) (ls : Array Slot), ((ix ds_ - t) < f) → (t ≤ ix ds_) → ((((i_, s_, f_, l_, o_, r_, k_, d_), y_), g) = psM f1 f2 fr to lim dis pin (isu, su, fir, lgt, ofs, rn, mc, sed) td t) → (k_ ≤ 60) → (certOK mi i_ l_ k_) → va_P D vwCl (wM cy m0 m1 m2 m3 m4 m5 m6 m7 m8 m9 m10 m11 m12 m13 m14 m15 m16 m17 0 y_ d_ mi fr to lim f1 f2 dis pin g_ en cm k_ s_ i_ f_ l_ o_ r_ w_) H → va_D A (wM cy m0 m1 m2 m3 m4 m5 m6 m7 m8 m9 m10 m11 m12 m13 m14 m15 m16 m17 0 y_ d_ mi fr to lim f1 f2 dis pin g_ en cm k_ s_ i_ f_ l_ o_ r_ w_) → va_S A s.heap H locs → lv_has ls 4 [(3, .int (nI t)), (2, .int g), (0, .ref m0), (1, .int ds_)] → W p l e (krm 4 96) s m args below meth c H locs 0 0 Q (F0 m 39 ls []) := by
        intro f
        induction f with
        | zero => intro t g i_ s_ f_ l_ o_ r_ k_ d_ y_ w_ g_ H locs ls hf; exact absurd hf (Nat.not_lt_zero _)
        | succ f ih_39 =>
          intro t g i_ s_ f_ l_ o_ r_ k_ d_ y_ w_ g_ H locs ls hf ht hX hk2 hok2 hP hD hS hl
          refine lv_iload_n hx hb dX3_pass_39 rfl (lv_at hl 0 rfl) ?_
          refine lv_iload_n hx hb dX3_pass_40 rfl (lv_at hl 3 rfl) ?_
          refine k_top (z := nI (ix ds_)) hpd.1 ?_
          refine lv_icmp_ge (tgt := 64) hx hb dX3_pass_41 (by decide) (fun c_41 => ?_) (fun c_41 => ?_)
          · have c_41n : (ix ds_) ≤ t := k_leN (a := (ix ds_)) (b := t) (by omega) (by omega) c_41
            have hE9 : psM f1 f2 fr to lim dis pin (isu, su, fir, lgt, ofs, rn, mc, sed) td (ix ds_) = (((i_, s_, f_, l_, o_, r_, k_, d_), y_), g) := by
              have e9 : t = ix ds_ := (by omega)
              rw [← e9]; exact hX.symm
            refine lv_iload_n hx hb dX3_pass_64 rfl (lv_at hl 1 rfl) ?_
            have w_td : y_ = (psM f1 f2 fr to lim dis pin (isu, su, fir, lgt, ofs, rn, mc, sed) td (ix ds_)).1.2 := (by rw [hE9])
            have w_sed : d_ = cD (psM f1 f2 fr to lim dis pin (isu, su, fir, lgt, ofs, rn, mc, sed) td (ix ds_)).1.1 := (by rw [hE9])
            have w_mc : k_ = cK (psM f1 f2 fr to lim dis pin (isu, su, fir, lgt, ofs, rn, mc, sed) td (ix ds_)).1.1 := (by rw [hE9])
            have w_su : s_ = cS (psM f1 f2 fr to lim dis pin (isu, su, fir, lgt, ofs, rn, mc, sed) td (ix ds_)).1.1 := (by rw [hE9])
            have w_isu : i_ = cI (psM f1 f2 fr to lim dis pin (isu, su, fir, lgt, ofs, rn, mc, sed) td (ix ds_)).1.1 := (by rw [hE9])
            have w_fir : f_ = cF (psM f1 f2 fr to lim dis pin (isu, su, fir, lgt, ofs, rn, mc, sed) td (ix ds_)).1.1 := (by rw [hE9])
            have w_lgt : l_ = cL (psM f1 f2 fr to lim dis pin (isu, su, fir, lgt, ofs, rn, mc, sed) td (ix ds_)).1.1 := (by rw [hE9])
            have w_ofs : o_ = cO (psM f1 f2 fr to lim dis pin (isu, su, fir, lgt, ofs, rn, mc, sed) td (ix ds_)).1.1 := (by rw [hE9])
            have w_rn : r_ = cR (psM f1 f2 fr to lim dis pin (isu, su, fir, lgt, ofs, rn, mc, sed) td (ix ds_)).1.1 := (by rw [hE9])
            exact hret _ _ _ _ g (g_, w_) dX3_pass_65 (Or.inl rfl) (by rw [hE9]) (by show va_P D vwCl (wM cy m0 m1 m2 m3 m4 m5 m6 m7 m8 m9 m10 m11 m12 m13 m14 m15 m16 m17 0 ((psM f1 f2 fr to lim dis pin (isu, su, fir, lgt, ofs, rn, mc, sed) td (ix ds_)).1.2) (cD (psM f1 f2 fr to lim dis pin (isu, su, fir, lgt, ofs, rn, mc, sed) td (ix ds_)).1.1) mi fr to lim f1 f2 dis pin g_ en cm (cK (psM f1 f2 fr to lim dis pin (isu, su, fir, lgt, ofs, rn, mc, sed) td (ix ds_)).1.1) (cS (psM f1 f2 fr to lim dis pin (isu, su, fir, lgt, ofs, rn, mc, sed) td (ix ds_)).1.1) (cI (psM f1 f2 fr to lim dis pin (isu, su, fir, lgt, ofs, rn, mc, sed) td (ix ds_)).1.1) (cF (psM f1 f2 fr to lim dis pin (isu, su, fir, lgt, ofs, rn, mc, sed) td (ix ds_)).1.1) (cL (psM f1 f2 fr to lim dis pin (isu, su, fir, lgt, ofs, rn, mc, sed) td (ix ds_)).1.1) (cO (psM f1 f2 fr to lim dis pin (isu, su, fir, lgt, ofs, rn, mc, sed) td (ix ds_)).1.1) (cR (psM f1 f2 fr to lim dis pin (isu, su, fir, lgt, ofs, rn, mc, sed) td (ix ds_)).1.1) w_) _; rw [← w_td, ← w_sed, ← w_mc, ← w_su, ← w_isu, ← w_fir, ← w_lgt, ← w_ofs, ← w_rn]; exact hP) hS
          · have c_41n : ¬ (ix ds_) ≤ t := k_nleN (a := (ix ds_)) (b := t) (by omega) (by omega) c_41
            refine lv_aload_n hx hb dX3_pass_44 rfl (lv_at hl 2 rfl) ?_
            refine va_get (D := D) (ci := 3) (v := .int 0) (C := RX3) (T := TX3) (N := 22) hx hb hts g_X3 hown hE.1 hP 0 rfl rfl 0 (by decide) f_66 (fun _ h9 => h9) rfl dX3_pass_45 ?_
            refine lv_if_ne (tgt := 64) hx hb dX3_pass_48 (by decide) (fun c_48 => absurd c_48 (by decide)) (fun _ => ?_)
            refine lv_iload_n hx hb dX3_pass_51 rfl (lv_at hl 1 rfl) ?_
            refine lv_aload_n hx hb dX3_pass_52 rfl (lv_at hl 2 rfl) ?_
            refine kcW_i (n := 0) (wc := wM cy m0 m1 m2 m3 m4 m5 m6 m7 m8 m9 m10 m11 m12 m13 m14 m15 m16 m17 0 y_ d_ mi fr to lim f1 f2 dis pin g_ en cm k_ s_ i_ f_ l_ o_ r_ w_) (As := []) (rest := [.int g]) ⟨hx, hb, hml, hown, hts⟩ hE hA hP hD hS (c_X3_day l D cy m0 m1 m2 m3 m4 m5 m6 m7 m8 m9 m10 m11 m12 m13 m14 m15 m16 m17 0 y_ d_ mi fr to lim f1 f2 dis pin g_ en cm k_ s_ i_ f_ l_ o_ r_ w_ (by first | assumption | omega) hk2 (by first | assumption | omega) (by first | assumption | omega) hok2) (fun _ => Eq.trans (b := [m0, m1, m2, m3, m4, m5, m6, m7, m8, m9, m10, m11, m12, m13, m14, m15, m16, m17]) rfl rfl) (q0 := 0) (ci := 3) rfl rfl gX3_pass_X3_day rfl rfl rfl ⟨rfl, by decide, by decide, by decide +kernel⟩ ⟨Nat.le_of_ble_eq_true rfl, Nat.le_of_ble_eq_true rfl⟩ rfl hl.1 rfl (Nat.le_of_ble_eq_true rfl) dX3_pass_53 ⟨Nat.zero_le _, Nat.zero_le _⟩ (fun r_3 u H locs e_4 hP hD hS => ?_)
            obtain ⟨ag_5, wsn_6⟩ := u
            have hP : va_P D vwCl (wM cy m0 m1 m2 m3 m4 m5 m6 m7 m8 m9 m10 m11 m12 m13 m14 m15 m16 m17 0 (y_ + 1) (cD (dyE f1 f2 fr to lim dis pin (y_ + 1) (i_, s_, f_, l_, o_, r_, k_, d_)).1) mi fr to lim f1 f2 dis pin ag_5 en cm (cK (dyE f1 f2 fr to lim dis pin (y_ + 1) (i_, s_, f_, l_, o_, r_, k_, d_)).1) (cS (dyE f1 f2 fr to lim dis pin (y_ + 1) (i_, s_, f_, l_, o_, r_, k_, d_)).1) (cI (dyE f1 f2 fr to lim dis pin (y_ + 1) (i_, s_, f_, l_, o_, r_, k_, d_)).1) (cF (dyE f1 f2 fr to lim dis pin (y_ + 1) (i_, s_, f_, l_, o_, r_, k_, d_)).1) (cL (dyE f1 f2 fr to lim dis pin (y_ + 1) (i_, s_, f_, l_, o_, r_, k_, d_)).1) (cO (dyE f1 f2 fr to lim dis pin (y_ + 1) (i_, s_, f_, l_, o_, r_, k_, d_)).1) (cR (dyE f1 f2 fr to lim dis pin (y_ + 1) (i_, s_, f_, l_, o_, r_, k_, d_)).1) wsn_6) H := hP
            have hD : va_D A (wM cy m0 m1 m2 m3 m4 m5 m6 m7 m8 m9 m10 m11 m12 m13 m14 m15 m16 m17 0 (y_ + 1) (cD (dyE f1 f2 fr to lim dis pin (y_ + 1) (i_, s_, f_, l_, o_, r_, k_, d_)).1) mi fr to lim f1 f2 dis pin ag_5 en cm (cK (dyE f1 f2 fr to lim dis pin (y_ + 1) (i_, s_, f_, l_, o_, r_, k_, d_)).1) (cS (dyE f1 f2 fr to lim dis pin (y_ + 1) (i_, s_, f_, l_, o_, r_, k_, d_)).1) (cI (dyE f1 f2 fr to lim dis pin (y_ + 1) (i_, s_, f_, l_, o_, r_, k_, d_)).1) (cF (dyE f1 f2 fr to lim dis pin (y_ + 1) (i_, s_, f_, l_, o_, r_, k_, d_)).1) (cL (dyE f1 f2 fr to lim dis pin (y_ + 1) (i_, s_, f_, l_, o_, r_, k_, d_)).1) (cO (dyE f1 f2 fr to lim dis pin (y_ + 1) (i_, s_, f_, l_, o_, r_, k_, d_)).1) (cR (dyE f1 f2 fr to lim dis pin (y_ + 1) (i_, s_, f_, l_, o_, r_, k_, d_)).1) wsn_6) := hD
            have e_4 : r_3 = nI (dyE f1 f2 fr to lim dis pin (y_ + 1) (i_, s_, f_, l_, o_, r_, k_, d_)).2 := e_4
            subst e_4
            refine lv_iadd hx hb dX3_pass_56 ?_
            refine lv_istore_n (lv' := [(2, .int (g + (nI (dyE f1 f2 fr to lim dis pin (y_ + 1) (i_, s_, f_, l_, o_, r_, k_, d_)).2))), (3, .int (nI t)), (0, .ref m0), (1, .int ds_)]) hx hb dX3_pass_57 rfl hl (by decide) rfl (fun ls hl => ?_)
            refine lv_iinc (v := (nI (t + 1))) (lv' := [(3, .int (nI (t + 1))), (2, .int (g + (nI (dyE f1 f2 fr to lim dis pin (y_ + 1) (i_, s_, f_, l_, o_, r_, k_, d_)).2))), (0, .ref m0), (1, .int ds_)]) hx hb dX3_pass_58 hl (k := 1) rfl (k_inc _) (by decide) rfl (fun ls hl => ?_)
            refine lv_goto (tgt := 39) hx hb dX3_pass_61 (by decide) ?_
            exact ih_39 (t + 1) (g + (nI (dyE f1 f2 fr to lim dis pin (y_ + 1) (i_, s_, f_, l_, o_, r_, k_, d_)).2)) (cI (dyE f1 f2 fr to lim dis pin (y_ + 1) (i_, s_, f_, l_, o_, r_, k_, d_)).1) (cS (dyE f1 f2 fr to lim dis pin (y_ + 1) (i_, s_, f_, l_, o_, r_, k_, d_)).1) (cF (dyE f1 f2 fr to lim dis pin (y_ + 1) (i_, s_, f_, l_, o_, r_, k_, d_)).1) (cL (dyE f1 f2 fr to lim dis pin (y_ + 1) (i_, s_, f_, l_, o_, r_, k_, d_)).1) (cO (dyE f1 f2 fr to lim dis pin (y_ + 1) (i_, s_, f_, l_, o_, r_, k_, d_)).1) (cR (dyE f1 f2 fr to lim dis pin (y_ + 1) (i_, s_, f_, l_, o_, r_, k_, d_)).1) (cK (dyE f1 f2 fr to lim dis pin (y_ + 1) (i_, s_, f_, l_, o_, r_, k_, d_)).1) (cD (dyE f1 f2 fr to lim dis pin (y_ + 1) (i_, s_, f_, l_, o_, r_, k_, d_)).1) (y_ + 1) wsn_6 ag_5 _ _ ls (by omega) (by omega) (by rw [psM, ← hX]) (dyE_ok (X := (i_, s_, f_, l_, o_, r_, k_, d_)) (by omega) hok2 hk2).2.1 (dyE_ok (X := (i_, s_, f_, l_, o_, r_, k_, d_)) (by omega) hok2 hk2).1 hP hD hS (lv_sub hl [0, 1, 2, 3] rfl)
      exact L_39 ((ix ds_ - 0) + 1) 0 0 isu su fir lgt ofs rn mc sed td wsn ag _ _ ls (Nat.lt_succ_self _) (by omega) rfl hc hok hP hD hS (lv_sub hl [0, 1, 2, 3] rfl)
    · refine lv_iconst (v := 2) hx hb dX3_pass_27 (by decide) ?_
      refine lv_goto (tgt := 32) hx hb dX3_pass_28 (by decide) ?_
      refine va_put (D := D) (ci := 3) (v := .int 2) (ty := .int) (C := RX3) (T := TX3) (N := 22) hx hb hts g_X3 tyX3 tyX3_ok nmX3 hown hE.1 hP hD hS 0 rfl rfl 0 (by decide) f_66 (fun _ h9 => h9) rfl (by decide +kernel) rfl rfl (Nat.le_of_ble_eq_true rfl) dX3_pass_32 (fun H locs hP hD hS => ?_)
      have hP : va_P D vwCl (wM cy m0 m1 m2 m3 m4 m5 m6 m7 m8 m9 m10 m11 m12 m13 m14 m15 m16 m17 2 td sed mi fr to lim f1 f2 dis pin ag en cm mc su isu fir lgt ofs rn wsn) H := hP
      have hD : va_D A (wM cy m0 m1 m2 m3 m4 m5 m6 m7 m8 m9 m10 m11 m12 m13 m14 m15 m16 m17 2 td sed mi fr to lim f1 f2 dis pin ag en cm mc su isu fir lgt ofs rn wsn) := hD
      refine lv_iconst (v := 0) hx hb dX3_pass_35 (by decide) ?_
      refine lv_istore_n (lv' := [(2, .int 0), (0, .ref m0), (1, .int ds_)]) hx hb dX3_pass_36 rfl hl (by decide) rfl (fun ls hl => ?_)
      refine lv_iconst (v := 0) hx hb dX3_pass_37 (by decide) ?_
      refine lv_istore_n (lv' := [(3, .int 0), (2, .int 0), (0, .ref m0), (1, .int ds_)]) hx hb dX3_pass_38 rfl hl (by decide) rfl (fun ls hl => ?_)
      refine lv_iload_n hx hb dX3_pass_39 rfl (lv_at hl 0 rfl) ?_
      refine lv_iload_n hx hb dX3_pass_40 rfl (lv_at hl 3 rfl) ?_
      refine lv_icmp_ge (tgt := 64) hx hb dX3_pass_41 (by decide) (fun c_41 => ?_) (fun c_41 => ?_)
      · refine lv_iload_n hx hb dX3_pass_64 rfl (lv_at hl 1 rfl) ?_
        exact absurd hcd (by simp [cdPassM, c_8, c_24, c_41])
      · refine lv_aload_n hx hb dX3_pass_44 rfl (lv_at hl 2 rfl) ?_
        refine va_get (D := D) (ci := 3) (v := .int 2) (C := RX3) (T := TX3) (N := 22) hx hb hts g_X3 hown hE.1 hP 0 rfl rfl 0 (by decide) f_66 (fun _ h9 => h9) rfl dX3_pass_45 ?_
        refine lv_if_ne (tgt := 64) hx hb dX3_pass_48 (by decide) (fun _ => ?_) (fun c_48 => absurd c_48 (by decide))
        refine lv_iload_n hx hb dX3_pass_64 rfl (lv_at hl 1 rfl) ?_
        exact absurd hcd (by simp [cdPassM, c_8, c_24, c_41])
  · refine lv_iconst (v := 1) hx hb dX3_pass_11 (by decide) ?_
    refine lv_goto (tgt := 32) hx hb dX3_pass_12 (by decide) ?_
    refine va_put (D := D) (ci := 3) (v := .int 1) (ty := .int) (C := RX3) (T := TX3) (N := 22) hx hb hts g_X3 tyX3 tyX3_ok nmX3 hown hE.1 hP hD hS 0 rfl rfl 0 (by decide) f_66 (fun _ h9 => h9) rfl (by decide +kernel) rfl rfl (Nat.le_of_ble_eq_true rfl) dX3_pass_32 (fun H locs hP hD hS => ?_)
    have hP : va_P D vwCl (wM cy m0 m1 m2 m3 m4 m5 m6 m7 m8 m9 m10 m11 m12 m13 m14 m15 m16 m17 1 td sed mi fr to lim f1 f2 dis pin ag en cm mc su isu fir lgt ofs rn wsn) H := hP
    have hD : va_D A (wM cy m0 m1 m2 m3 m4 m5 m6 m7 m8 m9 m10 m11 m12 m13 m14 m15 m16 m17 1 td sed mi fr to lim f1 f2 dis pin ag en cm mc su isu fir lgt ofs rn wsn) := hD
    refine lv_iconst (v := 0) hx hb dX3_pass_35 (by decide) ?_
    refine lv_istore_n (lv' := [(2, .int 0), (0, .ref m0), (1, .int ds_)]) hx hb dX3_pass_36 rfl hl (by decide) rfl (fun ls hl => ?_)
    refine lv_iconst (v := 0) hx hb dX3_pass_37 (by decide) ?_
    refine lv_istore_n (lv' := [(3, .int 0), (2, .int 0), (0, .ref m0), (1, .int ds_)]) hx hb dX3_pass_38 rfl hl (by decide) rfl (fun ls hl => ?_)
    refine lv_iload_n hx hb dX3_pass_39 rfl (lv_at hl 0 rfl) ?_
    refine lv_iload_n hx hb dX3_pass_40 rfl (lv_at hl 3 rfl) ?_
    refine lv_icmp_ge (tgt := 64) hx hb dX3_pass_41 (by decide) (fun c_41 => ?_) (fun c_41 => ?_)
    · refine lv_iload_n hx hb dX3_pass_64 rfl (lv_at hl 1 rfl) ?_
      exact absurd hcd (by simp [cdPassM, c_8, c_41])
    · refine lv_aload_n hx hb dX3_pass_44 rfl (lv_at hl 2 rfl) ?_
      refine va_get (D := D) (ci := 3) (v := .int 1) (C := RX3) (T := TX3) (N := 22) hx hb hts g_X3 hown hE.1 hP 0 rfl rfl 0 (by decide) f_66 (fun _ h9 => h9) rfl dX3_pass_45 ?_
      refine lv_if_ne (tgt := 64) hx hb dX3_pass_48 (by decide) (fun _ => ?_) (fun c_48 => absurd c_48 (by decide))
      refine lv_iload_n hx hb dX3_pass_64 rfl (lv_at hl 1 rfl) ?_
      exact absurd hcd (by simp [cdPassM, c_8, c_41])

set_option maxHeartbeats 4000000 in
set_option maxRecDepth 100000 in
theorem c_X3_pass_f (l : Launch) (D : va_G) (cy : ClassId × ClassId × ClassId) (m0 m1 m2 m3 m4 m5 m6 m7 m8 m9 m10 m11 m12 m13 m14 m15 m16 m17 : Nat) (th td sed : Int32) (mi : Nat) (fr to lim f1 f2 dis pin ag en cm : Nat → Int32) (mc : Nat) (su isu fir lgt ofs rn wsn : Nat → Int32) (ds_ : Int32) (hm : mi ≤ 8) (hc : mc ≤ 60) (h1 : ∀ i, i < mi → sgP f1 i) (h2 : ∀ i, i < mi → sgP f2 i) (hok : certOK mi isu lgt mc) (hcd : ¬ cdPassM td ds_ = 0) : kI l D cy yX3_pass wsX3_pass (krm 4 96) [.ref m0, .int ds_] (wM cy m0 m1 m2 m3 m4 m5 m6 m7 m8 m9 m10 m11 m12 m13 m14 m15 m16 m17 th td sed mi fr to lim f1 f2 dis pin ag en cm mc su isu fir lgt ofs rn wsn) (fun (r : Int32) (u : (Nat → Int32) × (Nat → Int32)) => True) (fun u : (Nat → Int32) × (Nat → Int32) => wM cy m0 m1 m2 m3 m4 m5 m6 m7 m8 m9 m10 m11 m12 m13 m14 m15 m16 m17 (cdPassM td ds_) td sed mi fr to lim f1 f2 dis pin u.1 en cm mc su isu fir lgt ofs rn u.2) := by
  refine kI.of (cc := cX3_pass) (maxL := 4) (rt := .int) (Or.inl rfl) (by decide) rfl (Nat.le_of_ble_eq_true rfl) ?_
  intro p e s m args below meth c Q A ls hx hb hml hown hts hE hA hP hD hl hret
  have hS : va_S A s.heap s.heap [] := va_S.rf
  have hl : lv_has ls 4 [(0, .ref m0), (1, .int ds_)] := hl
  have g_X3 : ∀ w ∈ wsX30, w ∈ wsX3_pass := by decide +kernel
  have f_96 := hts (.fieldLink RX3 96 "CertHerdModel" "today" "I") (by decide +kernel)
  have f_66 := hts (.fieldLink RX3 66 "CertHerdModel" "thrown" "I") (by decide +kernel)
  refine lv_aload_n hx hb dX3_pass_0 rfl (lv_at hl 0 rfl) ?_
  refine lv_iload_n hx hb dX3_pass_1 rfl (lv_at hl 1 rfl) ?_
  refine lv_iconst (v := 1) hx hb dX3_pass_2 (by decide) ?_
  refine lv_bipush (v := 100) hx hb dX3_pass_3 (by decide) ?_
  refine kcS_i (n := 3) (X := []) (wc := []) (Y := wM cy m0 m1 m2 m3 m4 m5 m6 m7 m8 m9 m10 m11 m12 m13 m14 m15 m16 m17 th td sed mi fr to lim f1 f2 dis pin ag en cm mc su isu fir lgt ofs rn wsn) (As := [.int ds_, .int 1, .int 100]) (rest := [.ref m0]) ⟨hx, hb, hml, hown, hts⟩ hE hA hP hD hS (c_X3_in l D cy ds_ 1 100) (fun _ => rfl) gX3_pass_X3_in rfl rfl rfl ⟨by decide, by decide, by decide +kernel⟩ ⟨Nat.le_of_ble_eq_true rfl, Nat.le_of_ble_eq_true rfl⟩ rfl hl.1 rfl (Nat.le_of_ble_eq_true rfl) dX3_pass_5 ⟨Nat.zero_le _, Nat.zero_le _⟩ (fun r_1 u H locs e_2 hP hD hS => ?_)
  have hP : va_P D vwCl (wM cy m0 m1 m2 m3 m4 m5 m6 m7 m8 m9 m10 m11 m12 m13 m14 m15 m16 m17 th td sed mi fr to lim f1 f2 dis pin ag en cm mc su isu fir lgt ofs rn wsn) H := hP
  have hD : va_D A (wM cy m0 m1 m2 m3 m4 m5 m6 m7 m8 m9 m10 m11 m12 m13 m14 m15 m16 m17 th td sed mi fr to lim f1 f2 dis pin ag en cm mc su isu fir lgt ofs rn wsn) := hD
  have e_2 : r_1 = bI (inB ds_ 1 100 = true) := e_2
  subst e_2
  refine k_ifne (tgt := 15) hx hb dX3_pass_8 (by decide) (fun c_8 => ?_) (fun c_8 => ?_)
  · refine lv_aload_n hx hb dX3_pass_15 rfl (lv_at hl 0 rfl) ?_
    refine va_get (D := D) (ci := 3) (v := .int td) (C := RX3) (T := TX3) (N := 22) hx hb hts g_X3 hown hE.1 hP 0 rfl rfl 1 (by decide) f_96 (fun _ h9 => h9) rfl dX3_pass_16 ?_
    refine lv_iload_n hx hb dX3_pass_19 rfl (lv_at hl 1 rfl) ?_
    refine lv_iadd hx hb dX3_pass_20 ?_
    refine lv_sipush (v := 3000) hx hb dX3_pass_21 (by decide) ?_
    refine lv_icmp_le (tgt := 31) hx hb dX3_pass_24 (by decide) (fun c_24 => ?_) (fun c_24 => ?_)
    · refine lv_iconst (v := 0) hx hb dX3_pass_31 (by decide) ?_
      refine va_put (D := D) (ci := 3) (v := .int 0) (ty := .int) (C := RX3) (T := TX3) (N := 22) hx hb hts g_X3 tyX3 tyX3_ok nmX3 hown hE.1 hP hD hS 0 rfl rfl 0 (by decide) f_66 (fun _ h9 => h9) rfl (by decide +kernel) rfl rfl (Nat.le_of_ble_eq_true rfl) dX3_pass_32 (fun H locs hP hD hS => ?_)
      have hP : va_P D vwCl (wM cy m0 m1 m2 m3 m4 m5 m6 m7 m8 m9 m10 m11 m12 m13 m14 m15 m16 m17 0 td sed mi fr to lim f1 f2 dis pin ag en cm mc su isu fir lgt ofs rn wsn) H := hP
      have hD : va_D A (wM cy m0 m1 m2 m3 m4 m5 m6 m7 m8 m9 m10 m11 m12 m13 m14 m15 m16 m17 0 td sed mi fr to lim f1 f2 dis pin ag en cm mc su isu fir lgt ofs rn wsn) := hD
      have hpd := pd_okB c_8
      refine lv_iconst (v := 0) hx hb dX3_pass_35 (by decide) ?_
      refine lv_istore_n (lv' := [(2, .int 0), (0, .ref m0), (1, .int ds_)]) hx hb dX3_pass_36 rfl hl (by decide) rfl (fun ls hl => ?_)
      refine lv_iconst (v := 0) hx hb dX3_pass_37 (by decide) ?_
      refine lv_istore_n (lv' := [(3, .int 0), (2, .int 0), (0, .ref m0), (1, .int ds_)]) hx hb dX3_pass_38 rfl hl (by decide) rfl (fun ls hl => ?_)
      have L_39 : ∀ (f : Nat) (t : Nat) (g : Int32) (i_ : Nat → Int32) (s_ : Nat → Int32) (f_ : Nat → Int32) (l_ : Nat → Int32) (o_ : Nat → Int32) (r_ : Nat → Int32) (k_ : Nat) (d_ : Int32) (y_ : Int32) (w_ : Nat → Int32) (g_ : Nat → Int32) (H : Heap) (locs : List Loc) (ls : Array Slot), ((ix ds_ - t) < f) → (t ≤ ix ds_) → ((((i_, s_, f_, l_, o_, r_, k_, d_), y_), g) = psM f1 f2 fr to lim dis pin (isu, su, fir, lgt, ofs, rn, mc, sed) td t) → (k_ ≤ 60) → (certOK mi i_ l_ k_) → va_P D vwCl (wM cy m0 m1 m2 m3 m4 m5 m6 m7 m8 m9 m10 m11 m12 m13 m14 m15 m16 m17 0 y_ d_ mi fr to lim f1 f2 dis pin g_ en cm k_ s_ i_ f_ l_ o_ r_ w_) H → va_D A (wM cy m0 m1 m2 m3 m4 m5 m6 m7 m8 m9 m10 m11 m12 m13 m14 m15 m16 m17 0 y_ d_ mi fr to lim f1 f2 dis pin g_ en cm k_ s_ i_ f_ l_ o_ r_ w_) → va_S A s.heap H locs → lv_has ls 4 [(3, .int (nI t)), (2, .int g), (0, .ref m0), (1, .int ds_)] → W p l e (krm 4 96) s m args below meth c H locs 0 0 Q (F0 m 39 ls []) := by
        intro f
        induction f with
        | zero => intro t g i_ s_ f_ l_ o_ r_ k_ d_ y_ w_ g_ H locs ls hf; exact absurd hf (Nat.not_lt_zero _)
        | succ f ih_39 =>
          intro t g i_ s_ f_ l_ o_ r_ k_ d_ y_ w_ g_ H locs ls hf ht hX hk2 hok2 hP hD hS hl
          refine lv_iload_n hx hb dX3_pass_39 rfl (lv_at hl 0 rfl) ?_
          refine lv_iload_n hx hb dX3_pass_40 rfl (lv_at hl 3 rfl) ?_
          refine k_top (z := nI (ix ds_)) hpd.1 ?_
          refine lv_icmp_ge (tgt := 64) hx hb dX3_pass_41 (by decide) (fun c_41 => ?_) (fun c_41 => ?_)
          · have c_41n : (ix ds_) ≤ t := k_leN (a := (ix ds_)) (b := t) (by omega) (by omega) c_41
            have hE9 : psM f1 f2 fr to lim dis pin (isu, su, fir, lgt, ofs, rn, mc, sed) td (ix ds_) = (((i_, s_, f_, l_, o_, r_, k_, d_), y_), g) := by
              have e9 : t = ix ds_ := (by omega)
              rw [← e9]; exact hX.symm
            refine lv_iload_n hx hb dX3_pass_64 rfl (lv_at hl 1 rfl) ?_
            exact absurd (by simp [cdPassM, c_8, c_24, c_41, c_41n]) hcd
          · have c_41n : ¬ (ix ds_) ≤ t := k_nleN (a := (ix ds_)) (b := t) (by omega) (by omega) c_41
            refine lv_aload_n hx hb dX3_pass_44 rfl (lv_at hl 2 rfl) ?_
            refine va_get (D := D) (ci := 3) (v := .int 0) (C := RX3) (T := TX3) (N := 22) hx hb hts g_X3 hown hE.1 hP 0 rfl rfl 0 (by decide) f_66 (fun _ h9 => h9) rfl dX3_pass_45 ?_
            refine lv_if_ne (tgt := 64) hx hb dX3_pass_48 (by decide) (fun c_48 => absurd c_48 (by decide)) (fun _ => ?_)
            refine lv_iload_n hx hb dX3_pass_51 rfl (lv_at hl 1 rfl) ?_
            refine lv_aload_n hx hb dX3_pass_52 rfl (lv_at hl 2 rfl) ?_
            refine kcW_i (n := 0) (wc := wM cy m0 m1 m2 m3 m4 m5 m6 m7 m8 m9 m10 m11 m12 m13 m14 m15 m16 m17 0 y_ d_ mi fr to lim f1 f2 dis pin g_ en cm k_ s_ i_ f_ l_ o_ r_ w_) (As := []) (rest := [.int g]) ⟨hx, hb, hml, hown, hts⟩ hE hA hP hD hS (c_X3_day l D cy m0 m1 m2 m3 m4 m5 m6 m7 m8 m9 m10 m11 m12 m13 m14 m15 m16 m17 0 y_ d_ mi fr to lim f1 f2 dis pin g_ en cm k_ s_ i_ f_ l_ o_ r_ w_ (by first | assumption | omega) hk2 (by first | assumption | omega) (by first | assumption | omega) hok2) (fun _ => Eq.trans (b := [m0, m1, m2, m3, m4, m5, m6, m7, m8, m9, m10, m11, m12, m13, m14, m15, m16, m17]) rfl rfl) (q0 := 0) (ci := 3) rfl rfl gX3_pass_X3_day rfl rfl rfl ⟨rfl, by decide, by decide, by decide +kernel⟩ ⟨Nat.le_of_ble_eq_true rfl, Nat.le_of_ble_eq_true rfl⟩ rfl hl.1 rfl (Nat.le_of_ble_eq_true rfl) dX3_pass_53 ⟨Nat.zero_le _, Nat.zero_le _⟩ (fun r_3 u H locs e_4 hP hD hS => ?_)
            obtain ⟨ag_5, wsn_6⟩ := u
            have hP : va_P D vwCl (wM cy m0 m1 m2 m3 m4 m5 m6 m7 m8 m9 m10 m11 m12 m13 m14 m15 m16 m17 0 (y_ + 1) (cD (dyE f1 f2 fr to lim dis pin (y_ + 1) (i_, s_, f_, l_, o_, r_, k_, d_)).1) mi fr to lim f1 f2 dis pin ag_5 en cm (cK (dyE f1 f2 fr to lim dis pin (y_ + 1) (i_, s_, f_, l_, o_, r_, k_, d_)).1) (cS (dyE f1 f2 fr to lim dis pin (y_ + 1) (i_, s_, f_, l_, o_, r_, k_, d_)).1) (cI (dyE f1 f2 fr to lim dis pin (y_ + 1) (i_, s_, f_, l_, o_, r_, k_, d_)).1) (cF (dyE f1 f2 fr to lim dis pin (y_ + 1) (i_, s_, f_, l_, o_, r_, k_, d_)).1) (cL (dyE f1 f2 fr to lim dis pin (y_ + 1) (i_, s_, f_, l_, o_, r_, k_, d_)).1) (cO (dyE f1 f2 fr to lim dis pin (y_ + 1) (i_, s_, f_, l_, o_, r_, k_, d_)).1) (cR (dyE f1 f2 fr to lim dis pin (y_ + 1) (i_, s_, f_, l_, o_, r_, k_, d_)).1) wsn_6) H := hP
            have hD : va_D A (wM cy m0 m1 m2 m3 m4 m5 m6 m7 m8 m9 m10 m11 m12 m13 m14 m15 m16 m17 0 (y_ + 1) (cD (dyE f1 f2 fr to lim dis pin (y_ + 1) (i_, s_, f_, l_, o_, r_, k_, d_)).1) mi fr to lim f1 f2 dis pin ag_5 en cm (cK (dyE f1 f2 fr to lim dis pin (y_ + 1) (i_, s_, f_, l_, o_, r_, k_, d_)).1) (cS (dyE f1 f2 fr to lim dis pin (y_ + 1) (i_, s_, f_, l_, o_, r_, k_, d_)).1) (cI (dyE f1 f2 fr to lim dis pin (y_ + 1) (i_, s_, f_, l_, o_, r_, k_, d_)).1) (cF (dyE f1 f2 fr to lim dis pin (y_ + 1) (i_, s_, f_, l_, o_, r_, k_, d_)).1) (cL (dyE f1 f2 fr to lim dis pin (y_ + 1) (i_, s_, f_, l_, o_, r_, k_, d_)).1) (cO (dyE f1 f2 fr to lim dis pin (y_ + 1) (i_, s_, f_, l_, o_, r_, k_, d_)).1) (cR (dyE f1 f2 fr to lim dis pin (y_ + 1) (i_, s_, f_, l_, o_, r_, k_, d_)).1) wsn_6) := hD
            have e_4 : r_3 = nI (dyE f1 f2 fr to lim dis pin (y_ + 1) (i_, s_, f_, l_, o_, r_, k_, d_)).2 := e_4
            subst e_4
            refine lv_iadd hx hb dX3_pass_56 ?_
            refine lv_istore_n (lv' := [(2, .int (g + (nI (dyE f1 f2 fr to lim dis pin (y_ + 1) (i_, s_, f_, l_, o_, r_, k_, d_)).2))), (3, .int (nI t)), (0, .ref m0), (1, .int ds_)]) hx hb dX3_pass_57 rfl hl (by decide) rfl (fun ls hl => ?_)
            refine lv_iinc (v := (nI (t + 1))) (lv' := [(3, .int (nI (t + 1))), (2, .int (g + (nI (dyE f1 f2 fr to lim dis pin (y_ + 1) (i_, s_, f_, l_, o_, r_, k_, d_)).2))), (0, .ref m0), (1, .int ds_)]) hx hb dX3_pass_58 hl (k := 1) rfl (k_inc _) (by decide) rfl (fun ls hl => ?_)
            refine lv_goto (tgt := 39) hx hb dX3_pass_61 (by decide) ?_
            exact ih_39 (t + 1) (g + (nI (dyE f1 f2 fr to lim dis pin (y_ + 1) (i_, s_, f_, l_, o_, r_, k_, d_)).2)) (cI (dyE f1 f2 fr to lim dis pin (y_ + 1) (i_, s_, f_, l_, o_, r_, k_, d_)).1) (cS (dyE f1 f2 fr to lim dis pin (y_ + 1) (i_, s_, f_, l_, o_, r_, k_, d_)).1) (cF (dyE f1 f2 fr to lim dis pin (y_ + 1) (i_, s_, f_, l_, o_, r_, k_, d_)).1) (cL (dyE f1 f2 fr to lim dis pin (y_ + 1) (i_, s_, f_, l_, o_, r_, k_, d_)).1) (cO (dyE f1 f2 fr to lim dis pin (y_ + 1) (i_, s_, f_, l_, o_, r_, k_, d_)).1) (cR (dyE f1 f2 fr to lim dis pin (y_ + 1) (i_, s_, f_, l_, o_, r_, k_, d_)).1) (cK (dyE f1 f2 fr to lim dis pin (y_ + 1) (i_, s_, f_, l_, o_, r_, k_, d_)).1) (cD (dyE f1 f2 fr to lim dis pin (y_ + 1) (i_, s_, f_, l_, o_, r_, k_, d_)).1) (y_ + 1) wsn_6 ag_5 _ _ ls (by omega) (by omega) (by rw [psM, ← hX]) (dyE_ok (X := (i_, s_, f_, l_, o_, r_, k_, d_)) (by omega) hok2 hk2).2.1 (dyE_ok (X := (i_, s_, f_, l_, o_, r_, k_, d_)) (by omega) hok2 hk2).1 hP hD hS (lv_sub hl [0, 1, 2, 3] rfl)
      exact L_39 ((ix ds_ - 0) + 1) 0 0 isu su fir lgt ofs rn mc sed td wsn ag _ _ ls (Nat.lt_succ_self _) (by omega) rfl hc hok hP hD hS (lv_sub hl [0, 1, 2, 3] rfl)
    · refine lv_iconst (v := 2) hx hb dX3_pass_27 (by decide) ?_
      refine lv_goto (tgt := 32) hx hb dX3_pass_28 (by decide) ?_
      refine va_put (D := D) (ci := 3) (v := .int 2) (ty := .int) (C := RX3) (T := TX3) (N := 22) hx hb hts g_X3 tyX3 tyX3_ok nmX3 hown hE.1 hP hD hS 0 rfl rfl 0 (by decide) f_66 (fun _ h9 => h9) rfl (by decide +kernel) rfl rfl (Nat.le_of_ble_eq_true rfl) dX3_pass_32 (fun H locs hP hD hS => ?_)
      have hP : va_P D vwCl (wM cy m0 m1 m2 m3 m4 m5 m6 m7 m8 m9 m10 m11 m12 m13 m14 m15 m16 m17 2 td sed mi fr to lim f1 f2 dis pin ag en cm mc su isu fir lgt ofs rn wsn) H := hP
      have hD : va_D A (wM cy m0 m1 m2 m3 m4 m5 m6 m7 m8 m9 m10 m11 m12 m13 m14 m15 m16 m17 2 td sed mi fr to lim f1 f2 dis pin ag en cm mc su isu fir lgt ofs rn wsn) := hD
      refine lv_iconst (v := 0) hx hb dX3_pass_35 (by decide) ?_
      refine lv_istore_n (lv' := [(2, .int 0), (0, .ref m0), (1, .int ds_)]) hx hb dX3_pass_36 rfl hl (by decide) rfl (fun ls hl => ?_)
      refine lv_iconst (v := 0) hx hb dX3_pass_37 (by decide) ?_
      refine lv_istore_n (lv' := [(3, .int 0), (2, .int 0), (0, .ref m0), (1, .int ds_)]) hx hb dX3_pass_38 rfl hl (by decide) rfl (fun ls hl => ?_)
      refine lv_iload_n hx hb dX3_pass_39 rfl (lv_at hl 0 rfl) ?_
      refine lv_iload_n hx hb dX3_pass_40 rfl (lv_at hl 3 rfl) ?_
      refine lv_icmp_ge (tgt := 64) hx hb dX3_pass_41 (by decide) (fun c_41 => ?_) (fun c_41 => ?_)
      · refine lv_iload_n hx hb dX3_pass_64 rfl (lv_at hl 1 rfl) ?_
        have w_th : 2 = cdPassM td ds_ := (by simp [cdPassM, c_8, c_24, c_41])
        exact hret _ _ _ _ 0 (ag, wsn) dX3_pass_65 (Or.inl rfl) trivial (by show va_P D vwCl (wM cy m0 m1 m2 m3 m4 m5 m6 m7 m8 m9 m10 m11 m12 m13 m14 m15 m16 m17 (cdPassM td ds_) td sed mi fr to lim f1 f2 dis pin ag en cm mc su isu fir lgt ofs rn wsn) _; rw [← w_th]; exact hP) hS
      · refine lv_aload_n hx hb dX3_pass_44 rfl (lv_at hl 2 rfl) ?_
        refine va_get (D := D) (ci := 3) (v := .int 2) (C := RX3) (T := TX3) (N := 22) hx hb hts g_X3 hown hE.1 hP 0 rfl rfl 0 (by decide) f_66 (fun _ h9 => h9) rfl dX3_pass_45 ?_
        refine lv_if_ne (tgt := 64) hx hb dX3_pass_48 (by decide) (fun _ => ?_) (fun c_48 => absurd c_48 (by decide))
        refine lv_iload_n hx hb dX3_pass_64 rfl (lv_at hl 1 rfl) ?_
        have w_th : 2 = cdPassM td ds_ := (by simp [cdPassM, c_8, c_24, c_41])
        exact hret _ _ _ _ 0 (ag, wsn) dX3_pass_65 (Or.inl rfl) trivial (by show va_P D vwCl (wM cy m0 m1 m2 m3 m4 m5 m6 m7 m8 m9 m10 m11 m12 m13 m14 m15 m16 m17 (cdPassM td ds_) td sed mi fr to lim f1 f2 dis pin ag en cm mc su isu fir lgt ofs rn wsn) _; rw [← w_th]; exact hP) hS
  · refine lv_iconst (v := 1) hx hb dX3_pass_11 (by decide) ?_
    refine lv_goto (tgt := 32) hx hb dX3_pass_12 (by decide) ?_
    refine va_put (D := D) (ci := 3) (v := .int 1) (ty := .int) (C := RX3) (T := TX3) (N := 22) hx hb hts g_X3 tyX3 tyX3_ok nmX3 hown hE.1 hP hD hS 0 rfl rfl 0 (by decide) f_66 (fun _ h9 => h9) rfl (by decide +kernel) rfl rfl (Nat.le_of_ble_eq_true rfl) dX3_pass_32 (fun H locs hP hD hS => ?_)
    have hP : va_P D vwCl (wM cy m0 m1 m2 m3 m4 m5 m6 m7 m8 m9 m10 m11 m12 m13 m14 m15 m16 m17 1 td sed mi fr to lim f1 f2 dis pin ag en cm mc su isu fir lgt ofs rn wsn) H := hP
    have hD : va_D A (wM cy m0 m1 m2 m3 m4 m5 m6 m7 m8 m9 m10 m11 m12 m13 m14 m15 m16 m17 1 td sed mi fr to lim f1 f2 dis pin ag en cm mc su isu fir lgt ofs rn wsn) := hD
    refine lv_iconst (v := 0) hx hb dX3_pass_35 (by decide) ?_
    refine lv_istore_n (lv' := [(2, .int 0), (0, .ref m0), (1, .int ds_)]) hx hb dX3_pass_36 rfl hl (by decide) rfl (fun ls hl => ?_)
    refine lv_iconst (v := 0) hx hb dX3_pass_37 (by decide) ?_
    refine lv_istore_n (lv' := [(3, .int 0), (2, .int 0), (0, .ref m0), (1, .int ds_)]) hx hb dX3_pass_38 rfl hl (by decide) rfl (fun ls hl => ?_)
    refine lv_iload_n hx hb dX3_pass_39 rfl (lv_at hl 0 rfl) ?_
    refine lv_iload_n hx hb dX3_pass_40 rfl (lv_at hl 3 rfl) ?_
    refine lv_icmp_ge (tgt := 64) hx hb dX3_pass_41 (by decide) (fun c_41 => ?_) (fun c_41 => ?_)
    · refine lv_iload_n hx hb dX3_pass_64 rfl (lv_at hl 1 rfl) ?_
      have w_th : 1 = cdPassM td ds_ := (by simp [cdPassM, c_8, c_41])
      exact hret _ _ _ _ 0 (ag, wsn) dX3_pass_65 (Or.inl rfl) trivial (by show va_P D vwCl (wM cy m0 m1 m2 m3 m4 m5 m6 m7 m8 m9 m10 m11 m12 m13 m14 m15 m16 m17 (cdPassM td ds_) td sed mi fr to lim f1 f2 dis pin ag en cm mc su isu fir lgt ofs rn wsn) _; rw [← w_th]; exact hP) hS
    · refine lv_aload_n hx hb dX3_pass_44 rfl (lv_at hl 2 rfl) ?_
      refine va_get (D := D) (ci := 3) (v := .int 1) (C := RX3) (T := TX3) (N := 22) hx hb hts g_X3 hown hE.1 hP 0 rfl rfl 0 (by decide) f_66 (fun _ h9 => h9) rfl dX3_pass_45 ?_
      refine lv_if_ne (tgt := 64) hx hb dX3_pass_48 (by decide) (fun _ => ?_) (fun c_48 => absurd c_48 (by decide))
      refine lv_iload_n hx hb dX3_pass_64 rfl (lv_at hl 1 rfl) ?_
      have w_th : 1 = cdPassM td ds_ := (by simp [cdPassM, c_8, c_41])
      exact hret _ _ _ _ 0 (ag, wsn) dX3_pass_65 (Or.inl rfl) trivial (by show va_P D vwCl (wM cy m0 m1 m2 m3 m4 m5 m6 m7 m8 m9 m10 m11 m12 m13 m14 m15 m16 m17 (cdPassM td ds_) td sed mi fr to lim f1 f2 dis pin ag en cm mc su isu fir lgt ofs rn wsn) _; rw [← w_th]; exact hP) hS
