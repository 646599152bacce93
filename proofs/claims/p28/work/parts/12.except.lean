/-! Methods that return with no cell made, or throw with one: rows that follow the kit's vx_Q, vx_Met, vx_back, vx_callBack, vx_runV, vx_runS, vx_calli, vx_callv, vx_ofW, with two accounts. -/
section KXA
def kx_Q (Qc : Array Value → State → Outcome → State → Prop) (XC : String → State → State → Prop) (mc ms : Nat) (free : Addr → Prop) : Array Value → State → Outcome → State → Prop := fun a st o t =>
  (Qc a st o t ∧ ∃ L, FrameEnd st o t L 0 0 ∧ ∀ q ∈ L, free q.base) ∨ ∃ q, o = .threw q ∧ vx_T XC st q t mc ms free
/-- a callee that returns or throws -/
def kx_Met (l : Launch) (y : MethodName) (ws : List Cond) (rm : Room) (Pc : Array Value → State → Prop) (Qc : Array Value → State → Outcome → State → Prop) (XC : String → State → State → Prop) (mc ms : Nat) (free : Addr → Prop) : Prop :=
  MetFree l y (headSpec ws rm) Pc (fun _ _ _ _ _ => True) (kx_Q Qc XC mc ms free)
section Payer
variable {l : Launch} {R : Room} {p : Program} {e : Env} {below : List Frame} {s : State} {sargs : Array Value} {y : MethodName} {len W9 : Nat}
theorem kx_back {ws : List Cond} {rm : Room} {Pc : Array Value → State → Prop} {Qc : Array Value → State → Outcome → State → Prop} {XC : String → State → State → Prop} {mc ms : Nat} {free : Addr → Prop} {bytes : ByteArray} {maxL : Nat} {ret : Option FieldType}
    (hM : kx_Met l y ws rm Pc Qc XC mc ms free) (hblind : FrameBlind Pc) (hrc : rm.cells = mc) (hrs : rm.slots = ms)
    (hframes : rm.frames + 1 ≤ R.frames) (hlocals : W9 + (maxL + 11) + rm.locals ≤ R.locals)
    (hws : ∀ w ∈ ws, ∀ a' U, s.WarmedH U.vm → w.before a' U = true) (hcode : Cond.code y bytes maxL ret ∈ ws) (hinit : ∀ a' U, s.WarmedH U.vm → (Cond.initialized y.cls).before a' U = true) :
    vx_Back l R p e below s sargs y len W9 (PreOf R mc ms Pc) (PostOf Qc 0 0 free) (vx_Post XC mc ms free) := by
  intro m meth c A g ig mk a X hg hsize hdg hW hn hp
  have h1 : (headSpec ws rm).pre.before a A.U = true := atoms_intro fun w hw => hws w hw _ _ X.warmed
  have h2 : (Cond.code y bytes maxL ret).before a A.U = true := hws _ hcode _ _ X.warmed
  have h3 : (Cond.initialized y.cls).before a A.U = true := hinit _ _ X.warmed
  have h4 : A.cells + (headSpec ws rm).room.cells ≤ R.cells := by rw [show (headSpec ws rm).room.cells = mc from hrc]; exact hp.1
  have h5 : A.slots + (headSpec ws rm).room.slots ≤ R.slots := by rw [show (headSpec ws rm).room.slots = ms from hrs]; exact hp.2.1
  have hPc : Pc a (A.U.calling g mk a) := hblind _ _ _ _ hp.2.2
  obtain ⟨U, Ls, c0, s0⟩ := A
  dsimp only [Pt.U, Pt.locs, Pt.cells, Pt.slots] at h1 h2 h3 h4 h5 X hn hPc ⊢
  obtain ⟨methY, cY, hmY, hcY, -, hlY, -, -, -, -⟩ := Cond.code_spec hn h2
  obtain ⟨kY, hkY, -⟩ := className_of_methodNamed hn
  have hinitY : kY.init = .initialized := Cond.initialized_spec (findClass_of_methodNamed hn) hkY h3
  have h : At U g.method c below := by rw [hg]; exact X.here
  have hlocals9 : W9 + (maxL + 11) + (headSpec ws rm).room.locals ≤ R.locals := hlocals
  have happ : (headSpec ws rm).appliesLoose y e.platform (U.calling g mk a) = true :=
    Spec.appliesLoose_calling (g := g) h hdg hn hkY hinitY
      (X.room_calling (g := g) (R' := (headSpec ws rm).room) hsize hmY hcY hframes (by rw [hlY]; omega) h4 h5) h1
  obtain ⟨mid, hmid⟩ := h.above
  have hfr : (U.setTop g).frames = (.java g :: mid) ++ below := by rw [State.frames_setTop' g h.top, hmid]; rfl
  obtain ⟨o, s₂, hsteps, -, hend, hq⟩ := Steps.callFree hM p X.admits X.cas X.clock (acts := []) hfr happ hPc trivial
  have hq' : kx_Q Qc XC mc ms free a (U.calling g mk a) o s₂ := hq
  rw [State.frames_setTop' g h.top] at hend
  obtain ⟨g₀, hg0⟩ := Option.isSome_iff_exists.mp h.top
  obtain ⟨r, hr⟩ := State.topJava?_eq_some.mp hg0
  have hr' : (({ U with heap := s₂.heap, slotsUsed := s₂.slotsUsed } : State).setVm s₂.vm).frames = .java g₀ :: r := hr
  rcases hq' with ⟨hqc, L, hfe, hL⟩ | ⟨q, rfl, E, ce, L, hx, hce, hcv, hcl, hW₂, hsm, hL⟩
  · obtain ⟨⟨v, rfl⟩, hW₂, e2, q2, q3, q4, q5, q6⟩ := id hfe
    have e3 : s₂ = ({ (U.calling g mk a).setFrames s₂.frames with heap := s₂.heap, slotsUsed := s₂.slotsUsed } : State).setVm s₂.vm := by
      have : s₂ = ({ s₂ with vm := (U.calling g mk a).vm } : State).setVm s₂.vm := rfl
      rw [e2] at this
      exact this
    obtain ⟨c₂, i₂, len₂, hc₂, hd₂, hf₂⟩ := hend
    have hW' : U.WarmedH s₂.vm := hW₂
    have hcc : c₂ = c := by
      have h1 : s₂.code? g.method = U.code? g.method := by
        rw [State.code?_eq, State.code?_eq, hW'.alike.method?]
      exact Option.some.inj (hc₂.symm.trans (h1.trans h.code))
    subst hcc
    have hlen : len₂ = len := by rw [hdg] at hd₂; cases hd₂; rfl
    subst hlen
    have hs₂ : s₂ = (({ U with heap := s₂.heap, slotsUsed := s₂.slotsUsed } : State).setVm s₂.vm).setTop { g with pc := g.pc + len₂, stack := v.toList ++ g.stack } := by
      refine e3.trans ?_
      rw [hf₂, State.calling_eq h.top, State.setFrames_setFrames, State.setTop_of_frames _ hr', hr]
      rfl
    have hsame : U.sameButNew ({ U with heap := s₂.heap, slotsUsed := s₂.slotsUsed } : State) L 0 0 := by
      refine ⟨?_, q2, q3, q4, q5, q6⟩
      obtain ⟨t, ht, -⟩ := State.frames_cons hr
      show ({ U with heap := s₂.heap, slotsUsed := s₂.slotsUsed } : State) = { U.setFrames U.frames with heap := s₂.heap, slotsUsed := s₂.slotsUsed }
      rw [State.setFrames_self ht]
    subst hg
    refine Or.inl ⟨v, ⟨(({ U with heap := s₂.heap, slotsUsed := s₂.slotsUsed } : State).setVm s₂.vm), Ls ++ L, c0 + 0, s0 + 0⟩,
      ⟨X.admits, X.cas, X.clock, X.frames, X.room, X.hears, X.method, X.code, (X.here.setHeapUsed s₂.heap s₂.slotsUsed).setVm hW'.alike, X.tail, State.WarmedH.trans X.warmed hW', X.limits, X.bytes, X.same.trans (hsame.setVm s.vm)⟩,
      ⟨g, mk, s₂, L, rfl, rfl, hqc, rfl, hL, rfl, rfl⟩, ?_⟩
    show Steps p.tables e below _ ((({ U with heap := s₂.heap, slotsUsed := s₂.slotsUsed } : State).setVm s₂.vm).setTop { g with pc := g.pc + len₂, stack := v.toList ++ g.stack })
    rw [← hs₂]
    exact hsteps
  · obtain ⟨e2, q2, q3, q4, q5, q6⟩ := id hsm
    have e3 : s₂ = ({ (U.calling g mk a).setFrames s₂.frames with heap := s₂.heap, slotsUsed := s₂.slotsUsed } : State).setVm s₂.vm := by
      have : s₂ = ({ s₂ with vm := (U.calling g mk a).vm } : State).setVm s₂.vm := rfl
      rw [e2] at this
      exact this
    have hf₂ : s₂.frames = .throwing q :: .java g :: U.frames.tail := hend
    have hW' : U.WarmedH s₂.vm := hW₂
    have hs₂ : s₂ = ((({ U with heap := s₂.heap, slotsUsed := s₂.slotsUsed } : State).setVm s₂.vm).setTop g).pushFrame (.throwing q) := by
      refine e3.trans ?_
      rw [hf₂, State.calling_eq h.top, State.setFrames_setFrames, State.pushFrame, State.frames_setTop _ hr', State.setTop_of_frames _ hr', State.setFrames_setFrames, hr]
      rfl
    have hsame : U.sameButNew ({ U with heap := s₂.heap, slotsUsed := s₂.slotsUsed } : State) L mc ms := by
      refine ⟨?_, q2, q3, q4, q5, q6⟩
      obtain ⟨t, ht, -⟩ := State.frames_cons hr
      show ({ U with heap := s₂.heap, slotsUsed := s₂.slotsUsed } : State) = { U.setFrames U.frames with heap := s₂.heap, slotsUsed := s₂.slotsUsed }
      rw [State.setFrames_self ht]
    subst hg
    refine Or.inr ⟨q, ⟨(({ U with heap := s₂.heap, slotsUsed := s₂.slotsUsed } : State).setVm s₂.vm), Ls ++ L, c0 + mc, s0 + ms⟩,
      ⟨X.admits, X.cas, X.clock, X.frames, X.room, X.hears, X.method, X.code, (X.here.setHeapUsed s₂.heap s₂.slotsUsed).setVm hW'.alike, X.tail, State.WarmedH.trans X.warmed hW', X.limits, X.bytes, X.same.trans (hsame.setVm s.vm)⟩,
      ⟨g, mk, s₂, L, E, ce, rfl, rfl, hx, hce, hcv, hcl, rfl, hL, rfl, rfl⟩, ?_⟩
    show Steps p.tables e below _ (((({ U with heap := s₂.heap, slotsUsed := s₂.slotsUsed } : State).setVm s₂.vm).setTop g).pushFrame (.throwing q))
    rw [← hs₂]
    exact hsteps
end Payer
def kx_Run (p : Program) (l : Launch) (e : Env) (R : Room) (s : State) (m : MethodId) (args : Array Value) (below : List Frame) (meth : Method) (c : Code) (H : Heap) (locs : List Loc) (cells slots mc ms : Nat) (g : JFrame) (rest : List Value) (Qa : State → Outcome → State → Prop) (XC : String → State → State → Prop) (free : Addr → Prop) : Prop :=
  ∀ T : State, T.heap = H → Stand p l e R s m args below meth c T locs cells slots →
    (∃ (v : Option Value) (st₀ t T' : State) (L : List Loc), st₀.heap = H ∧ Stand p l e R s m args below meth c T' (locs ++ L) (cells + 0) (slots + 0) ∧ (∀ q ∈ L, free q.base) ∧ T'.heap = t.heap ∧ T'.vm = t.vm ∧ Qa st₀ (.returned v) t ∧
      Goes p e below T g T' { g with pc := g.pc + 3, stack := v.toList ++ rest }) ∨
    (∃ (q : Addr) (st₀ t T' : State) (L : List Loc) (E : String) (ce : Cell), st₀.heap = H ∧ Stand p l e R s m args below meth c T' (locs ++ L) (cells + mc) (slots + ms) ∧ (∀ z ∈ L, free z.base) ∧ T'.heap = t.heap ∧ T'.vm = t.vm ∧ XC E st₀ t ∧ t.heap[q]? = some ce ∧ ce.vm = .none ∧ s.vm.findClass E = some ce.cls ∧
      Steps p.tables e below (T.setTop g) ((T'.setTop { g with stack := rest }).pushFrame (.throwing q)))
section Runs
variable {p : Program} {l : Launch} {e : Env} {R : Room} {s : State} {m : MethodId} {args : Array Value} {below : List Frame} {meth : Method} {c : Code} {H : Heap} {locs : List Loc} {cells slots : Nat}
variable {y : MethodName} {bytes cc : ByteArray} {maxL nL mc ms n index : Nat} {ret : Option FieldType} {ws : List Cond} {rm : Room} {Pc : Array Value → State → Prop} {Qc : Array Value → State → Outcome → State → Prop} {XC : String → State → State → Prop} {free : Addr → Prop} {Ts : List Cond} {own C : String} {b : Addr} {As rest : List Value} {g : JFrame}
theorem kx_callBack (cb : CallB R s args own index y bytes maxL ret ws rm mc ms n) (hM : kx_Met l y ws rm Pc Qc XC mc ms free) (hbl : FrameBlind Pc) : vx_Back l R p e below s args y 3 8 (PreOf R mc ms Pc) (PostOf Qc 0 0 free) (vx_Post XC mc ms free) := by
  obtain ⟨hrc, hrs, hfr, hlo, hws, hcw, -, hini, -⟩ := cb
  exact kx_back (bytes := bytes) (maxL := maxL) (ret := ret) hM hbl hrc hrs hfr hlo hws hcw (fun a' U hW => word_at hW (Or.inl (by first | rfl | simp [Cond.onTables, Cond.keeps, Cond.steady])) hini)
theorem kx_runV (S : CallFix p m c cc nL s args Ts own) (hM : kx_Met l y ws rm Pc Qc XC mc ms free) (cw : CallW R s args own C index y bytes maxL ret ws rm mc ms n) (hp : PreV s H C b Pc As)
    (hg : g.method = m) (hn : As.length = n) (hsize : g.locals.size = nL) (hstack : g.stack = As.reverse ++ .ref b :: rest) (hW : 2 * g.monitorRoom + (rest.map fun v => v.category).sum ≤ 8) (hdg : decode cc g.pc = .ok (.invokevirtual index, 3)) (hf : cells + mc ≤ R.cells ∧ slots + ms ≤ R.slots) :
    kx_Run p l e R s m args below meth c H locs cells slots mc ms g rest (Qc (Value.ref b :: As).toArray) XC free := by
  have hK : vx_Back l R p e below s args y 3 8 (PreOf R mc ms Pc) (PostOf Qc 0 0 free) (vx_Post XC mc ms free) := kx_callBack cw.1 hM hp.1
  obtain ⟨⟨-, -, -, -, -, -, hcode, -, hy, hlen, hl⟩, hin, hse⟩ := cw
  obtain ⟨hx, hb, hml, ho, -⟩ := S
  obtain ⟨-, ⟨cellB, hcB, hoB, hclB⟩, hPc⟩ := hp
  intro T hT X
  rcases vx_callV X hx (C := C) (bytes := bytes) (maxL := maxL) (ret := ret) ho hl hin hse hcode hy hK (by rw [hT]; exact hcB) hoB hclB hg (hsize.trans hml.symm) (argsL := As) (rest := rest) (fun sig h => hn.trans (hlen sig h)) hstack hW (by rw [hb]; exact hdg)
    (fun vm₁ hW₁ => ⟨hf.1, hf.2, hPc (T.setVm vm₁) hT hW₁⟩) with ⟨v, vm₁, ⟨U', l2, c2, s2⟩, hW₁, X', ⟨g', mk, t, L, e1, e2, hq, h1, hL, h2, h3⟩, st⟩ | ⟨q, vm₁, ⟨U', l2, c2, s2⟩, hW₁, X', ⟨g', mk, t, L, E, ce, e1, e2, hq, hce, hcv, hcl, h1, hL, h2, h3⟩, st⟩
  · dsimp only [Pt.U, Pt.locs, Pt.cells, Pt.slots] at X' e1 e2 h1 h2 h3 st
    subst h1; subst h2; subst h3
    exact Or.inl ⟨v, (T.setVm vm₁).calling g' mk (Value.ref b :: As).toArray, t, U', L, hT, X', hL, e1, e2, hq, st⟩
  · dsimp only [Pt.U, Pt.locs, Pt.cells, Pt.slots] at X' e1 e2 h1 h2 h3 st hcl
    subst h1; subst h2; subst h3
    exact Or.inr ⟨q, (T.setVm vm₁).calling g' mk (Value.ref b :: As).toArray, t, U', L, E, ce, hT, X', hL, e1, e2, hq, hce, hcv, vx_cls hW₁ hcl, st⟩
theorem kx_runS (S : CallFix p m c cc nL s args Ts own) (hM : kx_Met l y ws rm Pc Qc XC mc ms free) (cw : CallB R s args own index y bytes maxL ret ws rm mc ms n ∧ (Cond.static y).before args s = true) (hp : PreS s H Pc As)
    (hg : g.method = m) (hn : As.length = n) (hsize : g.locals.size = nL) (hstack : g.stack = As.reverse ++ rest) (hW : 2 * g.monitorRoom + (rest.map fun v => v.category).sum ≤ 8) (hdg : decode cc g.pc = .ok (.invokestatic index, 3)) (hf : cells + mc ≤ R.cells ∧ slots + ms ≤ R.slots) :
    kx_Run p l e R s m args below meth c H locs cells slots mc ms g rest (Qc As.toArray) XC free := by
  have hK : vx_Back l R p e below s args y 3 8 (PreOf R mc ms Pc) (PostOf Qc 0 0 free) (vx_Post XC mc ms free) := kx_callBack cw.1 hM hp.1
  obtain ⟨⟨-, -, -, -, -, -, hcode, hini, hy, hlen, hl⟩, hstt⟩ := cw
  obtain ⟨hx, hb, hml, ho, -⟩ := S
  intro T hT X
  rcases vx_callS X hx (bytes := bytes) (maxL := maxL) (ret := ret) ho hl hstt hini hcode hy hK hg (hsize.trans hml.symm) (argsL := As) (rest := rest) (fun sig h => hn.trans (hlen sig h)) hstack hW (by rw [hb]; exact hdg)
    (fun vm₁ hW₁ => ⟨hf.1, hf.2, hp.2 (T.setVm vm₁) hT hW₁⟩) with ⟨v, vm₁, ⟨U', l2, c2, s2⟩, hW₁, X', ⟨g', mk, t, L, e1, e2, hq, h1, hL, h2, h3⟩, st⟩ | ⟨q, vm₁, ⟨U', l2, c2, s2⟩, hW₁, X', ⟨g', mk, t, L, E, ce, e1, e2, hq, hce, hcv, hcl, h1, hL, h2, h3⟩, st⟩
  · dsimp only [Pt.U, Pt.locs, Pt.cells, Pt.slots] at X' e1 e2 h1 h2 h3 st
    subst h1; subst h2; subst h3
    exact Or.inl ⟨v, (T.setVm vm₁).calling g' mk As.toArray, t, U', L, hT, X', hL, e1, e2, hq, st⟩
  · dsimp only [Pt.U, Pt.locs, Pt.cells, Pt.slots] at X' e1 e2 h1 h2 h3 st hcl
    subst h1; subst h2; subst h3
    exact Or.inr ⟨q, (T.setVm vm₁).calling g' mk As.toArray, t, U', L, E, ce, hT, X', hL, e1, e2, hq, hce, hcv, vx_cls hW₁ hcl, st⟩
end Runs
section Rows
variable {p : Program} {l : Launch} {e : Env} {R : Room} {s : State} {m : MethodId} {args : Array Value} {below : List Frame} {meth : Method} {c : Code} {H : Heap} {locs : List Loc} {cells slots : Nat} {Q : State → Prop}
variable {mc ms : Nat} {free : Addr → Prop} {A0 A1 : Nat → Prop} {H0 : Heap} {a : Array Value} {pc : Nat} {ls : Array Slot} {st0 rest : List Value}
theorem kx_calli {S SX : Type} {post : Int32 → S → Prop} {px : SX → Prop} {B : S → State → Prop} {BX : String → SX → State → Prop} {AX : Nat → Prop} (hr : kx_Run p l e R s m args below meth c H locs cells slots mc ms (F0 m pc ls st0) rest (va_Qi post B A1 a) (vx_X px BX AX) free) (hS : va_S A0 H0 H locs) (hA : ∀ q, q < H.size → A1 q → A0 q) (hf : ∀ q, free q → A0 q) (hAX : ∀ q, q < H.size → AX q → A0 q)
    (kx : ∀ (E : String) (ce : Cell) (q9 : Addr) (u : SX) (t : State) (H1 : Heap) (locs1 : List Loc), t.heap = H1 → s.vm.Alike t.vm → px u → BX E u t → H.size ≤ H1.size → (∀ q : Nat, q < H.size → ¬ AX q → H1[q]? = H[q]?) → va_S A0 H0 H1 locs1 → H1[q9]? = some ce → ce.vm = .none → s.vm.findClass E = some ce.cls → vx_W p l e R s m args below meth c H1 locs1 (cells + mc) (slots + ms) Q (F0 m pc ls rest) q9)
    (kk : ∀ (r : Int32) (u : S) (t : State) (H1 : Heap) (locs1 : List Loc), t.heap = H1 → s.vm.Alike t.vm → post r u → B u t → H.size ≤ H1.size → (∀ q : Nat, q < H.size → ¬ A1 q → H1[q]? = H[q]?) → va_S A0 H0 H1 locs1 → W p l e R s m args below meth c H1 locs1 (cells + 0) (slots + 0) Q (F0 m (pc + 3) ls (.int r :: rest))) : W p l e R s m args below meth c H locs cells slots Q (F0 m pc ls st0) := by
  intro T hT X
  rcases hr T hT X with ⟨v, st₀, t, T', L, h0, X', hL, e1, e2, ⟨⟨r, u, hv, hp, hb⟩, hF⟩, st⟩ | ⟨q, st₀, t, T', L, E, ce, h0, X', hL, e1, e2, ⟨u, hp, hb, hF⟩, hce, hcv, hcl, st⟩
  · cases hv
    obtain ⟨k1, k2, k3⟩ := vx_keep h0 e1 hS hA hf hL hF
    obtain ⟨t2, a1, b1⟩ := kk r u t T'.heap (locs ++ L) e1.symm (by rw [← e2]; exact X'.warmed.alike) hp hb k1 k2 k3 T' rfl X'
    exact ⟨t2, st t2 a1, b1⟩
  · obtain ⟨k1, k2, k3⟩ := vx_keep h0 e1 hS hAX hf hL hF
    obtain ⟨t2, a1, b1⟩ := kx E ce q u t T'.heap (locs ++ L) e1.symm (by rw [← e2]; exact X'.warmed.alike) hp hb k1 k2 k3 (by rw [e1]; exact hce) hcv hcl T' rfl X'
    exact ⟨t2, st.trans a1, b1⟩
theorem kx_callv {S SX : Type} {post : S → Prop} {px : SX → Prop} {B : S → State → Prop} {BX : String → SX → State → Prop} {AX : Nat → Prop} (hr : kx_Run p l e R s m args below meth c H locs cells slots mc ms (F0 m pc ls st0) rest (va_Qv post B A1 a) (vx_X px BX AX) free) (hS : va_S A0 H0 H locs) (hA : ∀ q, q < H.size → A1 q → A0 q) (hf : ∀ q, free q → A0 q) (hAX : ∀ q, q < H.size → AX q → A0 q)
    (kx : ∀ (E : String) (ce : Cell) (q9 : Addr) (u : SX) (t : State) (H1 : Heap) (locs1 : List Loc), t.heap = H1 → s.vm.Alike t.vm → px u → BX E u t → H.size ≤ H1.size → (∀ q : Nat, q < H.size → ¬ AX q → H1[q]? = H[q]?) → va_S A0 H0 H1 locs1 → H1[q9]? = some ce → ce.vm = .none → s.vm.findClass E = some ce.cls → vx_W p l e R s m args below meth c H1 locs1 (cells + mc) (slots + ms) Q (F0 m pc ls rest) q9)
    (kk : ∀ (u : S) (t : State) (H1 : Heap) (locs1 : List Loc), t.heap = H1 → s.vm.Alike t.vm → post u → B u t → H.size ≤ H1.size → (∀ q : Nat, q < H.size → ¬ A1 q → H1[q]? = H[q]?) → va_S A0 H0 H1 locs1 → W p l e R s m args below meth c H1 locs1 (cells + 0) (slots + 0) Q (F0 m (pc + 3) ls (rest))) : W p l e R s m args below meth c H locs cells slots Q (F0 m pc ls st0) := by
  intro T hT X
  rcases hr T hT X with ⟨v, st₀, t, T', L, h0, X', hL, e1, e2, ⟨⟨u, hv, hp, hb⟩, hF⟩, st⟩ | ⟨q, st₀, t, T', L, E, ce, h0, X', hL, e1, e2, ⟨u, hp, hb, hF⟩, hce, hcv, hcl, st⟩
  · cases hv
    obtain ⟨k1, k2, k3⟩ := vx_keep h0 e1 hS hA hf hL hF
    obtain ⟨t2, a1, b1⟩ := kk u t T'.heap (locs ++ L) e1.symm (by rw [← e2]; exact X'.warmed.alike) hp hb k1 k2 k3 T' rfl X'
    exact ⟨t2, st t2 a1, b1⟩
  · obtain ⟨k1, k2, k3⟩ := vx_keep h0 e1 hS hAX hf hL hF
    obtain ⟨t2, a1, b1⟩ := kx E ce q u t T'.heap (locs ++ L) e1.symm (by rw [← e2]; exact X'.warmed.alike) hp hb k1 k2 k3 (by rw [e1]; exact hce) hcv hcl T' rfl X'
    exact ⟨t2, st.trans a1, b1⟩
end Rows
section Ends
variable {p : Program} {l : Launch} {e : Env} {R : Room} {s : State} {m : MethodId} {args : Array Value} {below : List Frame} {meth : Method} {c : Code} {H : Heap} {locs : List Loc} {cells slots : Nat}
variable {free : Addr → Prop} {Qc : Array Value → State → Outcome → State → Prop} {XC : String → State → State → Prop}
def kx_MQ (below : List Frame) (Qc : Array Value → State → Outcome → State → Prop) (XC : String → State → State → Prop) (a : Array Value) (s : State) (mc ms : Nat) (free : Addr → Prop) : State → Prop := fun t =>
  ∃ o, t.status = .running ∧ Ended t below o ∧ kx_Q Qc XC mc ms free a s o t
theorem kx_ret {g : JFrame} {mc ms : Nat} (k : W p l e R s m args below meth c H locs cells slots (MQ below Qc args s 0 0 free) g) : W p l e R s m args below meth c H locs cells slots (kx_MQ below Qc XC args s mc ms free) g := by
  intro T hT X
  obtain ⟨t, a1, o, b1, b2, b3, b4⟩ := k T hT X
  exact ⟨t, a1, o, b1, b2, Or.inl ⟨b3, b4⟩⟩
theorem kx_thr {g : JFrame} {mc ms : Nat} (k : W p l e R s m args below meth c H locs cells slots (vx_MQ below (fun _ _ _ _ => False) XC args s mc ms free) g) : W p l e R s m args below meth c H locs cells slots (kx_MQ below Qc XC args s mc ms free) g := by
  intro T hT X
  obtain ⟨t, a1, o, b1, b2, b3⟩ := k T hT X
  exact ⟨t, a1, o, b1, b2, b3.elim (fun h => h.1.elim) Or.inr⟩
theorem kx_thrW {g : JFrame} {mc ms : Nat} {q : Addr} (k : vx_W p l e R s m args below meth c H locs cells slots (vx_MQ below (fun _ _ _ _ => False) XC args s mc ms free) g q) : vx_W p l e R s m args below meth c H locs cells slots (kx_MQ below Qc XC args s mc ms free) g q := by
  intro T hT X
  obtain ⟨t, a1, o, b1, b2, b3⟩ := k T hT X
  exact ⟨t, a1, o, b1, b2, b3.elim (fun h => h.1.elim) Or.inr⟩
end Ends
section Bodies
variable {l : Launch}
theorem kx_ofW {y : MethodName} {ws ws' : List Cond} {rm : Room} {Pc : Array Value → State → Prop} {Qc : Array Value → State → Outcome → State → Prop} {XC : String → State → State → Prop} {mc ms : Nat} {free : Addr → Prop} {cc : ByteArray} {maxL : Nat} {ret : Option FieldType}
    (hy : plainName y.cls = true) (hw : ws = Cond.code y cc maxL ret :: ws')
    (body : ∀ p e s m args below meth c s₁, BodyLoose p l y (headSpec ws rm) cc maxL ret e s m args below meth c s₁ → c.maxLocals = maxL → (∀ x ∈ c.exceptionTable.toList, False) → Pc args s →
      W p l e (headSpec ws rm).room s m args below meth c s.heap [] 0 0 (kx_MQ below Qc XC args s mc ms free) (entryFrame m args maxL)) : kx_Met l y ws rm Pc Qc XC mc ms free := by
  refine MetFree.of_bodyS (code := cc) (maxLocals := maxL) (ret := ret) hy ?_ ?_
  · intro args s m h hn
    obtain ⟨meth, c, h1, h2, h3, h4, h5, h6, -, -⟩ := Cond.code_spec hn (atoms_spec (ws := ws) h _ (by rw [hw]; exact List.mem_cons_self))
    exact ⟨meth, c, h1, h2, h3, h4, h5, h6⟩
  · intro p e s m args below meth c s₁ B hml hP _
    have hh0 : s₁.heap = s.heap := by rw [B.state]; rfl
    have ht : ∀ x ∈ c.exceptionTable.toList, False := by
      obtain ⟨meth9, c9, h1, h2, -, -, -, -, h7, -⟩ := Cond.code_spec B.named (atoms_spec (ws := ws) B.pre _ (by rw [hw]; exact List.mem_cons_self))
      cases Option.some.inj (h1.symm.trans B.method)
      cases Option.some.inj (h2.symm.trans (Stand.of_body B).code)
      intro x hx
      rw [Array.isEmpty_iff.mp h7] at hx
      cases hx
    obtain ⟨t, a1, o, b1, b2, b3⟩ := body p e s m args below meth c s₁ B hml ht hP s₁ hh0 (Stand.of_body B)
    exact ⟨t, o, a1, b1, b2, b3⟩
end Bodies
end KXA
section KX1
/-- the classes that are thrown, where the pool names them and their constructors -/
def kThs : List (String × Nat × Nat) := [(xIX, 130, 134), (xIA, 41, 45), (xIS, 54, 58)]
abbrev kNms : List String := ["java/lang/RuntimeException", "java/lang/Exception"]
theorem kx_good1 : ∀ w ∈ Cond.classLink RX2 130 xIX :: Cond.initialized xIX :: vx_atS RX2 134 xIX kNms, vx_ot w = true := by decide +kernel
theorem kx_good2 : ∀ w ∈ Cond.classLink RX2 41 xIA :: Cond.initialized xIA :: vx_atS RX2 45 xIA kNms, vx_ot w = true := by decide +kernel
theorem kx_good3 : ∀ w ∈ Cond.classLink RX2 54 xIS :: Cond.initialized xIS :: vx_atS RX2 58 xIS kNms, vx_ot w = true := by decide +kernel
abbrev kBad (X : String) : List Cond := [.declares (Bundle.initS "java/lang/RuntimeException"), .declares (Bundle.initS "java/lang/Exception"), .declares (Bundle.initS Bundle.tN), .castable X X]
theorem kx_bad1 : ∀ w ∈ (vx_atS RX2 134 xIX kNms).filter (fun w => !goodWord w), w ∈ kBad xIX := by decide +kernel
theorem kx_bad2 : ∀ w ∈ (vx_atS RX2 45 xIA kNms).filter (fun w => !goodWord w), w ∈ kBad xIA := by decide +kernel
theorem kx_bad3 : ∀ w ∈ (vx_atS RX2 58 xIS kNms).filter (fun w => !goodWord w), w ∈ kBad xIS := by decide +kernel
theorem kx_bads {s : State} {args : Array Value} (h : kEX s) {X : String} (hX : X ∈ [xIX, xIA, xIS]) : ∀ w ∈ kBad X, w.before args s = true := by
  intro w hw
  rcases List.mem_cons.mp hw with rfl | hw
  · exact va_Nw.use rfl (h.1 _ (by simp))
  rcases List.mem_cons.mp hw with rfl | hw
  · exact va_Nw.use rfl (h.1 _ (by simp))
  rcases List.mem_cons.mp hw with rfl | hw
  · exact va_Nw.use rfl (h.1 _ (by simp))
  rcases List.mem_cons.mp hw with rfl | hw
  · exact va_Nw.use rfl (h.2.1 _ hX)
  · cases hw
theorem kx_words {s : State} {args : Array Value} {cls : String} {ik ic : Nat} (hc : (cls, ik, ic) ∈ kThs) (h : kEX s) (h1 : ∀ w ∈ (vx_atS RX2 ic cls kNms).filter goodWord, w.before args s = true) :
    (∀ w ∈ vx_atS RX2 ic cls kNms, w.before args s = true) ∧ (∀ w ∈ Cond.classLink RX2 ik cls :: Cond.initialized cls :: vx_atS RX2 ic cls kNms, vx_ot w = true) ∧ Bundle.fit cls = true := by
  rcases List.mem_cons.mp hc with e | hc
  · cases e
    exact ⟨vx_hat h1 kx_bad1 (kx_bads h (by simp)), kx_good1, by decide +kernel⟩
  rcases List.mem_cons.mp hc with e | hc
  · cases e
    exact ⟨vx_hat h1 kx_bad2 (kx_bads h (by simp)), kx_good2, by decide +kernel⟩
  rcases List.mem_cons.mp hc with e | hc
  · cases e
    exact ⟨vx_hat h1 kx_bad3 (kx_bads h (by simp)), kx_good3, by decide +kernel⟩
  · cases hc
/-- two statics of Throwable, apart from the world -/
def kZ (A : Nat → Prop) (U : State) (H : Heap) : Prop := vx_Zq Bundle.tN "UNASSIGNED_STACK" Bundle.steD A U H ∧ vx_Zq Bundle.tN "SUPPRESSED_SENTINEL" Bundle.listD A U H
theorem kZ.moved {A : Nat → Prop} {u U : State} {H : Heap} (hvm : u.vm.Alike U.vm) (h : kZ A u H) : kZ A U H := ⟨vx_Zq.moved hvm h.1, vx_Zq.moved hvm h.2⟩
theorem kZ.kept {A : Nat → Prop} {U : State} {H H1 : Heap} (h : kZ A U H) (hq : ∀ a : Nat, a < H.size → ¬ A a → H1[a]? = H[a]?) : kZ A U H1 := ⟨vx_Zq.kept h.1 hq, vx_Zq.kept h.2 hq⟩
theorem kZ.narrow {A B : Nat → Prop} {U : State} {H : Heap} (h : kZ A U H) (hAB : ∀ q, B q → A q) : kZ B U H := ⟨vx_Zq.narrow h.1 hAB, vx_Zq.narrow h.2 hAB⟩
def kPx (D : va_G) (cy : ClassId × ClassId × ClassId) (av : List Value) (w : va_W) (sz : Nat) : Array Value → State → Prop :=
  va_Pc av (fun U => U.heap.size = sz ∧ va_P D vwCl w U.heap ∧ kE D cy U ∧ va_D (fun _ => True) w ∧ kZ (va_A w sz) U U.heap)
theorem kPx.blind {D : va_G} {cy : ClassId × ClassId × ClassId} {av : List Value} {w : va_W} {sz : Nat} : FrameBlind (kPx D cy av w sz) := by
  intro a U g mk q
  obtain ⟨q0, q1, qP, qK, qD, qZ⟩ := q
  exact ⟨q0, q1, qP, kE.same (u := U) (U := U.calling g mk a) rfl qK, qD, kZ.moved (u := U) (U := U.calling g mk a) (Vm.Alike.refl U.vm) qZ⟩
/-- what a throw says: of which class (px), and the world at it (wx) -/
abbrev kXC (D : va_G) (px : String → Prop) (wx : va_W) (A : Nat → Prop) : String → State → State → Prop := vx_X (fun _ : Unit => True) (fun E _ t => px E ∧ va_P D vwCl wx t.heap) A
def kXI (l : Launch) (D : va_G) (cy : ClassId × ClassId × ClassId) (y : MethodName) (wr : List Cond) (rm : Room) (av : List Value) (w : va_W) {S : Type} (post : Int32 → S → Prop) (wf : S → va_W) (px : String → Prop) (wx : va_W) : Prop :=
  ∀ sz : Nat, kx_Met l y wr rm (kPx D cy av w sz) (va_Qi post (fun u t => va_P D vwCl (wf u) t.heap) (va_A w sz)) (kXC D px wx (va_A w sz)) 1 6 (va_A w sz)
def kXV (l : Launch) (D : va_G) (cy : ClassId × ClassId × ClassId) (y : MethodName) (wr : List Cond) (rm : Room) (av : List Value) (w : va_W) {S : Type} (post : S → Prop) (wf : S → va_W) (px : String → Prop) (wx : va_W) : Prop :=
  ∀ sz : Nat, kx_Met l y wr rm (kPx D cy av w sz) (va_Qv post (fun u t => va_P D vwCl (wf u) t.heap) (va_A w sz)) (kXC D px wx (va_A w sz)) 1 6 (va_A w sz)
abbrev krx (f lo : Nat) : Room := { frames := f, cells := 1, slots := 6, locals := lo }
end KX1
section KX2
variable {p : Program} {l : Launch} {e : Env} {R : Room} {s : State} {m : MethodId} {args : Array Value} {below : List Frame} {meth : Method} {c : Code} {H : Heap} {locs : List Loc}
variable {cc : ByteArray} {pc : Nat} {ls : Array Slot} {rest : List Value} {D : va_G} {cy : ClassId × ClassId × ClassId} {A : Nat → Prop} {Qc : Array Value → State → Outcome → State → Prop} {px : String → Prop} {w wx : va_W} {wr : List Cond}
theorem kx_throwR (hx : p.tables.exec = Jvm.exec) (hb : c.code = cc) (hfl : l.stackTraces = false) (hown : s.vm.findClass RX2 = some m.cls) (hE : kE D cy s) (hZ : kZ A s s.heap) (hS : va_S A s.heap H locs) (hsize : ls.size = c.maxLocals) (hlocks : meth.locks = false) (hno : ∀ x ∈ c.exceptionTable.toList, False)
    {cls text : String} {ik is ic : Nat} (hc : (cls, ik, ic) ∈ kThs) (ht : (is, text) ∈ kStrs) (hts : ∀ w ∈ wr, w.before args s = true) (hw : ∀ w ∈ Cond.classLink RX2 ik cls :: Cond.initialized cls :: (vx_atS RX2 ic cls kNms).filter goodWord, w ∈ wr)
    (d0 : decode cc pc = .ok (.new ik, 3)) (d3 : decode cc (pc + 3) = .ok (.dup, 1)) (d4 : decode cc (pc + 4) = .ok (.ldc is, 2)) (d6 : decode cc (pc + 6) = .ok (.invokespecial ic, 3)) (d9 : decode cc (pc + 9) = .ok (.athrow, 1))
    (hRf : 5 < R.frames) (hRl : (rest.map fun v => v.category).sum + 82 ≤ R.locals) (hRc : 1 ≤ R.cells) (hRs : 6 ≤ R.slots) (hpx : px cls) (hP : va_P D vwCl wx H) :
    W p l e R s m args below meth c H locs 0 0 (kx_MQ below Qc (kXC D px wx A) args s 1 6 A) (F0 m pc ls rest) := by
  obtain ⟨a, hstr⟩ := hE.2.2.2.2.2.1 _ ht
  have hg : ∀ w ∈ (vx_atS RX2 ic cls kNms).filter goodWord, w.before args s = true := fun w h => hts w (hw w (List.mem_cons_of_mem _ (List.mem_cons_of_mem _ h)))
  obtain ⟨h1, h2, h3⟩ := kx_words (args := args) hc hE.2.2.2.2.2.2 hg
  refine kx_thr (vx_throwS (own := RX2) (cls := cls) (text := text) (names := kNms) (A := A) hx hb hfl hown h3 (by decide +kernel) (hts _ (hw _ List.mem_cons_self)) (hts _ (hw _ (List.mem_cons_of_mem _ List.mem_cons_self))) hstr h1 h2 hZ.1 hZ.2 hS hsize d0 d3 d4 d6 d9 (fun x hx => (hno x hx).elim) hRf hRl (by omega) (by omega) hlocks ?_ hS.2.2 (by omega) (by omega))
  intro t hvm hz hk
  refine ⟨(), trivial, ⟨hpx, ?_⟩, Nat.le_trans hS.1 hz, fun q hq hn => ?_⟩
  · exact hP.kept (fun k q hk2 => hk q.1 (hP k q hk2).lt)
  · rw [hk q (Nat.lt_of_lt_of_le hq hS.1)]
    exact hS.2.1 q hq hn
theorem kx_outR (hS : va_S A s.heap H locs) (hlocks : meth.locks = false) (hno : ∀ x ∈ c.exceptionTable.toList, False) {E : String} {ce : Cell} {q : Addr} (hcell : H[q]? = some ce) (hv : ce.vm = .none) (hcl : s.vm.findClass E = some ce.cls) (hpx : px E) (hP : va_P D vwCl wx H) :
    vx_W p l e R s m args below meth c H locs 1 6 (kx_MQ below Qc (kXC D px wx A) args s 1 6 A) (F0 m pc ls rest) q := by
  refine kx_thrW (vx_out (fun x hx => (hno x hx).elim) hlocks hcell hv hcl ?_ hS.2.2 (Nat.le_refl 1) (Nat.le_refl 6))
  intro t ht hvm
  exact ⟨(), trivial, ⟨hpx, by rw [ht]; exact hP⟩, by rw [ht]; exact hS.1, fun q hq hn => by rw [ht]; exact hS.2.1 q hq hn⟩
end KX2
section KX3
variable {l : Launch} {D : va_G} {cy : ClassId × ClassId × ClassId} {y : MethodName} {wr wr' : List Cond} {rm : Room} {av : List Value} {w wx : va_W} {px : String → Prop}
/-- what a body that may throw is given for its throws -/
def kThrow (p : Program) (l : Launch) (e : Env) (R : Room) (s : State) (m : MethodId) (args : Array Value) (below : List Frame) (meth : Method) (c : Code) (Q : State → Prop) (D : va_G) (A : Nat → Prop) (wr : List Cond) (cc : ByteArray) (px : String → Prop) (wx : va_W) : Prop :=
  ∀ (H : Heap) (locs : List Loc) (pc : Nat) (ls : Array Slot) (rest : List Value) (cls text : String) (ik is ic : Nat), va_S A s.heap H locs → ls.size = c.maxLocals → (cls, ik, ic) ∈ kThs → (is, text) ∈ kStrs → (∀ w ∈ Cond.classLink RX2 ik cls :: Cond.initialized cls :: (vx_atS RX2 ic cls kNms).filter goodWord, w ∈ wr) →
    decode cc pc = .ok (.new ik, 3) → decode cc (pc + 3) = .ok (.dup, 1) → decode cc (pc + 4) = .ok (.ldc is, 2) → decode cc (pc + 6) = .ok (.invokespecial ic, 3) → decode cc (pc + 9) = .ok (.athrow, 1) →
    5 < R.frames → (rest.map fun v => v.category).sum + 82 ≤ R.locals → px cls → va_P D vwCl wx H → W p l e R s m args below meth c H locs 0 0 Q (F0 m pc ls rest)
def kOut (p : Program) (l : Launch) (e : Env) (R : Room) (s : State) (m : MethodId) (args : Array Value) (below : List Frame) (meth : Method) (c : Code) (Q : State → Prop) (D : va_G) (A : Nat → Prop) (px : String → Prop) (wx : va_W) : Prop :=
  ∀ (H : Heap) (locs : List Loc) (pc : Nat) (ls : Array Slot) (rest : List Value) (E : String) (ce : Cell) (q : Addr), va_S A s.heap H locs → H[q]? = some ce → ce.vm = .none → s.vm.findClass E = some ce.cls → px E → va_P D vwCl wx H → vx_W p l e R s m args below meth c H locs 1 6 Q (F0 m pc ls rest) q
set_option maxHeartbeats 4000000 in
theorem kXI.of {S : Type} {post : Int32 → S → Prop} {wf : S → va_W} {cc : ByteArray} {maxL : Nat} {rt : FieldType} (hrt : rt = .int ∨ rt = .boolean) (hfl : l.stackTraces = false) (hy : plainName y.cls = true) (hy2 : y.cls = RX2) (hw : wr = Cond.code y cc maxL (some rt) :: wr') (hlen : (lg_sl av).length ≤ maxL) (hrc : 1 ≤ rm.cells) (hrs : 6 ≤ rm.slots)
    (body : ∀ (p : Program) (e : Env) (s : State) (m : MethodId) (args : Array Value) (below : List Frame) (meth : Method) (c : Code) (Q : State → Prop) (A : Nat → Prop) (ls : Array Slot),
      p.tables.exec = Jvm.exec → c.code = cc → c.maxLocals = maxL → s.vm.findClass y.cls = some m.cls → (∀ q ∈ wr, q.before args s = true) → kE D cy s → (∀ q : Nat, s.heap.size ≤ q → A q) → va_P D vwCl w s.heap → va_D A w → lv_has ls maxL (lv_args 0 av) → kZ A s s.heap →
      (∀ (H : Heap) (locs : List Loc) (pc : Nat) (ls : Array Slot) (r : Int32) (u : S), decode cc pc = .ok (.ireturn, 1) → (rt = .int ∨ r = 0 ∨ r = 1) → post r u → va_P D vwCl (wf u) H → va_S A s.heap H locs → W p l e rm s m args below meth c H locs 0 0 Q (F0 m pc ls [.int r])) →
      kThrow p l e rm s m args below meth c Q D A wr cc px wx → kOut p l e rm s m args below meth c Q D A px wx →
      W p l e rm s m args below meth c s.heap [] 0 0 Q (F0 m 0 ls [])) : kXI l D cy y wr rm av w post wf px wx := by
  intro sz
  refine kx_ofW (cc := cc) (maxL := maxL) (ret := some rt) hy hw ?_
  intro p e s m args below meth c s₁ B hml hno hv
  obtain ⟨rfl, hsz, hP, hE, hD0, hZ⟩ := hv
  subst hsz
  have hl := lv_entry av (n := maxL) hlen
  rw [lg_entry_eq]
  have hlocks := B.notSynchronized
  have hown : s.vm.findClass RX2 = some m.cls := by rw [← hy2]; exact findClass_of_methodNamed B.named
  refine body p e s m _ below meth c _ (va_A w s.heap.size) _ B.exec B.bytes hml (findClass_of_methodNamed B.named) (atoms_spec (ws := wr) B.pre) hE (fun q h => Or.inr h) hP hD0.self hl hZ ?_ ?_ ?_
  · intro H locs pc ls r u hd h01 hp hPu hS
    refine kx_ret ?_
    rcases hrt with rfl | rfl
    · exact W.iret (v := r) B.exec B.bytes B.returns (fun t ht hW => ⟨⟨r, u, rfl, hp, by show va_P D vwCl (wf u) t.heap; rw [ht]; exact hPu⟩, hS.F ht⟩) hS.2.2 hd
    · refine W.zret (v := r) (ty := .boolean) B.exec B.bytes B.returns (k_narrow ?_) (fun t ht hW => ⟨⟨r, u, rfl, hp, by show va_P D vwCl (wf u) t.heap; rw [ht]; exact hPu⟩, hS.F ht⟩) hS.2.2 hd
      rcases h01 with h | h
      · exact absurd h (by decide)
      · exact h
  · intro H locs pc ls rest cls text ik is ic hS hsize hc ht hw2 d0 d3 d4 d6 d9 hRf hRl hpx hPx
    exact kx_throwR B.exec B.bytes hfl hown hE hZ hS hsize hlocks hno hc ht (atoms_spec (ws := wr) B.pre) hw2 d0 d3 d4 d6 d9 hRf hRl hrc hrs hpx hPx
  · intro H locs pc ls rest E ce q hS h1 h2 h3 hpx hPx
    exact kx_outR hS hlocks hno h1 h2 h3 hpx hPx
set_option maxHeartbeats 4000000 in
theorem kXV.of {S : Type} {post : S → Prop} {wf : S → va_W} {cc : ByteArray} {maxL : Nat} (hfl : l.stackTraces = false) (hy : plainName y.cls = true) (hy2 : y.cls = RX2) (hw : wr = Cond.code y cc maxL none :: wr') (hlen : (lg_sl av).length ≤ maxL) (hrc : 1 ≤ rm.cells) (hrs : 6 ≤ rm.slots)
    (body : ∀ (p : Program) (e : Env) (s : State) (m : MethodId) (args : Array Value) (below : List Frame) (meth : Method) (c : Code) (Q : State → Prop) (A : Nat → Prop) (ls : Array Slot),
      p.tables.exec = Jvm.exec → c.code = cc → c.maxLocals = maxL → s.vm.findClass y.cls = some m.cls → (∀ q ∈ wr, q.before args s = true) → kE D cy s → (∀ q : Nat, s.heap.size ≤ q → A q) → va_P D vwCl w s.heap → va_D A w → lv_has ls maxL (lv_args 0 av) → kZ A s s.heap →
      (∀ (H : Heap) (locs : List Loc) (pc : Nat) (ls : Array Slot) (u : S), decode cc pc = .ok (.return_, 1) → post u → va_P D vwCl (wf u) H → va_S A s.heap H locs → W p l e rm s m args below meth c H locs 0 0 Q (F0 m pc ls [])) →
      kThrow p l e rm s m args below meth c Q D A wr cc px wx → kOut p l e rm s m args below meth c Q D A px wx →
      W p l e rm s m args below meth c s.heap [] 0 0 Q (F0 m 0 ls [])) : kXV l D cy y wr rm av w post wf px wx := by
  intro sz
  refine kx_ofW (cc := cc) (maxL := maxL) (ret := none) hy hw ?_
  intro p e s m args below meth c s₁ B hml hno hv
  obtain ⟨rfl, hsz, hP, hE, hD0, hZ⟩ := hv
  subst hsz
  have hl := lv_entry av (n := maxL) hlen
  rw [lg_entry_eq]
  have hlocks := B.notSynchronized
  have hown : s.vm.findClass RX2 = some m.cls := by rw [← hy2]; exact findClass_of_methodNamed B.named
  refine body p e s m _ below meth c _ (va_A w s.heap.size) _ B.exec B.bytes hml (findClass_of_methodNamed B.named) (atoms_spec (ws := wr) B.pre) hE (fun q h => Or.inr h) hP hD0.self hl hZ ?_ ?_ ?_
  · intro H locs pc ls u hd hp hPu hS
    refine kx_ret ?_
    exact W.vret B.exec B.bytes B.returns (fun t ht hW => ⟨⟨u, rfl, hp, by show va_P D vwCl (wf u) t.heap; rw [ht]; exact hPu⟩, hS.F ht⟩) hS.2.2 hd
  · intro H locs pc ls rest cls text ik is ic hS hsize hc ht hw2 d0 d3 d4 d6 d9 hRf hRl hpx hPx
    exact kx_throwR B.exec B.bytes hfl hown hE hZ hS hsize hlocks hno hc ht (atoms_spec (ws := wr) B.pre) hw2 d0 d3 d4 d6 d9 hRf hRl hrc hrs hpx hPx
  · intro H locs pc ls rest E ce q hS h1 h2 h3 hpx hPx
    exact kx_outR hS hlocks hno h1 h2 h3 hpx hPx
end KX3
section KX4
variable {p : Program} {l : Launch} {e : Env} {R : Room} {s : State} {m : MethodId} {args : Array Value} {below : List Frame} {meth : Method} {c : Code} {H : Heap} {locs : List Loc} {cells slots : Nat} {Q : State → Prop}
variable {cc : ByteArray} {nL : Nat} {Ts : List Cond} {own : String} {D : va_G} {cy : ClassId × ClassId × ClassId} {A0 : Nat → Prop}
variable {y : MethodName} {wr wr' : List Cond} {rm : Room} {b : Addr} {As rest st : List Value} {C host : String} {index maxL n : Nat} {bytes : ByteArray} {pc : Nat} {ls : Array Slot} {px : String → Prop} {wx : va_W}
theorem kx_preV {X Y wc : va_W} (hE : kE D cy s) (hA : ∀ q : Nat, s.heap.size ≤ q → A0 q) (hZ : kZ A0 s s.heap) (hP : va_P D vwCl (X ++ (wc ++ Y)) H) (hD : va_D A0 (X ++ (wc ++ Y))) (hS : va_S A0 s.heap H locs) {q0 ci : Nat} {fs : List Value} {q : vw_C} (hc : vwCl[ci]? = some q) (he : wc[q0]? = some (b, .inr (ci, fs))) : PreV s H q.1 b (kPx D cy (.ref b :: As) wc H.size) As :=
  ⟨kPx.blind, va_recv hE.1 (k_P_mid hP) hc he, fun U hU hW => ⟨rfl, by rw [hU], by rw [hU]; exact k_P_mid hP, kE.warm hW hE, (k_D_mid hD).weaken (fun _ _ _ _ => trivial), by rw [hU]; exact kZ.moved hW.alike ((hZ.kept hS.2.1).narrow (k_free hD hS hA))⟩⟩
theorem kx_preS {X Y wc : va_W} (hE : kE D cy s) (hA : ∀ q : Nat, s.heap.size ≤ q → A0 q) (hZ : kZ A0 s s.heap) (hP : va_P D vwCl (X ++ (wc ++ Y)) H) (hD : va_D A0 (X ++ (wc ++ Y))) (hS : va_S A0 s.heap H locs) : PreS s H (kPx D cy As wc H.size) As :=
  ⟨kPx.blind, fun U hU hW => ⟨rfl, by rw [hU], by rw [hU]; exact k_P_mid hP, kE.warm hW hE, (k_D_mid hD).weaken (fun _ _ _ _ => trivial), by rw [hU]; exact kZ.moved hW.alike ((hZ.kept hS.2.1).narrow (k_free hD hS hA))⟩⟩
/-- a call of an object's method that may throw; it answers an int -/
theorem kxV_i (S0 : CallFix p m c cc nL s args Ts own) (hE : kE D cy s) (hA : ∀ q : Nat, s.heap.size ≤ q → A0 q) (hZ : kZ A0 s s.heap) {X wc Y : va_W} (hP : va_P D vwCl (X ++ (wc ++ Y)) H) (hD : va_D A0 (X ++ (wc ++ Y))) (hS : va_S A0 s.heap H locs)
    {S : Type} {post : Int32 → S → Prop} {wf : S → va_W} (hM : kXI l D cy y wr rm (.ref b :: As) wc post wf px wx) (hsame : ∀ u, (wf u).map (fun q => q.1) = wc.map (fun q => q.1))
    {ret : Option FieldType} {q0 ci : Nat} {fs : List Value} {q : vw_C} (hc : vwCl[ci]? = some q) (he : wc[q0]? = some (b, .inr (ci, fs))) (hT : GoodIn Ts (wsV own index q.1 y wr)) (hw : wr = Cond.code y bytes maxL ret :: wr') (hrc : rm.cells = 1) (hrs : rm.slots = 6)
    (hd : y.cls = q.1 ∧ y.cls ≠ "java/lang/invoke/MethodHandle" ∧ y.cls ≠ "java/lang/invoke/VarHandle" ∧ (parseMethodDescriptor y.desc).map (fun d => d.parameters.length) = some n) (hR : rm.frames + 1 ≤ R.frames ∧ 8 + (maxL + 11) + rm.locals ≤ R.locals)
    (hn : As.length = n) (hsize : ls.size = nL) (hst : st = As.reverse ++ .ref b :: rest) (hW : (rest.map fun v => v.category).sum ≤ 8) (hdg : decode cc pc = .ok (.invokevirtual index, 3)) (hf : cells + 1 ≤ R.cells ∧ slots + 6 ≤ R.slots)
    (kt : ∀ (E : String) (ce : Cell) (q9 : Addr) (H1 : Heap) (locs1 : List Loc), px E → va_P D vwCl (X ++ (wx ++ Y)) H1 → va_S A0 s.heap H1 locs1 → H1[q9]? = some ce → ce.vm = .none → s.vm.findClass E = some ce.cls → vx_W p l e R s m args below meth c H1 locs1 (cells + 1) (slots + 6) Q (F0 m pc ls rest) q9)
    (kk : ∀ (r : Int32) (u : S) (H1 : Heap) (locs1 : List Loc), post r u → va_P D vwCl (X ++ (wf u ++ Y)) H1 → va_D A0 (X ++ (wf u ++ Y)) → va_S A0 s.heap H1 locs1 → W p l e R s m args below meth c H1 locs1 cells slots Q (F0 m (pc + 3) ls (.int r :: rest))) :
    W p l e R s m args below meth c H locs cells slots Q (F0 m pc ls st) := by
  refine kx_calli (kx_runV (As := As) (rest := rest) S0 (hM H.size) (cwV n S0.2.2.2.2 hT hw hrc hrs hd hR) (kx_preV hE hA hZ hP hD hS hc he) rfl hn hsize hst (lv_room hW) hdg hf) hS (fun q _ h => k_free hD hS hA q h) (k_free hD hS hA) (fun q _ h => k_free hD hS hA q h) ?_ ?_
  · intro E ce q9 u t H1 locs1 ht hvm hp hB hz hk hS1 h1 h2 h3
    exact kt E ce q9 H1 locs1 hB.1 (k_upd hP hD hk (by rw [← ht]; exact hB.2)) hS1 h1 h2 h3
  · intro r u t H1 locs1 ht hvm hp hB hz hk hS1
    exact kk r u H1 locs1 hp (k_upd hP hD hk (by rw [← ht]; exact hB)) (va_D.alike (k_same (hsame u)) hD) hS1
theorem kxV_v (S0 : CallFix p m c cc nL s args Ts own) (hE : kE D cy s) (hA : ∀ q : Nat, s.heap.size ≤ q → A0 q) (hZ : kZ A0 s s.heap) {X wc Y : va_W} (hP : va_P D vwCl (X ++ (wc ++ Y)) H) (hD : va_D A0 (X ++ (wc ++ Y))) (hS : va_S A0 s.heap H locs)
    {S : Type} {post : S → Prop} {wf : S → va_W} (hM : kXV l D cy y wr rm (.ref b :: As) wc post wf px wx) (hsame : ∀ u, (wf u).map (fun q => q.1) = wc.map (fun q => q.1))
    {ret : Option FieldType} {q0 ci : Nat} {fs : List Value} {q : vw_C} (hc : vwCl[ci]? = some q) (he : wc[q0]? = some (b, .inr (ci, fs))) (hT : GoodIn Ts (wsV own index q.1 y wr)) (hw : wr = Cond.code y bytes maxL ret :: wr') (hrc : rm.cells = 1) (hrs : rm.slots = 6)
    (hd : y.cls = q.1 ∧ y.cls ≠ "java/lang/invoke/MethodHandle" ∧ y.cls ≠ "java/lang/invoke/VarHandle" ∧ (parseMethodDescriptor y.desc).map (fun d => d.parameters.length) = some n) (hR : rm.frames + 1 ≤ R.frames ∧ 8 + (maxL + 11) + rm.locals ≤ R.locals)
    (hn : As.length = n) (hsize : ls.size = nL) (hst : st = As.reverse ++ .ref b :: rest) (hW : (rest.map fun v => v.category).sum ≤ 8) (hdg : decode cc pc = .ok (.invokevirtual index, 3)) (hf : cells + 1 ≤ R.cells ∧ slots + 6 ≤ R.slots)
    (kt : ∀ (E : String) (ce : Cell) (q9 : Addr) (H1 : Heap) (locs1 : List Loc), px E → va_P D vwCl (X ++ (wx ++ Y)) H1 → va_S A0 s.heap H1 locs1 → H1[q9]? = some ce → ce.vm = .none → s.vm.findClass E = some ce.cls → vx_W p l e R s m args below meth c H1 locs1 (cells + 1) (slots + 6) Q (F0 m pc ls rest) q9)
    (kk : ∀ (u : S) (H1 : Heap) (locs1 : List Loc), post u → va_P D vwCl (X ++ (wf u ++ Y)) H1 → va_D A0 (X ++ (wf u ++ Y)) → va_S A0 s.heap H1 locs1 → W p l e R s m args below meth c H1 locs1 cells slots Q (F0 m (pc + 3) ls rest)) :
    W p l e R s m args below meth c H locs cells slots Q (F0 m pc ls st) := by
  refine kx_callv (kx_runV (As := As) (rest := rest) S0 (hM H.size) (cwV n S0.2.2.2.2 hT hw hrc hrs hd hR) (kx_preV hE hA hZ hP hD hS hc he) rfl hn hsize hst (lv_room hW) hdg hf) hS (fun q _ h => k_free hD hS hA q h) (k_free hD hS hA) (fun q _ h => k_free hD hS hA q h) ?_ ?_
  · intro E ce q9 u t H1 locs1 ht hvm hp hB hz hk hS1 h1 h2 h3
    exact kt E ce q9 H1 locs1 hB.1 (k_upd hP hD hk (by rw [← ht]; exact hB.2)) hS1 h1 h2 h3
  · intro u t H1 locs1 ht hvm hp hB hz hk hS1
    exact kk u H1 locs1 hp (k_upd hP hD hk (by rw [← ht]; exact hB)) (va_D.alike (k_same (hsame u)) hD) hS1
/-- a call of a static method that may throw -/
theorem kxS_v (S0 : CallFix p m c cc nL s args Ts own) (hE : kE D cy s) (hA : ∀ q : Nat, s.heap.size ≤ q → A0 q) (hZ : kZ A0 s s.heap) {X wc Y : va_W} (hP : va_P D vwCl (X ++ (wc ++ Y)) H) (hD : va_D A0 (X ++ (wc ++ Y))) (hS : va_S A0 s.heap H locs)
    {S : Type} {post : S → Prop} {wf : S → va_W} (hM : kXV l D cy y wr rm As wc post wf px wx) (hsame : ∀ u, (wf u).map (fun q => q.1) = wc.map (fun q => q.1))
    {ret : Option FieldType} (hT : GoodIn Ts (va_wsS own index y wr)) (hw : wr = Cond.code y bytes maxL ret :: wr') (hrc : rm.cells = 1) (hrs : rm.slots = 6)
    (hd : y.cls ≠ "java/lang/invoke/MethodHandle" ∧ y.cls ≠ "java/lang/invoke/VarHandle" ∧ (parseMethodDescriptor y.desc).map (fun d => d.parameters.length) = some n) (hR : rm.frames + 1 ≤ R.frames ∧ 8 + (maxL + 11) + rm.locals ≤ R.locals)
    (hn : As.length = n) (hsize : ls.size = nL) (hst : st = As.reverse ++ rest) (hW : (rest.map fun v => v.category).sum ≤ 8) (hdg : decode cc pc = .ok (.invokestatic index, 3)) (hf : cells + 1 ≤ R.cells ∧ slots + 6 ≤ R.slots)
    (kt : ∀ (E : String) (ce : Cell) (q9 : Addr) (H1 : Heap) (locs1 : List Loc), px E → va_P D vwCl (X ++ (wx ++ Y)) H1 → va_S A0 s.heap H1 locs1 → H1[q9]? = some ce → ce.vm = .none → s.vm.findClass E = some ce.cls → vx_W p l e R s m args below meth c H1 locs1 (cells + 1) (slots + 6) Q (F0 m pc ls rest) q9)
    (kk : ∀ (u : S) (H1 : Heap) (locs1 : List Loc), post u → va_P D vwCl (X ++ (wf u ++ Y)) H1 → va_D A0 (X ++ (wf u ++ Y)) → va_S A0 s.heap H1 locs1 → W p l e R s m args below meth c H1 locs1 cells slots Q (F0 m (pc + 3) ls rest)) :
    W p l e R s m args below meth c H locs cells slots Q (F0 m pc ls st) := by
  refine kx_callv (kx_runS (As := As) (rest := rest) S0 (hM H.size) (va_cwS n S0.2.2.2.2 hT hw hrc hrs hd hR) (kx_preS hE hA hZ hP hD hS) rfl hn hsize hst (lv_room hW) hdg hf) hS (fun q _ h => k_free hD hS hA q h) (k_free hD hS hA) (fun q _ h => k_free hD hS hA q h) ?_ ?_
  · intro E ce q9 u t H1 locs1 ht hvm hp hB hz hk hS1 h1 h2 h3
    exact kt E ce q9 H1 locs1 hB.1 (k_upd hP hD hk (by rw [← ht]; exact hB.2)) hS1 h1 h2 h3
  · intro u t H1 locs1 ht hvm hp hB hz hk hS1
    exact kk u H1 locs1 hp (k_upd hP hD hk (by rw [← ht]; exact hB)) (va_D.alike (k_same (hsame u)) hD) hS1
end KX4
