section
-- ===== PART A: goes FIRST, ahead of the names: the tables' words, and 'selects' of the private methods out of them =====
/-- a private method of a class that the tables say can be made, by its rows of tables_1 -/
def lw_okq (q : MethodName × Nat) : Prop := (q.1.cls ≠ "java/lang/invoke/MethodHandle" ∧ q.1.cls ≠ "java/lang/invoke/VarHandle") ∧ Cond.instantiable q.1.cls q.2 ∈ tables_1 ∧ Cond.privateMethod q.1 ∈ tables_1 ∧ Cond.instanceMethod q.1 ∈ tables_1
theorem lw_p0 : lw_okq (⟨"CertHerd", "checkIssuer", "(I)V"⟩, 5) := ⟨⟨by decide +kernel, by decide +kernel⟩, List.mem_of_getElem? (i := 14) (by decide +kernel), List.mem_of_getElem? (i := 165) (by decide +kernel), List.mem_of_getElem? (i := 166) (by decide +kernel)⟩
theorem lw_p1 : lw_okq (⟨"java/lang/Throwable", "fillInStackTrace", "(I)Ljava/lang/Throwable;"⟩, 6) := ⟨⟨by decide +kernel, by decide +kernel⟩, List.mem_of_getElem? (i := 207) (by decide +kernel), List.mem_of_getElem? (i := 205) (by decide +kernel), List.mem_of_getElem? (i := 206) (by decide +kernel)⟩
theorem lw_p2 : lw_okq (⟨"CertHerd", "canIssue", "(II)Z"⟩, 5) := ⟨⟨by decide +kernel, by decide +kernel⟩, List.mem_of_getElem? (i := 14) (by decide +kernel), List.mem_of_getElem? (i := 341) (by decide +kernel), List.mem_of_getElem? (i := 342) (by decide +kernel)⟩
theorem lw_p3 : lw_okq (⟨"CertHerd", "roomThisWeek", "(I)I"⟩, 5) := ⟨⟨by decide +kernel, by decide +kernel⟩, List.mem_of_getElem? (i := 14) (by decide +kernel), List.mem_of_getElem? (i := 349) (by decide +kernel), List.mem_of_getElem? (i := 350) (by decide +kernel)⟩
theorem lw_p4 : lw_okq (⟨"CertHerd", "mayIssueFor", "(II)Z"⟩, 5) := ⟨⟨by decide +kernel, by decide +kernel⟩, List.mem_of_getElem? (i := 14) (by decide +kernel), List.mem_of_getElem? (i := 361) (by decide +kernel), List.mem_of_getElem? (i := 362) (by decide +kernel)⟩
theorem lw_p5 : lw_okq (⟨"CertHerd", "makeCertificate", "(III)I"⟩, 5) := ⟨⟨by decide +kernel, by decide +kernel⟩, List.mem_of_getElem? (i := 14) (by decide +kernel), List.mem_of_getElem? (i := 385) (by decide +kernel), List.mem_of_getElem? (i := 386) (by decide +kernel)⟩
theorem lw_p6 : lw_okq (⟨"CertHerd", "drawOffset", "(I)I"⟩, 5) := ⟨⟨by decide +kernel, by decide +kernel⟩, List.mem_of_getElem? (i := 14) (by decide +kernel), List.mem_of_getElem? (i := 389) (by decide +kernel), List.mem_of_getElem? (i := 390) (by decide +kernel)⟩
theorem lw_p7 : lw_okq (⟨"CertHerd", "renewDueCertificates", "()I"⟩, 5) := ⟨⟨by decide +kernel, by decide +kernel⟩, List.mem_of_getElem? (i := 14) (by decide +kernel), List.mem_of_getElem? (i := 407) (by decide +kernel), List.mem_of_getElem? (i := 408) (by decide +kernel)⟩
theorem lw_p8 : lw_okq (⟨"CertHerd", "checkCertificate", "(I)V"⟩, 5) := ⟨⟨by decide +kernel, by decide +kernel⟩, List.mem_of_getElem? (i := 14) (by decide +kernel), List.mem_of_getElem? (i := 418) (by decide +kernel), List.mem_of_getElem? (i := 419) (by decide +kernel)⟩
theorem lw_p9 : lw_okq (⟨"CertHerd", "namesCovered", "(II)I"⟩, 5) := ⟨⟨by decide +kernel, by decide +kernel⟩, List.mem_of_getElem? (i := 14) (by decide +kernel), List.mem_of_getElem? (i := 489) (by decide +kernel), List.mem_of_getElem? (i := 490) (by decide +kernel)⟩
theorem lw_p10 : lw_okq (⟨"CertHerd", "namesLostWithout", "(II)I"⟩, 5) := ⟨⟨by decide +kernel, by decide +kernel⟩, List.mem_of_getElem? (i := 14) (by decide +kernel), List.mem_of_getElem? (i := 520) (by decide +kernel), List.mem_of_getElem? (i := 521) (by decide +kernel)⟩
theorem lw_p11 : lw_okq (⟨"CertHerdModel", "isIssuer", "(I)Z"⟩, 22) := ⟨⟨by decide +kernel, by decide +kernel⟩, List.mem_of_getElem? (i := 537) (by decide +kernel), List.mem_of_getElem? (i := 622) (by decide +kernel), List.mem_of_getElem? (i := 623) (by decide +kernel)⟩
theorem lw_p12 : lw_okq (⟨"CertHerdModel", "fails", "(I)I"⟩, 22) := ⟨⟨by decide +kernel, by decide +kernel⟩, List.mem_of_getElem? (i := 537) (by decide +kernel), List.mem_of_getElem? (i := 630) (by decide +kernel), List.mem_of_getElem? (i := 631) (by decide +kernel)⟩
theorem lw_p13 : lw_okq (⟨"CertHerdModel", "ends", "(I)I"⟩, 22) := ⟨⟨by decide +kernel, by decide +kernel⟩, List.mem_of_getElem? (i := 537) (by decide +kernel), List.mem_of_getElem? (i := 634) (by decide +kernel), List.mem_of_getElem? (i := 635) (by decide +kernel)⟩
theorem lw_p14 : lw_okq (⟨"CertHerdModel", "canIssue", "(II)Z"⟩, 22) := ⟨⟨by decide +kernel, by decide +kernel⟩, List.mem_of_getElem? (i := 537) (by decide +kernel), List.mem_of_getElem? (i := 660) (by decide +kernel), List.mem_of_getElem? (i := 661) (by decide +kernel)⟩
theorem lw_p15 : lw_okq (⟨"CertHerdModel", "holds", "(III)Z"⟩, 22) := ⟨⟨by decide +kernel, by decide +kernel⟩, List.mem_of_getElem? (i := 537) (by decide +kernel), List.mem_of_getElem? (i := 664) (by decide +kernel), List.mem_of_getElem? (i := 665) (by decide +kernel)⟩
def lw_privs_1 : List (MethodName × Nat) := [(⟨"CertHerd", "checkIssuer", "(I)V"⟩, 5), (⟨"java/lang/Throwable", "fillInStackTrace", "(I)Ljava/lang/Throwable;"⟩, 6), (⟨"CertHerd", "canIssue", "(II)Z"⟩, 5), (⟨"CertHerd", "roomThisWeek", "(I)I"⟩, 5), (⟨"CertHerd", "mayIssueFor", "(II)Z"⟩, 5), (⟨"CertHerd", "makeCertificate", "(III)I"⟩, 5), (⟨"CertHerd", "drawOffset", "(I)I"⟩, 5), (⟨"CertHerd", "renewDueCertificates", "()I"⟩, 5), (⟨"CertHerd", "checkCertificate", "(I)V"⟩, 5), (⟨"CertHerd", "namesCovered", "(II)I"⟩, 5), (⟨"CertHerd", "namesLostWithout", "(II)I"⟩, 5), (⟨"CertHerdModel", "isIssuer", "(I)Z"⟩, 22), (⟨"CertHerdModel", "fails", "(I)I"⟩, 22), (⟨"CertHerdModel", "ends", "(I)I"⟩, 22), (⟨"CertHerdModel", "canIssue", "(II)Z"⟩, 22), (⟨"CertHerdModel", "holds", "(III)Z"⟩, 22)]
theorem lw_r1 : ∀ q ∈ lw_privs_1, lw_okq q := List.forall_mem_cons.mpr ⟨lw_p0, List.forall_mem_cons.mpr ⟨lw_p1, List.forall_mem_cons.mpr ⟨lw_p2, List.forall_mem_cons.mpr ⟨lw_p3, List.forall_mem_cons.mpr ⟨lw_p4, List.forall_mem_cons.mpr ⟨lw_p5, List.forall_mem_cons.mpr ⟨lw_p6, List.forall_mem_cons.mpr ⟨lw_p7, List.forall_mem_cons.mpr ⟨lw_p8, List.forall_mem_cons.mpr ⟨lw_p9, List.forall_mem_cons.mpr ⟨lw_p10, List.forall_mem_cons.mpr ⟨lw_p11, List.forall_mem_cons.mpr ⟨lw_p12, List.forall_mem_cons.mpr ⟨lw_p13, List.forall_mem_cons.mpr ⟨lw_p14, List.forall_mem_cons.mpr ⟨lw_p15, fun _ h => absurd h List.not_mem_nil⟩⟩⟩⟩⟩⟩⟩⟩⟩⟩⟩⟩⟩⟩⟩⟩
theorem lw_p16 : lw_okq (⟨"CertHerdModel", "issued", "(I)I"⟩, 22) := ⟨⟨by decide +kernel, by decide +kernel⟩, List.mem_of_getElem? (i := 537) (by decide +kernel), List.mem_of_getElem? (i := 668) (by decide +kernel), List.mem_of_getElem? (i := 669) (by decide +kernel)⟩
theorem lw_p17 : lw_okq (⟨"CertHerdModel", "makes", "(III)I"⟩, 22) := ⟨⟨by decide +kernel, by decide +kernel⟩, List.mem_of_getElem? (i := 537) (by decide +kernel), List.mem_of_getElem? (i := 675) (by decide +kernel), List.mem_of_getElem? (i := 676) (by decide +kernel)⟩
theorem lw_p18 : lw_okq (⟨"CertHerdModel", "day", "()I"⟩, 22) := ⟨⟨by decide +kernel, by decide +kernel⟩, List.mem_of_getElem? (i := 537) (by decide +kernel), List.mem_of_getElem? (i := 684) (by decide +kernel), List.mem_of_getElem? (i := 685) (by decide +kernel)⟩
theorem lw_p19 : lw_okq (⟨"CertHerdModel", "sees", "(Z)V"⟩, 22) := ⟨⟨by decide +kernel, by decide +kernel⟩, List.mem_of_getElem? (i := 537) (by decide +kernel), List.mem_of_getElem? (i := 688) (by decide +kernel), List.mem_of_getElem? (i := 689) (by decide +kernel)⟩
theorem lw_p20 : lw_okq (⟨"CertHerdModel", "nextWaiting", "(I)I"⟩, 22) := ⟨⟨by decide +kernel, by decide +kernel⟩, List.mem_of_getElem? (i := 537) (by decide +kernel), List.mem_of_getElem? (i := 692) (by decide +kernel), List.mem_of_getElem? (i := 693) (by decide +kernel)⟩
theorem lw_p21 : lw_okq (⟨"CertHerdModel", "waits", "(I)Z"⟩, 22) := ⟨⟨by decide +kernel, by decide +kernel⟩, List.mem_of_getElem? (i := 537) (by decide +kernel), List.mem_of_getElem? (i := 696) (by decide +kernel), List.mem_of_getElem? (i := 697) (by decide +kernel)⟩
theorem lw_p22 : lw_okq (⟨"CertHerdModel", "due", "(I)I"⟩, 22) := ⟨⟨by decide +kernel, by decide +kernel⟩, List.mem_of_getElem? (i := 537) (by decide +kernel), List.mem_of_getElem? (i := 700) (by decide +kernel), List.mem_of_getElem? (i := 701) (by decide +kernel)⟩
theorem lw_p23 : lw_okq (⟨"CertHerdModel", "last", "(I)I"⟩, 22) := ⟨⟨by decide +kernel, by decide +kernel⟩, List.mem_of_getElem? (i := 537) (by decide +kernel), List.mem_of_getElem? (i := 704) (by decide +kernel), List.mem_of_getElem? (i := 705) (by decide +kernel)⟩
theorem lw_p24 : lw_okq (⟨"CertHerdModel", "isCert", "(I)Z"⟩, 22) := ⟨⟨by decide +kernel, by decide +kernel⟩, List.mem_of_getElem? (i := 537) (by decide +kernel), List.mem_of_getElem? (i := 724) (by decide +kernel), List.mem_of_getElem? (i := 725) (by decide +kernel)⟩
theorem lw_p25 : lw_okq (⟨"CertHerdModel", "ways", "(I)I"⟩, 22) := ⟨⟨by decide +kernel, by decide +kernel⟩, List.mem_of_getElem? (i := 537) (by decide +kernel), List.mem_of_getElem? (i := 764) (by decide +kernel), List.mem_of_getElem? (i := 765) (by decide +kernel)⟩
theorem lw_p26 : lw_okq (⟨"CertHerdModel", "names", "(II)I"⟩, 22) := ⟨⟨by decide +kernel, by decide +kernel⟩, List.mem_of_getElem? (i := 537) (by decide +kernel), List.mem_of_getElem? (i := 772) (by decide +kernel), List.mem_of_getElem? (i := 773) (by decide +kernel)⟩
def lw_privs_2 : List (MethodName × Nat) := [(⟨"CertHerdModel", "issued", "(I)I"⟩, 22), (⟨"CertHerdModel", "makes", "(III)I"⟩, 22), (⟨"CertHerdModel", "day", "()I"⟩, 22), (⟨"CertHerdModel", "sees", "(Z)V"⟩, 22), (⟨"CertHerdModel", "nextWaiting", "(I)I"⟩, 22), (⟨"CertHerdModel", "waits", "(I)Z"⟩, 22), (⟨"CertHerdModel", "due", "(I)I"⟩, 22), (⟨"CertHerdModel", "last", "(I)I"⟩, 22), (⟨"CertHerdModel", "isCert", "(I)Z"⟩, 22), (⟨"CertHerdModel", "ways", "(I)I"⟩, 22), (⟨"CertHerdModel", "names", "(II)I"⟩, 22)]
theorem lw_r2 : ∀ q ∈ lw_privs_2, lw_okq q := List.forall_mem_cons.mpr ⟨lw_p16, List.forall_mem_cons.mpr ⟨lw_p17, List.forall_mem_cons.mpr ⟨lw_p18, List.forall_mem_cons.mpr ⟨lw_p19, List.forall_mem_cons.mpr ⟨lw_p20, List.forall_mem_cons.mpr ⟨lw_p21, List.forall_mem_cons.mpr ⟨lw_p22, List.forall_mem_cons.mpr ⟨lw_p23, List.forall_mem_cons.mpr ⟨lw_p24, List.forall_mem_cons.mpr ⟨lw_p25, List.forall_mem_cons.mpr ⟨lw_p26, fun _ h => absurd h List.not_mem_nil⟩⟩⟩⟩⟩⟩⟩⟩⟩⟩⟩
def lw_privs : List (MethodName × Nat) := lw_privs_1 ++ (lw_privs_2)
def lw_tbl : List Cond := k2_sels lw_privs ++ tables_1
theorem lw_privs_ok : ∀ q ∈ lw_privs, lw_okq q := by
  show ∀ q ∈ lw_privs_1 ++ (lw_privs_2), lw_okq q
  exact List.forall_mem_append.mpr ⟨lw_r1, lw_r2⟩
end
section
/-! ===== BEGIN words of one list among another's, by their places ===== -/
theorem goodIn_r {big : List Cond} (ws : List Cond) (ps : List Nat) (hp : ws = ps.filterMap (fun i => big[i]?)) (h : ws.all goodWord = true) : GoodIn big ws := by
  intro w hw
  have h1 := List.all_eq_true.mp h w hw
  rw [hp] at hw
  obtain ⟨i, -, hi⟩ := List.mem_filterMap.mp hw
  have hm : w ∈ big := by first | exact List.mem_of_getElem? hi | exact List.getElem?_mem hi
  exact ⟨hm, good_of_word h1⟩
theorem goodIn_app {big a b : List Cond} (ha : GoodIn big a) (hb : GoodIn big b) : GoodIn big (a ++ b) := fun w h => (List.mem_append.mp h).elim (ha w) (hb w)
theorem goodIn_ca {big a b : List Cond} {c : Cond} (ha : GoodIn big (c :: a)) (hb : GoodIn big b) : GoodIn big (c :: (a ++ b)) := fun w h => (List.mem_cons.mp h).elim (fun e => ha w (List.mem_cons.mpr (Or.inl e))) (fun h => (List.mem_append.mp h).elim (fun h => ha w (List.mem_cons.mpr (Or.inr h))) (hb w))
theorem goodIn_sub {big ws : List Cond} (hm : ∀ w ∈ ws, w ∈ big) (h : ws.all goodWord = true) : GoodIn big ws := fun w hw => ⟨hm w hw, good_of_word (List.all_eq_true.mp h w hw)⟩
/-! ===== END ===== -/

/-! ===== BEGIN exceptions that leave a method, and their catching by the caller (launches without stack traces) ===== -/
section VXA
/-! The laws vx_back, vx_callV, vx_callS, vx_callSW, vx_throw0, vx_throwS follow proofs of the library, with one case more: JvmDerived/Free/Laws.lean (Back.of_free), Shelf42/LK1.lean (callV, callS), Shelf/KitTraced.lean (throwNew0V, throwNewS). -/
/-- where a method has thrown q: the class by its name, the cell, what was written, the world -/
def vx_T (XC : String → State → State → Prop) (st : State) (q : Addr) (t : State) (mc ms : Nat) (free : Addr → Prop) : Prop :=
  ∃ (E : String) (ce : Cell) (L : List Loc), XC E st t ∧ t.heap[q]? = some ce ∧ ce.vm = .none ∧ st.vm.findClass E = some ce.cls ∧ st.WarmedH t.vm ∧ st.sameButNew ({ t with vm := st.vm } : State) L mc ms ∧ ∀ z ∈ L, free z.base
def vx_Q (Qc : Array Value → State → Outcome → State → Prop) (XC : String → State → State → Prop) (mc ms : Nat) (free : Addr → Prop) : Array Value → State → Outcome → State → Prop := fun a st o t =>
  (Qc a st o t ∧ ∃ L, FrameEnd st o t L mc ms ∧ ∀ q ∈ L, free q.base) ∨ ∃ q, o = .threw q ∧ vx_T XC st q t mc ms free
/-- a callee that returns or throws -/
def vx_Met (l : Launch) (y : MethodName) (ws : List Cond) (rm : Room) (Pc : Array Value → State → Prop) (Qc : Array Value → State → Outcome → State → Prop) (XC : String → State → State → Prop) (mc ms : Nat) (free : Addr → Prop) : Prop :=
  MetFree l y (headSpec ws rm) Pc (fun _ _ _ _ _ => True) (vx_Q Qc XC mc ms free)
def vx_Post (XC : String → State → State → Prop) (mc ms : Nat) (free : Addr → Prop) : Pt → Array Value → Addr → Pt → Prop := fun A a q B =>
  ∃ (g : JFrame) (mk : MethodId) (t : State) (L : List Loc) (E : String) (ce : Cell), B.U.heap = t.heap ∧ B.U.vm = t.vm ∧ XC E (A.U.calling g mk a) t ∧ t.heap[q]? = some ce ∧ ce.vm = .none ∧ A.U.vm.findClass E = some ce.cls ∧ B.locs = A.locs ++ L ∧ (∀ z ∈ L, free z.base) ∧ B.cells = A.cells + mc ∧ B.slots = A.slots + ms
def vx_Back (l : Launch) (R : Room) (p : Program) (e : Env) (below : List Frame) (s : State) (sargs : Array Value) (y : MethodName) (len W9 : Nat)
    (Pre : Pt → Array Value → Prop) (Post : Pt → Array Value → Option Value → Pt → Prop) (PostX : Pt → Array Value → Addr → Pt → Prop) : Prop :=
  ∀ (m : MethodId) (meth : Method) (c : Code) (A : Pt) (g : JFrame) (ig : Instr) (mk : MethodId) (a : Array Value),
    Stand p l e R s m sargs below meth c A.U A.locs A.cells A.slots → g.method = m → g.locals.size = c.maxLocals → decode c.code g.pc = .ok (ig, len) →
    2 * g.monitorRoom + (g.stack.map fun v => v.category).sum ≤ W9 → A.U.methodNamed? y = some mk → Pre A a →
    (∃ (v : Option Value) (B : Pt), Stand p l e R s m sargs below meth c B.U B.locs B.cells B.slots ∧ Post A a v B ∧
      Steps p.tables e below (doInvoke e (A.U.setTop g) [] mk a).1 (B.U.setTop { g with pc := g.pc + len, stack := v.toList ++ g.stack })) ∨
    (∃ (q : Addr) (B : Pt), Stand p l e R s m sargs below meth c B.U B.locs B.cells B.slots ∧ PostX A a q B ∧
      Steps p.tables e below (doInvoke e (A.U.setTop g) [] mk a).1 ((B.U.setTop g).pushFrame (.throwing q)))
section Payer
variable {l : Launch} {R : Room} {p : Program} {e : Env} {below : List Frame} {s : State} {sargs : Array Value} {y : MethodName} {len W9 : Nat}
theorem vx_back {ws : List Cond} {rm : Room} {Pc : Array Value → State → Prop} {Qc : Array Value → State → Outcome → State → Prop} {XC : String → State → State → Prop} {mc ms : Nat} {free : Addr → Prop} {bytes : ByteArray} {maxL : Nat} {ret : Option FieldType}
    (hM : vx_Met l y ws rm Pc Qc XC mc ms free) (hblind : FrameBlind Pc) (hrc : rm.cells = mc) (hrs : rm.slots = ms)
    (hframes : rm.frames + 1 ≤ R.frames) (hlocals : W9 + (maxL + 11) + rm.locals ≤ R.locals)
    (hws : ∀ w ∈ ws, ∀ a' U, s.WarmedH U.vm → w.before a' U = true) (hcode : Cond.code y bytes maxL ret ∈ ws) (hinit : ∀ a' U, s.WarmedH U.vm → (Cond.initialized y.cls).before a' U = true) :
    vx_Back l R p e below s sargs y len W9 (PreOf R mc ms Pc) (PostOf Qc mc ms free) (vx_Post XC mc ms free) := by
  intro m meth c A g ig mk a X hg hsize hdg hW hn hp
  have h1 : (headSpec ws rm).pre.before a A.U = true := atoms_intro fun w hw => hws w hw _ _ X.warmed
  have h2 : (Cond.code y bytes maxL ret).before a A.U = true := hws _ hcode _ _ X.warmed
  have h3 : (Cond.initialized y.cls).before a A.U = true := hinit _ _ X.warmed
  have h4 : A.cells + (headSpec ws rm).room.cells ≤ R.cells := by rw [show (headSpec ws rm).room.cells = mc from hrc]; exact hp.1
  have h5 : A.slots + (headSpec ws rm).room.slots ≤ R.slots := by rw [show (headSpec ws rm).room.slots = ms from hrs]; exact hp.2.1
  have hPc : Pc a (A.U.calling g mk a) := hblind _ _ _ _ hp.2.2
  obtain ⟨U, Ls, c0, s0⟩ := A
  dsimp only [Pt.U, Pt.locs, Pt.cells, Pt.slots] at h1 h2 h3 h4 h5 X hn hPc ⊢
  obtain ⟨methY, cY, hmY, hcY, -, hlY, -, -, -, -⟩ := Cond.code_spec hn h2
  obtain ⟨kY, hkY, -⟩ := className_of_methodNamed hn
  have hinitY : kY.init = .initialized := Cond.initialized_spec (findClass_of_methodNamed hn) hkY h3
  have h : At U g.method c below := by rw [hg]; exact X.here
  have hlocals9 : W9 + (maxL + 11) + (headSpec ws rm).room.locals ≤ R.locals := hlocals
  have happ : (headSpec ws rm).appliesLoose y e.platform (U.calling g mk a) = true :=
    Spec.appliesLoose_calling (g := g) h hdg hn hkY hinitY
      (X.room_calling (g := g) (R' := (headSpec ws rm).room) hsize hmY hcY hframes (by rw [hlY]; omega) h4 h5) h1
  obtain ⟨mid, hmid⟩ := h.above
  have hfr : (U.setTop g).frames = (.java g :: mid) ++ below := by rw [State.frames_setTop' g h.top, hmid]; rfl
  obtain ⟨o, s₂, hsteps, -, hend, hq⟩ := Steps.callFree hM p X.admits X.cas X.clock (acts := []) hfr happ hPc trivial
  have hq' : vx_Q Qc XC mc ms free a (U.calling g mk a) o s₂ := hq
  rw [State.frames_setTop' g h.top] at hend
  obtain ⟨g₀, hg0⟩ := Option.isSome_iff_exists.mp h.top
  obtain ⟨r, hr⟩ := State.topJava?_eq_some.mp hg0
  have hr' : (({ U with heap := s₂.heap, slotsUsed := s₂.slotsUsed } : State).setVm s₂.vm).frames = .java g₀ :: r := hr
  rcases hq' with ⟨hqc, L, hfe, hL⟩ | ⟨q, rfl, E, ce, L, hx, hce, hcv, hcl, hW₂, hsm, hL⟩
  · obtain ⟨⟨v, rfl⟩, hW₂, e2, q2, q3, q4, q5, q6⟩ := id hfe
    have e3 : s₂ = ({ (U.calling g mk a).setFrames s₂.frames with heap := s₂.heap, slotsUsed := s₂.slotsUsed } : State).setVm s₂.vm := by
      have : s₂ = ({ s₂ with vm := (U.calling g mk a).vm } : State).setVm s₂.vm := rfl
      rw [e2] at this
      exact this
    obtain ⟨c₂, i₂, len₂, hc₂, hd₂, hf₂⟩ := hend
    have hW' : U.WarmedH s₂.vm := hW₂
    have hcc : c₂ = c := by
      have h1 : s₂.code? g.method = U.code? g.method := by
        rw [State.code?_eq, State.code?_eq, hW'.alike.method?]
      exact Option.some.inj (hc₂.symm.trans (h1.trans h.code))
    subst hcc
    have hlen : len₂ = len := by rw [hdg] at hd₂; cases hd₂; rfl
    subst hlen
    have hs₂ : s₂ = (({ U with heap := s₂.heap, slotsUsed := s₂.slotsUsed } : State).setVm s₂.vm).setTop { g with pc := g.pc + len₂, stack := v.toList ++ g.stack } := by
      refine e3.trans ?_
      rw [hf₂, State.calling_eq h.top, State.setFrames_setFrames, State.setTop_of_frames _ hr', hr]
      rfl
    have hsame : U.sameButNew ({ U with heap := s₂.heap, slotsUsed := s₂.slotsUsed } : State) L mc ms := by
      refine ⟨?_, q2, q3, q4, q5, q6⟩
      obtain ⟨t, ht, -⟩ := State.frames_cons hr
      show ({ U with heap := s₂.heap, slotsUsed := s₂.slotsUsed } : State) = { U.setFrames U.frames with heap := s₂.heap, slotsUsed := s₂.slotsUsed }
      rw [State.setFrames_self ht]
    subst hg
    refine Or.inl ⟨v, ⟨(({ U with heap := s₂.heap, slotsUsed := s₂.slotsUsed } : State).setVm s₂.vm), Ls ++ L, c0 + mc, s0 + ms⟩,
      ⟨X.admits, X.cas, X.clock, X.frames, X.room, X.hears, X.method, X.code, (X.here.setHeapUsed s₂.heap s₂.slotsUsed).setVm hW'.alike, X.tail, State.WarmedH.trans X.warmed hW', X.limits, X.bytes, X.same.trans (hsame.setVm s.vm)⟩,
      ⟨g, mk, s₂, L, rfl, rfl, hqc, rfl, hL, rfl, rfl⟩, ?_⟩
    show Steps p.tables e below _ ((({ U with heap := s₂.heap, slotsUsed := s₂.slotsUsed } : State).setVm s₂.vm).setTop { g with pc := g.pc + len₂, stack := v.toList ++ g.stack })
    rw [← hs₂]
    exact hsteps
  · obtain ⟨e2, q2, q3, q4, q5, q6⟩ := id hsm
    have e3 : s₂ = ({ (U.calling g mk a).setFrames s₂.frames with heap := s₂.heap, slotsUsed := s₂.slotsUsed } : State).setVm s₂.vm := by
      have : s₂ = ({ s₂ with vm := (U.calling g mk a).vm } : State).setVm s₂.vm := rfl
      rw [e2] at this
      exact this
    have hf₂ : s₂.frames = .throwing q :: .java g :: U.frames.tail := hend
    have hW' : U.WarmedH s₂.vm := hW₂
    have hs₂ : s₂ = ((({ U with heap := s₂.heap, slotsUsed := s₂.slotsUsed } : State).setVm s₂.vm).setTop g).pushFrame (.throwing q) := by
      refine e3.trans ?_
      rw [hf₂, State.calling_eq h.top, State.setFrames_setFrames, State.pushFrame, State.frames_setTop _ hr', State.setTop_of_frames _ hr', State.setFrames_setFrames, hr]
      rfl
    have hsame : U.sameButNew ({ U with heap := s₂.heap, slotsUsed := s₂.slotsUsed } : State) L mc ms := by
      refine ⟨?_, q2, q3, q4, q5, q6⟩
      obtain ⟨t, ht, -⟩ := State.frames_cons hr
      show ({ U with heap := s₂.heap, slotsUsed := s₂.slotsUsed } : State) = { U.setFrames U.frames with heap := s₂.heap, slotsUsed := s₂.slotsUsed }
      rw [State.setFrames_self ht]
    subst hg
    refine Or.inr ⟨q, ⟨(({ U with heap := s₂.heap, slotsUsed := s₂.slotsUsed } : State).setVm s₂.vm), Ls ++ L, c0 + mc, s0 + ms⟩,
      ⟨X.admits, X.cas, X.clock, X.frames, X.room, X.hears, X.method, X.code, (X.here.setHeapUsed s₂.heap s₂.slotsUsed).setVm hW'.alike, X.tail, State.WarmedH.trans X.warmed hW', X.limits, X.bytes, X.same.trans (hsame.setVm s.vm)⟩,
      ⟨g, mk, s₂, L, E, ce, rfl, rfl, hx, hce, hcv, hcl, rfl, hL, rfl, rfl⟩, ?_⟩
    show Steps p.tables e below _ (((({ U with heap := s₂.heap, slotsUsed := s₂.slotsUsed } : State).setVm s₂.vm).setTop g).pushFrame (.throwing q))
    rw [← hs₂]
    exact hsteps
end Payer
section Calls
variable {p : Program} {l : Launch} {e : Env} {R : Room} {s : State} {m : MethodId} {args : Array Value} {below : List Frame} {meth : Method} {c : Code} {T : State} {locs : List Loc} {cells slots : Nat}
theorem vx_callV (X : Stand p l e R s m args below meth c T locs cells slots) (hexec : p.tables.exec = Jvm.exec) {own C : String} {index : Nat} {y : MethodName} {bytes : ByteArray} {maxL : Nat} {ret : Option FieldType}
    (hown : s.vm.findClass own = some m.cls) (hlink : (Cond.methodLink own index y).before args s = true) (hinst : (Cond.instanceMethod y).before args s = true) (hsel : (Cond.selects C y y).before args s = true)
    (hcode : (Cond.code y bytes maxL ret).before args s = true) (hy : y.cls ≠ "java/lang/invoke/MethodHandle" ∧ y.cls ≠ "java/lang/invoke/VarHandle")
    {W9 : Nat} {Pre : Pt → Array Value → Prop} {Post : Pt → Array Value → Option Value → Pt → Prop} {PostX : Pt → Array Value → Addr → Pt → Prop} (hK : vx_Back l R p e below s args y 3 W9 Pre Post PostX)
    {b : Addr} {cellB : Cell} (hcell : T.heap[b]? = some cellB) (hobj : cellB.vm.isStatics = false) (hcls : s.vm.findClass C = some cellB.cls)
    {g : JFrame} (hg : g.method = m) (hsize : g.locals.size = c.maxLocals) {argsL rest : List Value} (hlen : ∀ sig, parseMethodDescriptor y.desc = some sig → argsL.length = sig.parameters.length)
    (hstack : g.stack = argsL.reverse ++ .ref b :: rest) (hW : 2 * g.monitorRoom + (rest.map fun v => v.category).sum ≤ W9) (hdg : decode c.code g.pc = .ok (.invokevirtual index, 3))
    (hpre : ∀ vm₁, s.WarmedH vm₁ → Pre ⟨T.setVm vm₁, locs, cells, slots⟩ (Value.ref b :: argsL).toArray) :
    (∃ (v : Option Value) (vm₁ : Vm) (B : Pt), s.WarmedH vm₁ ∧ Stand p l e R s m args below meth c B.U B.locs B.cells B.slots ∧ Post ⟨T.setVm vm₁, locs, cells, slots⟩ (Value.ref b :: argsL).toArray v B ∧
      ∀ target, Steps p.tables e below (B.U.setTop { g with pc := g.pc + 3, stack := v.toList ++ rest }) target → Steps p.tables e below (T.setTop g) target) ∨
    (∃ (q : Addr) (vm₁ : Vm) (B : Pt), s.WarmedH vm₁ ∧ Stand p l e R s m args below meth c B.U B.locs B.cells B.slots ∧ PostX ⟨T.setVm vm₁, locs, cells, slots⟩ (Value.ref b :: argsL).toArray q B ∧
      Steps p.tables e below (T.setTop g) ((B.U.setTop { g with stack := rest }).pushFrame (.throwing q))) := by
  obtain ⟨mk, methM, hnamed, hmethM, hstM, habM⟩ := Cond.instanceMethod_spec hinst
  obtain ⟨methM', cM, hmethM', -, -, -, -, -, -, hsigM⟩ := Cond.code_spec hnamed hcode
  cases hmethM.symm.trans hmethM'
  obtain ⟨c2, r2, m2, q1, q2, q3, q4, kP, hkP, hkPi⟩ := Cond.selects_spec hsel
  cases hcls.symm.trans q1
  cases (State.methodFound?_of_named hnamed hy).symm.trans q2
  cases hnamed.symm.trans q3
  have hselP : selectMethod e.platform s.vm cellB.cls mk = .method mk := by rw [Launch.admits_selectMethod X.admits]; exact q4
  obtain ⟨vm₁, X₁, hstep₁⟩ := X.invokevirtual hexec hown hlink hnamed hmethM hstM hkP hkPi hy (a := b) (cell := cellB) hcell
    (fun z h => by rw [h] at hobj; cases hobj) hselP hmethM habM hkP hkPi (g := g) hg (argsL := argsL) (rest := rest) (hlen _ hsigM) hstack hdg
  rcases hK m meth c ⟨T.setVm vm₁, locs, cells, slots⟩ { g with stack := rest } (.invokevirtual index) mk (Value.ref b :: argsL).toArray X₁ hg hsize hdg hW (X₁.named hnamed) (hpre vm₁ X₁.warmed) with ⟨v, B, X', hpost, hsteps⟩ | ⟨q, B, X', hpost, hsteps⟩
  · exact Or.inl ⟨v, vm₁, B, X₁.warmed, X', hpost, fun target h => hstep₁ _ fun acts => by rw [doInvoke_state]; exact hsteps.trans h⟩
  · exact Or.inr ⟨q, vm₁, B, X₁.warmed, X', hpost, hstep₁ _ fun acts => by rw [doInvoke_state]; exact hsteps⟩
theorem vx_callS (X : Stand p l e R s m args below meth c T locs cells slots) (hexec : p.tables.exec = Jvm.exec) {own : String} {index : Nat} {y : MethodName} {bytes : ByteArray} {maxL : Nat} {ret : Option FieldType}
    (hown : s.vm.findClass own = some m.cls) (hlink : (Cond.methodLink own index y).before args s = true) (hstat : (Cond.static y).before args s = true) (hinit : (Cond.initialized y.cls).before args s = true)
    (hcode : (Cond.code y bytes maxL ret).before args s = true) (hy : y.cls ≠ "java/lang/invoke/MethodHandle" ∧ y.cls ≠ "java/lang/invoke/VarHandle")
    {W9 : Nat} {Pre : Pt → Array Value → Prop} {Post : Pt → Array Value → Option Value → Pt → Prop} {PostX : Pt → Array Value → Addr → Pt → Prop} (hK : vx_Back l R p e below s args y 3 W9 Pre Post PostX)
    {g : JFrame} (hg : g.method = m) (hsize : g.locals.size = c.maxLocals) {argsL rest : List Value} (hlen : ∀ sig, parseMethodDescriptor y.desc = some sig → argsL.length = sig.parameters.length)
    (hstack : g.stack = argsL.reverse ++ rest) (hW : 2 * g.monitorRoom + (rest.map fun v => v.category).sum ≤ W9) (hdg : decode c.code g.pc = .ok (.invokestatic index, 3))
    (hpre : ∀ vm₁, s.WarmedH vm₁ → Pre ⟨T.setVm vm₁, locs, cells, slots⟩ argsL.toArray) :
    (∃ (v : Option Value) (vm₁ : Vm) (B : Pt), s.WarmedH vm₁ ∧ Stand p l e R s m args below meth c B.U B.locs B.cells B.slots ∧ Post ⟨T.setVm vm₁, locs, cells, slots⟩ argsL.toArray v B ∧
      ∀ target, Steps p.tables e below (B.U.setTop { g with pc := g.pc + 3, stack := v.toList ++ rest }) target → Steps p.tables e below (T.setTop g) target) ∨
    (∃ (q : Addr) (vm₁ : Vm) (B : Pt), s.WarmedH vm₁ ∧ Stand p l e R s m args below meth c B.U B.locs B.cells B.slots ∧ PostX ⟨T.setVm vm₁, locs, cells, slots⟩ argsL.toArray q B ∧
      Steps p.tables e below (T.setTop g) ((B.U.setTop { g with stack := rest }).pushFrame (.throwing q))) := by
  obtain ⟨mk, hnamed⟩ := Cond.code_named hcode
  obtain ⟨methM, cM, hmethM, -, -, -, -, -, -, hsigM⟩ := Cond.code_spec hnamed hcode
  have hstatic : methM.isStatic = true := Cond.static_spec hnamed hmethM hstat
  obtain ⟨kP, hkP, -⟩ := className_of_methodNamed hnamed
  have hinitP : kP.init = .initialized := Cond.initialized_spec (findClass_of_methodNamed hnamed) hkP hinit
  obtain ⟨vm₁, X₁, hstep₁⟩ := X.invokestatic hexec hown hlink hnamed hmethM hstatic hkP hinitP hy (g := g) hg (argsL := argsL) (rest := rest) (hlen _ hsigM) hstack hdg
  rcases hK m meth c ⟨T.setVm vm₁, locs, cells, slots⟩ { g with stack := rest } (.invokestatic index) mk argsL.toArray X₁ hg hsize hdg hW (X₁.named hnamed) (hpre vm₁ X₁.warmed) with ⟨v, B, X', hpost, hsteps⟩ | ⟨q, B, X', hpost, hsteps⟩
  · exact Or.inl ⟨v, vm₁, B, X₁.warmed, X', hpost, fun target h => hstep₁ _ fun acts => by rw [doInvoke_state]; exact hsteps.trans h⟩
  · exact Or.inr ⟨q, vm₁, B, X₁.warmed, X', hpost, hstep₁ _ fun acts => by rw [doInvoke_state]; exact hsteps⟩
end Calls
theorem vx_cls {s : State} {T : State} {vm₁ : Vm} {E : String} {k : ClassId} (hW : s.WarmedH vm₁) (h : (T.setVm vm₁).vm.findClass E = some k) : s.vm.findClass E = some k := by
  have h1 : vm₁.findClass E = some k := h
  rw [hW.alike.findClass] at h1
  exact h1
/-- the method's frame g, with q thrown over it -/
def vx_W (p : Program) (l : Launch) (e : Env) (R : Room) (s : State) (m : MethodId) (args : Array Value) (below : List Frame) (meth : Method) (c : Code) (H : Heap) (locs : List Loc) (cells slots : Nat) (Q : State → Prop) (g : JFrame) (q : Addr) : Prop :=
  ∀ T : State, T.heap = H → Stand p l e R s m args below meth c T locs cells slots → ∃ t, Steps p.tables e below ((T.setTop g).pushFrame (.throwing q)) t ∧ Q t
def vx_Run (p : Program) (l : Launch) (e : Env) (R : Room) (s : State) (m : MethodId) (args : Array Value) (below : List Frame) (meth : Method) (c : Code) (H : Heap) (locs : List Loc) (cells slots mc ms : Nat) (g : JFrame) (rest : List Value) (Qa : State → Outcome → State → Prop) (XC : String → State → State → Prop) (free : Addr → Prop) : Prop :=
  ∀ T : State, T.heap = H → Stand p l e R s m args below meth c T locs cells slots →
    (∃ (v : Option Value) (st₀ t T' : State) (L : List Loc), st₀.heap = H ∧ Stand p l e R s m args below meth c T' (locs ++ L) (cells + mc) (slots + ms) ∧ (∀ q ∈ L, free q.base) ∧ T'.heap = t.heap ∧ T'.vm = t.vm ∧ Qa st₀ (.returned v) t ∧
      Goes p e below T g T' { g with pc := g.pc + 3, stack := v.toList ++ rest }) ∨
    (∃ (q : Addr) (st₀ t T' : State) (L : List Loc) (E : String) (ce : Cell), st₀.heap = H ∧ Stand p l e R s m args below meth c T' (locs ++ L) (cells + mc) (slots + ms) ∧ (∀ z ∈ L, free z.base) ∧ T'.heap = t.heap ∧ T'.vm = t.vm ∧ XC E st₀ t ∧ t.heap[q]? = some ce ∧ ce.vm = .none ∧ s.vm.findClass E = some ce.cls ∧
      Steps p.tables e below (T.setTop g) ((T'.setTop { g with stack := rest }).pushFrame (.throwing q)))
def vx_X {S : Type} (px : S → Prop) (B : String → S → State → Prop) (A : Nat → Prop) : String → State → State → Prop := fun E st t => ∃ u : S, px u ∧ B E u t ∧ va_F A st t
section Runs
variable {p : Program} {l : Launch} {e : Env} {R : Room} {s : State} {m : MethodId} {args : Array Value} {below : List Frame} {meth : Method} {c : Code} {H : Heap} {locs : List Loc} {cells slots : Nat}
variable {y : MethodName} {bytes cc : ByteArray} {maxL nL mc ms n index : Nat} {ret : Option FieldType} {ws : List Cond} {rm : Room} {Pc : Array Value → State → Prop} {Qc : Array Value → State → Outcome → State → Prop} {XC : String → State → State → Prop} {free : Addr → Prop} {Ts : List Cond} {own C : String} {b : Addr} {As rest : List Value} {g : JFrame}
theorem vx_callBack (cb : CallB R s args own index y bytes maxL ret ws rm mc ms n) (hM : vx_Met l y ws rm Pc Qc XC mc ms free) (hbl : FrameBlind Pc) : vx_Back l R p e below s args y 3 8 (PreOf R mc ms Pc) (PostOf Qc mc ms free) (vx_Post XC mc ms free) := by
  obtain ⟨hrc, hrs, hfr, hlo, hws, hcw, -, hini, -⟩ := cb
  exact vx_back (bytes := bytes) (maxL := maxL) (ret := ret) hM hbl hrc hrs hfr hlo hws hcw (fun a' U hW => word_at hW (Or.inl (by first | rfl | simp [Cond.onTables, Cond.keeps, Cond.steady])) hini)
theorem vx_runV (S : CallFix p m c cc nL s args Ts own) (hM : vx_Met l y ws rm Pc Qc XC mc ms free) (cw : CallW R s args own C index y bytes maxL ret ws rm mc ms n) (hp : PreV s H C b Pc As)
    (hg : g.method = m) (hn : As.length = n) (hsize : g.locals.size = nL) (hstack : g.stack = As.reverse ++ .ref b :: rest) (hW : 2 * g.monitorRoom + (rest.map fun v => v.category).sum ≤ 8) (hdg : decode cc g.pc = .ok (.invokevirtual index, 3)) (hf : cells + mc ≤ R.cells ∧ slots + ms ≤ R.slots) :
    vx_Run p l e R s m args below meth c H locs cells slots mc ms g rest (Qc (Value.ref b :: As).toArray) XC free := by
  have hK : vx_Back l R p e below s args y 3 8 (PreOf R mc ms Pc) (PostOf Qc mc ms free) (vx_Post XC mc ms free) := vx_callBack cw.1 hM hp.1
  obtain ⟨⟨-, -, -, -, -, -, hcode, -, hy, hlen, hl⟩, hin, hse⟩ := cw
  obtain ⟨hx, hb, hml, ho, -⟩ := S
  obtain ⟨-, ⟨cellB, hcB, hoB, hclB⟩, hPc⟩ := hp
  intro T hT X
  rcases vx_callV X hx (C := C) (bytes := bytes) (maxL := maxL) (ret := ret) ho hl hin hse hcode hy hK (by rw [hT]; exact hcB) hoB hclB hg (hsize.trans hml.symm) (argsL := As) (rest := rest) (fun sig h => hn.trans (hlen sig h)) hstack hW (by rw [hb]; exact hdg)
    (fun vm₁ hW₁ => ⟨hf.1, hf.2, hPc (T.setVm vm₁) hT hW₁⟩) with ⟨v, vm₁, ⟨U', l2, c2, s2⟩, hW₁, X', ⟨g', mk, t, L, e1, e2, hq, h1, hL, h2, h3⟩, st⟩ | ⟨q, vm₁, ⟨U', l2, c2, s2⟩, hW₁, X', ⟨g', mk, t, L, E, ce, e1, e2, hq, hce, hcv, hcl, h1, hL, h2, h3⟩, st⟩
  · dsimp only [Pt.U, Pt.locs, Pt.cells, Pt.slots] at X' e1 e2 h1 h2 h3 st
    subst h1; subst h2; subst h3
    exact Or.inl ⟨v, (T.setVm vm₁).calling g' mk (Value.ref b :: As).toArray, t, U', L, hT, X', hL, e1, e2, hq, st⟩
  · dsimp only [Pt.U, Pt.locs, Pt.cells, Pt.slots] at X' e1 e2 h1 h2 h3 st hcl
    subst h1; subst h2; subst h3
    exact Or.inr ⟨q, (T.setVm vm₁).calling g' mk (Value.ref b :: As).toArray, t, U', L, E, ce, hT, X', hL, e1, e2, hq, hce, hcv, vx_cls hW₁ hcl, st⟩
theorem vx_runS (S : CallFix p m c cc nL s args Ts own) (hM : vx_Met l y ws rm Pc Qc XC mc ms free) (cw : CallB R s args own index y bytes maxL ret ws rm mc ms n ∧ (Cond.static y).before args s = true) (hp : PreS s H Pc As)
    (hg : g.method = m) (hn : As.length = n) (hsize : g.locals.size = nL) (hstack : g.stack = As.reverse ++ rest) (hW : 2 * g.monitorRoom + (rest.map fun v => v.category).sum ≤ 8) (hdg : decode cc g.pc = .ok (.invokestatic index, 3)) (hf : cells + mc ≤ R.cells ∧ slots + ms ≤ R.slots) :
    vx_Run p l e R s m args below meth c H locs cells slots mc ms g rest (Qc As.toArray) XC free := by
  have hK : vx_Back l R p e below s args y 3 8 (PreOf R mc ms Pc) (PostOf Qc mc ms free) (vx_Post XC mc ms free) := vx_callBack cw.1 hM hp.1
  obtain ⟨⟨-, -, -, -, -, -, hcode, hini, hy, hlen, hl⟩, hstt⟩ := cw
  obtain ⟨hx, hb, hml, ho, -⟩ := S
  intro T hT X
  rcases vx_callS X hx (bytes := bytes) (maxL := maxL) (ret := ret) ho hl hstt hini hcode hy hK hg (hsize.trans hml.symm) (argsL := As) (rest := rest) (fun sig h => hn.trans (hlen sig h)) hstack hW (by rw [hb]; exact hdg)
    (fun vm₁ hW₁ => ⟨hf.1, hf.2, hp.2 (T.setVm vm₁) hT hW₁⟩) with ⟨v, vm₁, ⟨U', l2, c2, s2⟩, hW₁, X', ⟨g', mk, t, L, e1, e2, hq, h1, hL, h2, h3⟩, st⟩ | ⟨q, vm₁, ⟨U', l2, c2, s2⟩, hW₁, X', ⟨g', mk, t, L, E, ce, e1, e2, hq, hce, hcv, hcl, h1, hL, h2, h3⟩, st⟩
  · dsimp only [Pt.U, Pt.locs, Pt.cells, Pt.slots] at X' e1 e2 h1 h2 h3 st
    subst h1; subst h2; subst h3
    exact Or.inl ⟨v, (T.setVm vm₁).calling g' mk As.toArray, t, U', L, hT, X', hL, e1, e2, hq, st⟩
  · dsimp only [Pt.U, Pt.locs, Pt.cells, Pt.slots] at X' e1 e2 h1 h2 h3 st hcl
    subst h1; subst h2; subst h3
    exact Or.inr ⟨q, (T.setVm vm₁).calling g' mk As.toArray, t, U', L, E, ce, hT, X', hL, e1, e2, hq, hce, hcv, vx_cls hW₁ hcl, st⟩
end Runs
section Rows
variable {p : Program} {l : Launch} {e : Env} {R : Room} {s : State} {m : MethodId} {args : Array Value} {below : List Frame} {meth : Method} {c : Code} {H : Heap} {locs : List Loc} {cells slots : Nat} {Q : State → Prop}
variable {mc ms : Nat} {free : Addr → Prop} {A0 A1 : Nat → Prop} {H0 : Heap} {a : Array Value} {pc : Nat} {ls : Array Slot} {st0 rest : List Value}
theorem vx_keep {st₀ t T' : State} {L : List Loc} (h0 : st₀.heap = H) (e1 : T'.heap = t.heap) (hS : va_S A0 H0 H locs) (hA : ∀ q, q < H.size → A1 q → A0 q) (hf : ∀ q, free q → A0 q) (hL : ∀ q ∈ L, free q.base) (hF : va_F A1 st₀ t) :
    H.size ≤ T'.heap.size ∧ (∀ q : Nat, q < H.size → ¬ A1 q → T'.heap[q]? = H[q]?) ∧ va_S A0 H0 T'.heap (locs ++ L) := by
  obtain ⟨hz, hk⟩ := hF
  rw [h0] at hz hk
  exact ⟨by rw [e1]; exact hz, fun q h1 h2 => by rw [e1]; exact hk q h1 h2,
    ⟨Nat.le_trans hS.1 (by rw [e1]; exact hz), fun q h1 h2 => by rw [e1, hk q (Nat.lt_of_lt_of_le h1 hS.1) (fun z => h2 (hA q (Nat.lt_of_lt_of_le h1 hS.1) z))]; exact hS.2.1 q h1 h2, fun q hq => by
      rcases List.mem_append.mp hq with h | h
      · exact hS.2.2 q h
      · exact hf _ (hL q h)⟩⟩
theorem vx_calli {S SX : Type} {post : Int32 → S → Prop} {px : SX → Prop} {B : S → State → Prop} {BX : String → SX → State → Prop} {AX : Nat → Prop} (hr : vx_Run p l e R s m args below meth c H locs cells slots mc ms (F0 m pc ls st0) rest (va_Qi post B A1 a) (vx_X px BX AX) free) (hS : va_S A0 H0 H locs) (hA : ∀ q, q < H.size → A1 q → A0 q) (hf : ∀ q, free q → A0 q) (hAX : ∀ q, q < H.size → AX q → A0 q)
    (kx : ∀ (E : String) (ce : Cell) (q9 : Addr) (u : SX) (t : State) (H1 : Heap) (locs1 : List Loc), t.heap = H1 → s.vm.Alike t.vm → px u → BX E u t → H.size ≤ H1.size → (∀ q : Nat, q < H.size → ¬ AX q → H1[q]? = H[q]?) → va_S A0 H0 H1 locs1 → H1[q9]? = some ce → ce.vm = .none → s.vm.findClass E = some ce.cls → vx_W p l e R s m args below meth c H1 locs1 (cells + mc) (slots + ms) Q (F0 m pc ls rest) q9)
    (kk : ∀ (r : Int32) (u : S) (t : State) (H1 : Heap) (locs1 : List Loc), t.heap = H1 → s.vm.Alike t.vm → post r u → B u t → H.size ≤ H1.size → (∀ q : Nat, q < H.size → ¬ A1 q → H1[q]? = H[q]?) → va_S A0 H0 H1 locs1 → W p l e R s m args below meth c H1 locs1 (cells + mc) (slots + ms) Q (F0 m (pc + 3) ls (.int r :: rest))) : W p l e R s m args below meth c H locs cells slots Q (F0 m pc ls st0) := by
  intro T hT X
  rcases hr T hT X with ⟨v, st₀, t, T', L, h0, X', hL, e1, e2, ⟨⟨r, u, hv, hp, hb⟩, hF⟩, st⟩ | ⟨q, st₀, t, T', L, E, ce, h0, X', hL, e1, e2, ⟨u, hp, hb, hF⟩, hce, hcv, hcl, st⟩
  · cases hv
    obtain ⟨k1, k2, k3⟩ := vx_keep h0 e1 hS hA hf hL hF
    obtain ⟨t2, a1, b1⟩ := kk r u t T'.heap (locs ++ L) e1.symm (by rw [← e2]; exact X'.warmed.alike) hp hb k1 k2 k3 T' rfl X'
    exact ⟨t2, st t2 a1, b1⟩
  · obtain ⟨k1, k2, k3⟩ := vx_keep h0 e1 hS hAX hf hL hF
    obtain ⟨t2, a1, b1⟩ := kx E ce q u t T'.heap (locs ++ L) e1.symm (by rw [← e2]; exact X'.warmed.alike) hp hb k1 k2 k3 (by rw [e1]; exact hce) hcv hcl T' rfl X'
    exact ⟨t2, st.trans a1, b1⟩
theorem vx_calll {S SX : Type} {post : Int64 → S → Prop} {px : SX → Prop} {B : S → State → Prop} {BX : String → SX → State → Prop} {AX : Nat → Prop} (hr : vx_Run p l e R s m args below meth c H locs cells slots mc ms (F0 m pc ls st0) rest (va_Ql post B A1 a) (vx_X px BX AX) free) (hS : va_S A0 H0 H locs) (hA : ∀ q, q < H.size → A1 q → A0 q) (hf : ∀ q, free q → A0 q) (hAX : ∀ q, q < H.size → AX q → A0 q)
    (kx : ∀ (E : String) (ce : Cell) (q9 : Addr) (u : SX) (t : State) (H1 : Heap) (locs1 : List Loc), t.heap = H1 → s.vm.Alike t.vm → px u → BX E u t → H.size ≤ H1.size → (∀ q : Nat, q < H.size → ¬ AX q → H1[q]? = H[q]?) → va_S A0 H0 H1 locs1 → H1[q9]? = some ce → ce.vm = .none → s.vm.findClass E = some ce.cls → vx_W p l e R s m args below meth c H1 locs1 (cells + mc) (slots + ms) Q (F0 m pc ls rest) q9)
    (kk : ∀ (r : Int64) (u : S) (t : State) (H1 : Heap) (locs1 : List Loc), t.heap = H1 → s.vm.Alike t.vm → post r u → B u t → H.size ≤ H1.size → (∀ q : Nat, q < H.size → ¬ A1 q → H1[q]? = H[q]?) → va_S A0 H0 H1 locs1 → W p l e R s m args below meth c H1 locs1 (cells + mc) (slots + ms) Q (F0 m (pc + 3) ls (.long r :: rest))) : W p l e R s m args below meth c H locs cells slots Q (F0 m pc ls st0) := by
  intro T hT X
  rcases hr T hT X with ⟨v, st₀, t, T', L, h0, X', hL, e1, e2, ⟨⟨r, u, hv, hp, hb⟩, hF⟩, st⟩ | ⟨q, st₀, t, T', L, E, ce, h0, X', hL, e1, e2, ⟨u, hp, hb, hF⟩, hce, hcv, hcl, st⟩
  · cases hv
    obtain ⟨k1, k2, k3⟩ := vx_keep h0 e1 hS hA hf hL hF
    obtain ⟨t2, a1, b1⟩ := kk r u t T'.heap (locs ++ L) e1.symm (by rw [← e2]; exact X'.warmed.alike) hp hb k1 k2 k3 T' rfl X'
    exact ⟨t2, st t2 a1, b1⟩
  · obtain ⟨k1, k2, k3⟩ := vx_keep h0 e1 hS hAX hf hL hF
    obtain ⟨t2, a1, b1⟩ := kx E ce q u t T'.heap (locs ++ L) e1.symm (by rw [← e2]; exact X'.warmed.alike) hp hb k1 k2 k3 (by rw [e1]; exact hce) hcv hcl T' rfl X'
    exact ⟨t2, st.trans a1, b1⟩
theorem vx_callf {S SX : Type} {post : UInt32 → S → Prop} {px : SX → Prop} {B : S → State → Prop} {BX : String → SX → State → Prop} {AX : Nat → Prop} (hr : vx_Run p l e R s m args below meth c H locs cells slots mc ms (F0 m pc ls st0) rest (va_Qf post B A1 a) (vx_X px BX AX) free) (hS : va_S A0 H0 H locs) (hA : ∀ q, q < H.size → A1 q → A0 q) (hf : ∀ q, free q → A0 q) (hAX : ∀ q, q < H.size → AX q → A0 q)
    (kx : ∀ (E : String) (ce : Cell) (q9 : Addr) (u : SX) (t : State) (H1 : Heap) (locs1 : List Loc), t.heap = H1 → s.vm.Alike t.vm → px u → BX E u t → H.size ≤ H1.size → (∀ q : Nat, q < H.size → ¬ AX q → H1[q]? = H[q]?) → va_S A0 H0 H1 locs1 → H1[q9]? = some ce → ce.vm = .none → s.vm.findClass E = some ce.cls → vx_W p l e R s m args below meth c H1 locs1 (cells + mc) (slots + ms) Q (F0 m pc ls rest) q9)
    (kk : ∀ (r : UInt32) (u : S) (t : State) (H1 : Heap) (locs1 : List Loc), t.heap = H1 → s.vm.Alike t.vm → post r u → B u t → H.size ≤ H1.size → (∀ q : Nat, q < H.size → ¬ A1 q → H1[q]? = H[q]?) → va_S A0 H0 H1 locs1 → W p l e R s m args below meth c H1 locs1 (cells + mc) (slots + ms) Q (F0 m (pc + 3) ls (.float r :: rest))) : W p l e R s m args below meth c H locs cells slots Q (F0 m pc ls st0) := by
  intro T hT X
  rcases hr T hT X with ⟨v, st₀, t, T', L, h0, X', hL, e1, e2, ⟨⟨r, u, hv, hp, hb⟩, hF⟩, st⟩ | ⟨q, st₀, t, T', L, E, ce, h0, X', hL, e1, e2, ⟨u, hp, hb, hF⟩, hce, hcv, hcl, st⟩
  · cases hv
    obtain ⟨k1, k2, k3⟩ := vx_keep h0 e1 hS hA hf hL hF
    obtain ⟨t2, a1, b1⟩ := kk r u t T'.heap (locs ++ L) e1.symm (by rw [← e2]; exact X'.warmed.alike) hp hb k1 k2 k3 T' rfl X'
    exact ⟨t2, st t2 a1, b1⟩
  · obtain ⟨k1, k2, k3⟩ := vx_keep h0 e1 hS hAX hf hL hF
    obtain ⟨t2, a1, b1⟩ := kx E ce q u t T'.heap (locs ++ L) e1.symm (by rw [← e2]; exact X'.warmed.alike) hp hb k1 k2 k3 (by rw [e1]; exact hce) hcv hcl T' rfl X'
    exact ⟨t2, st.trans a1, b1⟩
theorem vx_calld {S SX : Type} {post : UInt64 → S → Prop} {px : SX → Prop} {B : S → State → Prop} {BX : String → SX → State → Prop} {AX : Nat → Prop} (hr : vx_Run p l e R s m args below meth c H locs cells slots mc ms (F0 m pc ls st0) rest (va_Qd post B A1 a) (vx_X px BX AX) free) (hS : va_S A0 H0 H locs) (hA : ∀ q, q < H.size → A1 q → A0 q) (hf : ∀ q, free q → A0 q) (hAX : ∀ q, q < H.size → AX q → A0 q)
    (kx : ∀ (E : String) (ce : Cell) (q9 : Addr) (u : SX) (t : State) (H1 : Heap) (locs1 : List Loc), t.heap = H1 → s.vm.Alike t.vm → px u → BX E u t → H.size ≤ H1.size → (∀ q : Nat, q < H.size → ¬ AX q → H1[q]? = H[q]?) → va_S A0 H0 H1 locs1 → H1[q9]? = some ce → ce.vm = .none → s.vm.findClass E = some ce.cls → vx_W p l e R s m args below meth c H1 locs1 (cells + mc) (slots + ms) Q (F0 m pc ls rest) q9)
    (kk : ∀ (r : UInt64) (u : S) (t : State) (H1 : Heap) (locs1 : List Loc), t.heap = H1 → s.vm.Alike t.vm → post r u → B u t → H.size ≤ H1.size → (∀ q : Nat, q < H.size → ¬ A1 q → H1[q]? = H[q]?) → va_S A0 H0 H1 locs1 → W p l e R s m args below meth c H1 locs1 (cells + mc) (slots + ms) Q (F0 m (pc + 3) ls (.double r :: rest))) : W p l e R s m args below meth c H locs cells slots Q (F0 m pc ls st0) := by
  intro T hT X
  rcases hr T hT X with ⟨v, st₀, t, T', L, h0, X', hL, e1, e2, ⟨⟨r, u, hv, hp, hb⟩, hF⟩, st⟩ | ⟨q, st₀, t, T', L, E, ce, h0, X', hL, e1, e2, ⟨u, hp, hb, hF⟩, hce, hcv, hcl, st⟩
  · cases hv
    obtain ⟨k1, k2, k3⟩ := vx_keep h0 e1 hS hA hf hL hF
    obtain ⟨t2, a1, b1⟩ := kk r u t T'.heap (locs ++ L) e1.symm (by rw [← e2]; exact X'.warmed.alike) hp hb k1 k2 k3 T' rfl X'
    exact ⟨t2, st t2 a1, b1⟩
  · obtain ⟨k1, k2, k3⟩ := vx_keep h0 e1 hS hAX hf hL hF
    obtain ⟨t2, a1, b1⟩ := kx E ce q u t T'.heap (locs ++ L) e1.symm (by rw [← e2]; exact X'.warmed.alike) hp hb k1 k2 k3 (by rw [e1]; exact hce) hcv hcl T' rfl X'
    exact ⟨t2, st.trans a1, b1⟩
theorem vx_callv {S SX : Type} {post : S → Prop} {px : SX → Prop} {B : S → State → Prop} {BX : String → SX → State → Prop} {AX : Nat → Prop} (hr : vx_Run p l e R s m args below meth c H locs cells slots mc ms (F0 m pc ls st0) rest (va_Qv post B A1 a) (vx_X px BX AX) free) (hS : va_S A0 H0 H locs) (hA : ∀ q, q < H.size → A1 q → A0 q) (hf : ∀ q, free q → A0 q) (hAX : ∀ q, q < H.size → AX q → A0 q)
    (kx : ∀ (E : String) (ce : Cell) (q9 : Addr) (u : SX) (t : State) (H1 : Heap) (locs1 : List Loc), t.heap = H1 → s.vm.Alike t.vm → px u → BX E u t → H.size ≤ H1.size → (∀ q : Nat, q < H.size → ¬ AX q → H1[q]? = H[q]?) → va_S A0 H0 H1 locs1 → H1[q9]? = some ce → ce.vm = .none → s.vm.findClass E = some ce.cls → vx_W p l e R s m args below meth c H1 locs1 (cells + mc) (slots + ms) Q (F0 m pc ls rest) q9)
    (kk : ∀ (u : S) (t : State) (H1 : Heap) (locs1 : List Loc), t.heap = H1 → s.vm.Alike t.vm → post u → B u t → H.size ≤ H1.size → (∀ q : Nat, q < H.size → ¬ A1 q → H1[q]? = H[q]?) → va_S A0 H0 H1 locs1 → W p l e R s m args below meth c H1 locs1 (cells + mc) (slots + ms) Q (F0 m (pc + 3) ls (rest))) : W p l e R s m args below meth c H locs cells slots Q (F0 m pc ls st0) := by
  intro T hT X
  rcases hr T hT X with ⟨v, st₀, t, T', L, h0, X', hL, e1, e2, ⟨⟨u, hv, hp, hb⟩, hF⟩, st⟩ | ⟨q, st₀, t, T', L, E, ce, h0, X', hL, e1, e2, ⟨u, hp, hb, hF⟩, hce, hcv, hcl, st⟩
  · cases hv
    obtain ⟨k1, k2, k3⟩ := vx_keep h0 e1 hS hA hf hL hF
    obtain ⟨t2, a1, b1⟩ := kk u t T'.heap (locs ++ L) e1.symm (by rw [← e2]; exact X'.warmed.alike) hp hb k1 k2 k3 T' rfl X'
    exact ⟨t2, st t2 a1, b1⟩
  · obtain ⟨k1, k2, k3⟩ := vx_keep h0 e1 hS hAX hf hL hF
    obtain ⟨t2, a1, b1⟩ := kx E ce q u t T'.heap (locs ++ L) e1.symm (by rw [← e2]; exact X'.warmed.alike) hp hb k1 k2 k3 (by rw [e1]; exact hce) hcv hcl T' rfl X'
    exact ⟨t2, st.trans a1, b1⟩
/-- caught by the row x of this method's table; the rows ahead don't take it -/
theorem vx_catch {own name : String} {E : String} {ce : Cell} {q : Addr} (hown : s.vm.findClass own = some m.cls) (pre : List ExceptionTableEntry) (x : ExceptionTableEntry) (suf : List ExceptionTableEntry) (hsplit : c.exceptionTable.toList = pre ++ x :: suf)
    (hpass : ∀ z ∈ pre, covers z pc = false ∨ (z.catchType ≠ 0 ∧ ∃ nm : String, (Cond.classLink own z.catchType nm).before args s = true ∧ va_Nc E nm s)) (hx : covers x pc = true) (h0 : x.catchType ≠ 0)
    (hlink : (Cond.classLink own x.catchType name).before args s = true) (hcast : (Cond.castable E name).before args s = true) (hcell : H[q]? = some ce) (hv : ce.vm = .none) (hcl : s.vm.findClass E = some ce.cls)
    (kk : W p l e R s m args below meth c H locs cells slots Q (F0 m x.handlerPc ls [.ref q])) : vx_W p l e R s m args below meth c H locs cells slots Q (F0 m pc ls rest) q := by
  intro T hT X
  have hpl : e.platform.magicAccessors = ({} : Platform).magicAccessors := by rw [X.admits.platform]
  obtain ⟨c3, c4, hc3, hc4, hasg⟩ := Cond.castable_spec hcast
  cases Option.some.inj (hc3.symm.trans hcl)
  obtain ⟨c5, hc5, hcl5⟩ := Cond.classLink_spec hown hlink e.platform hpl
  cases Option.some.inj (hc4.symm.trans hc5)
  obtain ⟨vm', X', st⟩ := X.thenCaughtThrough q (g := F0 m pc ls rest) rfl (Steps.refl _) (by rw [hT]; exact hcell) (by rw [hv]; rfl) (by obtain ⟨k9, h9, -⟩ := Vm.findClass_spec hcl; exact ⟨k9, h9⟩) pre x suf hsplit
    (fun z hz => by
      rcases hpass z hz with h | ⟨hz0, nm, hl1, hn1⟩
      · exact Or.inl h
      · obtain ⟨c6, hc6, hcl6⟩ := Cond.classLink_spec hown hl1 e.platform hpl
        obtain ⟨a8, b8, h1, h2, h3⟩ := hn1
        cases Option.some.inj (h1.symm.trans hcl)
        cases Option.some.inj (h2.symm.trans hc6)
        exact Or.inr ⟨hz0, _, hcl6, h3⟩) hx (Or.inr ⟨h0, c4, hcl5, hasg⟩)
  obtain ⟨t, a1, b1⟩ := kk (T.setVm vm') hT X'
  exact ⟨t, st.trans a1, b1⟩
end Rows
section Ends
variable {p : Program} {l : Launch} {e : Env} {R : Room} {s : State} {m : MethodId} {args : Array Value} {below : List Frame} {meth : Method} {c : Code} {H : Heap} {locs : List Loc} {cells slots : Nat} {Q : State → Prop}
variable {mc ms : Nat} {free : Addr → Prop} {A0 A1 : Nat → Prop} {H0 : Heap} {a : Array Value} {ls : Array Slot} {st0 rest : List Value}
variable {Qc : Array Value → State → Outcome → State → Prop} {XC : String → State → State → Prop}
/-- what a body that may throw owes at its end -/
def vx_MQ (below : List Frame) (Qc : Array Value → State → Outcome → State → Prop) (XC : String → State → State → Prop) (a : Array Value) (s : State) (mc ms : Nat) (free : Addr → Prop) : State → Prop := fun t =>
  ∃ o, t.status = .running ∧ Ended t below o ∧ vx_Q Qc XC mc ms free a s o t
theorem vx_ret {g : JFrame} {mc ms : Nat} (k : W p l e R s m args below meth c H locs cells slots (MQ below Qc args s mc ms free) g) : W p l e R s m args below meth c H locs cells slots (vx_MQ below Qc XC args s mc ms free) g := by
  intro T hT X
  obtain ⟨t, a1, o, b1, b2, b3, b4⟩ := k T hT X
  exact ⟨t, a1, o, b1, b2, Or.inl ⟨b3, b4⟩⟩
/-- not caught here: it goes on to the caller -/
theorem vx_widen {g : JFrame} {q : Addr} {k n : Nat} (h1 : cells ≤ k) (h2 : slots ≤ n) (kk : vx_W p l e R s m args below meth c H locs k n Q g q) : vx_W p l e R s m args below meth c H locs cells slots Q g q := fun T hT X => kk T hT (stand_widen X h1 h2)
theorem vx_out {pc : Nat} {E : String} {ce : Cell} {q : Addr} {mc ms : Nat} (hout : ∀ x ∈ c.exceptionTable.toList, covers x pc = false) (hlocks : meth.locks = false) (hcell : H[q]? = some ce) (hv : ce.vm = .none) (hcl : s.vm.findClass E = some ce.cls)
    (hx : ∀ t : State, t.heap = H → s.vm.Alike t.vm → XC E s t) (hf : ∀ z ∈ locs, free z.base) (hc : cells ≤ mc) (hs : slots ≤ ms) :
    vx_W p l e R s m args below meth c H locs cells slots (vx_MQ below Qc XC args s mc ms free) (F0 m pc ls rest) q := by
  intro T hT X
  obtain ⟨st1, hrun, hend, hW, hsm⟩ := X.leaveThrown q (g := F0 m pc ls rest) rfl rfl rfl hout hlocks
  have hcell9 : (T.setFrames (.throwing q :: below)).heap[q]? = some ce := by
    show T.heap[q]? = some ce
    rw [hT]; exact hcell
  exact ⟨_, st1, .threw q, hrun, hend, Or.inr ⟨q, rfl, E, ce, locs, hx _ hT hW.alike, hcell9, hv, hcl, hW, hsm.mono hc hs, hf⟩⟩
theorem vx_frame {U : State} {k n : Nat} (h : s.sameButNew ({ U with vm := s.vm } : State) locs k n) : s.heap.size ≤ U.heap.size ∧ ∀ q : Nat, q < s.heap.size → (∀ z ∈ locs, z.base ≠ q) → U.heap[q]? = s.heap[q]? := by
  obtain ⟨-, h2, -, -, -, h6⟩ := h
  refine ⟨h2, fun q hq hz => ?_⟩
  obtain ⟨c9, e1, e2, e3, e4⟩ := h6 q _ (Array.getElem?_eq_getElem hq)
  have hs : c9.slots = (s.heap[q]).slots := Array.ext_getElem? fun i => e4 i fun hm => hz _ hm rfl
  have h9 : c9 = s.heap[q] := by
    rw [hs] at e2
    exact e2
  have e5 : U.heap[q]? = some c9 := e1
  rw [e5, h9, Array.getElem?_eq_getElem hq]
/-- the words of a throw but the four that speak of the heap -/
def vx_no (w : Cond) : Bool := decide (w ≠ .isRef (.static Bundle.tN "UNASSIGNED_STACK" Bundle.steD)) && decide (w ≠ .isRef (.static Bundle.tN "SUPPRESSED_SENTINEL" Bundle.listD)) && decide (w ≠ .laysStatic Bundle.tN "UNASSIGNED_STACK" Bundle.steD) && decide (w ≠ .laysStatic Bundle.tN "SUPPRESSED_SENTINEL" Bundle.listD)
def vx_at0 (own : String) (ic : Nat) (X : String) (names : List String) : List Cond := (Bundle.ownAtoms0 own ic X names).filter vx_no
def vx_atS (own : String) (ic : Nat) (X : String) (names : List String) : List Cond := (Bundle.ownAtoms own ic X names).filter vx_no
/-- a word that the tables alone decide, or a good one -/
def vx_ot (w : Cond) : Bool := w.onTables || goodWord w
theorem vx_ot_at {args a' : Array Value} {s U : State} {w : Cond} (hW : s.WarmedH U.vm) (hvm : s.vm = U.vm) (hg : vx_ot w = true) (h : w.before args s = true) : w.before a' U = true := by
  simp only [vx_ot, Bool.or_eq_true] at hg
  rcases hg with hg | hg
  · exact va_tabs hg hvm h
  · exact word_at hW (good_of_word hg) h
/-- a list's words: the good ones out of the method's own list, the others by premises of their own -/
theorem vx_hat {args : Array Value} {s : State} {L B : List Cond} (h1 : ∀ w ∈ L.filter goodWord, w.before args s = true) (h2 : ∀ w ∈ L.filter (fun w => !goodWord w), w ∈ B) (h3 : ∀ w ∈ B, w.before args s = true) : ∀ w ∈ L, w.before args s = true := by
  intro w hw
  by_cases g : goodWord w = true
  · exact h1 w (List.mem_filter.mpr ⟨hw, g⟩)
  · refine h3 w (h2 w (List.mem_filter.mpr ⟨hw, ?_⟩))
    show (!goodWord w) = true
    cases hgw : goodWord w
    · rfl
    · exact absurd hgw g
theorem vx_c {args : Array Value} {s : State} {w : Cond} {B : List Cond} (h : w.before args s = true) (t : ∀ w ∈ B, w.before args s = true) : ∀ w' ∈ w :: B, w'.before args s = true := fun w' h' => (List.mem_cons.mp h').elim (fun e => by rw [e]; exact h) (t w')
theorem vx_n {args : Array Value} {s : State} : ∀ w ∈ ([] : List Cond), w.before args s = true := fun _ h => nomatch h
theorem vx_own {args : Array Value} {s : State} {L : List Cond} (h1 : ∀ w ∈ L.filter vx_no, w.before args s = true)
    (hU : (Cond.isRef (.static Bundle.tN "UNASSIGNED_STACK" Bundle.steD)).before args s = true) (hN : (Cond.isRef (.static Bundle.tN "SUPPRESSED_SENTINEL" Bundle.listD)).before args s = true)
    (lU : (Cond.laysStatic Bundle.tN "UNASSIGNED_STACK" Bundle.steD).before args s = true) (lN : (Cond.laysStatic Bundle.tN "SUPPRESSED_SENTINEL" Bundle.listD).before args s = true) : ∀ w ∈ L, w.before args s = true := by
  intro w hw
  by_cases e1 : w = .isRef (.static Bundle.tN "UNASSIGNED_STACK" Bundle.steD)
  · rw [e1]; exact hU
  · by_cases e2 : w = .isRef (.static Bundle.tN "SUPPRESSED_SENTINEL" Bundle.listD)
    · rw [e2]; exact hN
    · by_cases e3 : w = .laysStatic Bundle.tN "UNASSIGNED_STACK" Bundle.steD
      · rw [e3]; exact lU
      · by_cases e4 : w = .laysStatic Bundle.tN "SUPPRESSED_SENTINEL" Bundle.listD
        · rw [e4]; exact lN
        · exact h1 w (List.mem_filter.mpr ⟨hw, by unfold vx_no; rw [decide_eq_true e1, decide_eq_true e2, decide_eq_true e3, decide_eq_true e4]; rfl⟩)
/-- where a static field lies, its class's statics cell in H -/
def vx_L (C n d : String) (A : Nat → Prop) (U : State) (H : Heap) : Prop := ∃ (c : ClassId) (k : Class) (i : Nat) (f : Field) (a : Nat) (cell : Cell), U.vm.findClass C = some c ∧ U.fieldFound? C n d = some (c, k, i, f) ∧ f.isStatic = true ∧ k.statics = some a ∧ H[a]? = some cell ∧ cell.vm.isStatics = true ∧ cell.cls = c ∧ f.slot < cell.slots.size ∧ k.staticTypes[f.slot]? = some f.type ∧ ¬ A a
theorem vx_L.moved {C n d : String} {A : Nat → Prop} {u U : State} {H : Heap} (hvm : u.vm.Alike U.vm) (h : vx_L C n d A u H) : vx_L C n d A U H := by
  obtain ⟨c, k, i, f, a, cell, h1, h2, h3, h4, h5, h6, h7, h8, h9, h10⟩ := h
  obtain ⟨k', hi', he⟩ := State.fieldFound?_setVm hvm h2
  exact ⟨c, k', i, f, a, cell, by rw [hvm.findClass]; exact h1, hi', h3, by rw [he]; exact h4, h5, h6, h7, h8, by rw [he]; exact h9, h10⟩
theorem vx_L.kept {C n d : String} {A : Nat → Prop} {U : State} {H H1 : Heap} (h : vx_L C n d A U H) (hq : ∀ a : Nat, a < H.size → ¬ A a → H1[a]? = H[a]?) : vx_L C n d A U H1 := by
  obtain ⟨c, k, i, f, a, cell, h1, h2, h3, h4, h5, h6, h7, h8, h9, h10⟩ := h
  exact ⟨c, k, i, f, a, cell, h1, h2, h3, h4, by rw [hq a (Array.getElem?_eq_some_iff.mp h5).1 h10]; exact h5, h6, h7, h8, h9, h10⟩
theorem vx_L.narrow {C n d : String} {A B : Nat → Prop} {U : State} {H : Heap} (h : vx_L C n d A U H) (hAB : ∀ q, B q → A q) : vx_L C n d B U H := by
  obtain ⟨c, k, i, f, a, cell, h1, h2, h3, h4, h5, h6, h7, h8, h9, h10⟩ := h
  exact ⟨c, k, i, f, a, cell, h1, h2, h3, h4, h5, h6, h7, h8, h9, fun z => h10 (hAB _ z)⟩
theorem vx_L.word {C n d : String} {A : Nat → Prop} {s : State} {args : Array Value} (h : vx_L C n d A s s.heap) : (Cond.laysStatic C n d).before args s = true := by
  obtain ⟨c, k, i, f, a, cell, h1, h2, h3, h4, h5, h6, h7, h8, h9, -⟩ := h
  show (Cond.laysStatic C n d).holds args s none s [] = true
  exact Cond.laysStatic_of h1 h2 h3 h4 h5 h6 h7 h8 h9
/-- .. and what it holds: null or some reference -/
def vx_Zq (C n d : String) (A : Nat → Prop) (U : State) (H : Heap) : Prop := va_Zq C n d A U H ∧ vx_L C n d A U H
theorem vx_Zq.moved {C n d : String} {A : Nat → Prop} {u U : State} {H : Heap} (hvm : u.vm.Alike U.vm) (h : vx_Zq C n d A u H) : vx_Zq C n d A U H := ⟨va_Zq.moved hvm h.1, vx_L.moved hvm h.2⟩
theorem vx_Zq.kept {C n d : String} {A : Nat → Prop} {U : State} {H H1 : Heap} (h : vx_Zq C n d A U H) (hq : ∀ a : Nat, a < H.size → ¬ A a → H1[a]? = H[a]?) : vx_Zq C n d A U H1 := ⟨va_Zq.kept h.1 hq, vx_L.kept h.2 hq⟩
theorem vx_Zq.narrow {C n d : String} {A B : Nat → Prop} {U : State} {H : Heap} (h : vx_Zq C n d A U H) (hAB : ∀ q, B q → A q) : vx_Zq C n d B U H := ⟨va_Zq.narrow h.1 hAB, vx_L.narrow h.2 hAB⟩
theorem vx_Zqof {args : Array Value} {s : State} {C n d : String} {A : Nat → Prop} (hl : (Cond.laysStatic C n d).before args s = true) (hini : (Cond.initialized C).before args s = true) (h : (Cond.isRef (.static C n d)).before args s = true) (hA : ∀ a : Nat, a < s.heap.size → ¬ A a) : vx_Zq C n d A s s.heap := by
  refine ⟨va_Zqof hl hini h hA, ?_⟩
  obtain ⟨c, k, i, f, a, cell, h1, h2, h3, h4, h5, h6, h7, h8, h9⟩ := Cond.laysStatic_spec hl
  exact ⟨c, k, i, f, a, cell, h1, h2, h3, h4, h5, h6, h7, h8, h9, hA a (Array.getElem?_eq_some_iff.mp h5).1⟩
theorem vx_isRef {C n d : String} {v : Value} {A : Nat → Prop} {s : State} {args : Array Value} (h : va_Z C n d v A s s.heap) (hv : v.isRef = true) : (Cond.isRef (.static C n d)).before args s = true := by
  obtain ⟨cf, kf, fi, f, a, cell, h1, h2, h3, h4, h5, h6, h7, -⟩ := h
  have he : (Term.static C n d).eval args s none [] s = some v := by
    simp [Term.eval, State.fieldNamed?, h1, h2, h4, h5, h6, h7]
  simp only [Cond.before, Cond.holds, Cond.value, he]
  cases v <;> simp_all [Value.isRef]
theorem vx_isRefq {C n d : String} {A : Nat → Prop} {s : State} {args : Array Value} (h : va_Zq C n d A s s.heap) : (Cond.isRef (.static C n d)).before args s = true := by
  rcases h with h | ⟨t, h⟩
  · exact vx_isRef h rfl
  · exact vx_isRef h rfl
/-- the same frame, seen from here: as if the method were called anew in this heap -/
theorem vx_rebase {T : State} (X : Stand p l e R s m args below meth c T locs cells slots) {R' : Room} (hf : R'.frames ≤ R.frames) (hl : R'.locals ≤ R.locals) (hc : cells + R'.cells ≤ R.cells) (hs : slots + R'.slots ≤ R.slots) :
    Stand p l e R' ((T.setVm s.vm).setFrames (.invoking m args :: below)) m args below meth c T [] 0 0 := by
  have htop : (T.setVm s.vm).topJava?.isSome := X.here.top
  have hF : ((T.setVm s.vm).setFrames (.invoking m args :: below)).frames = .invoking m args :: below := State.frames_setFrames _ (State.cur_lt_of_top htop)
  obtain ⟨g₀, hg0⟩ := Option.isSome_iff_exists.mp htop
  obtain ⟨r, hr⟩ := State.topJava?_eq_some.mp hg0
  have hl9 : e.platform.stackLimits (T.setVm s.vm).me = e.platform.stackLimits s.me := X.limits
  have hb9 : (T.setVm s.vm).me.stackBytes = s.me.stackBytes := X.bytes
  refine ⟨X.admits, X.cas, X.clock, hF, ?_, X.hears, X.method, X.code, X.here, X.tail, X.warmed, ?_, ?_, ?_⟩
  · have h := X.room
    have hU : ((T.setVm s.vm).setFrames (.invoking m args :: below)).localsInUse = s.localsInUse := by
      rw [State.localsInUse_invoking hF (meth := meth) (c := c) X.method X.code, State.localsInUse_invoking X.frames X.method X.code]
    simp only [State.hasRoom, Bool.and_eq_true, decide_eq_true_eq] at h ⊢
    obtain ⟨⟨⟨⟨h1, h2, h3, h4, h5, h6⟩, h7⟩, h8⟩, h9⟩ := h
    rw [X.frames, List.length_cons] at h2 h3
    have q1 := X.heapSize
    have q2 := X.used
    simp only [hF, hU, List.length_cons, State.stackLimits_setFrames, State.stackBytes_setFrames, hl9, hb9]
    refine ⟨⟨⟨⟨by omega, by omega, by omega, by omega, by omega, h6⟩, ?_⟩, ?_⟩, X.book⟩
    · show T.heap.size + R'.cells ≤ e.platform.maxCells
      omega
    · show T.slotsUsed + R'.slots ≤ e.platform.maxSlots
      omega
  · rw [State.stackLimits_setFrames]; rfl
  · rw [State.stackBytes_setFrames]; rfl
  · refine ⟨?_, Nat.le_refl _, Nat.le_refl _, ?_, ?_, fun a c9 h9 => ⟨c9, h9, rfl, rfl, fun _ _ => rfl⟩⟩
    · obtain ⟨t, ht, -⟩ := State.frames_cons hr
      show T.setVm s.vm = { ((T.setVm s.vm).setFrames (.invoking m args :: below)).setFrames (T.setVm s.vm).frames with heap := T.heap, slotsUsed := T.slotsUsed }
      rw [State.setFrames_setFrames, State.setFrames_self ht]
      rfl
    · show T.slotsUsed = T.slotsUsed + ((T.heap.toList.drop T.heap.size).map (·.slots.size)).sum
      rw [List.drop_eq_nil_of_le (Nat.le_of_eq Array.length_toList)]
      rfl
    · show ((T.heap.toList.drop T.heap.size).map (·.slots.size)).sum ≤ 0
      rw [List.drop_eq_nil_of_le (Nat.le_of_eq Array.length_toList)]
      exact Nat.le_refl _
/-- 'throw new E()': new; dup; invokespecial; athrow -/
theorem vx_throw0 {cc : ByteArray} {pc : Nat} (hexec : p.tables.exec = Jvm.exec) (hb : c.code = cc) (hl : l.stackTraces = false) {own cls : String} {names : List String} {ik ic mc ms : Nat} {A : Nat → Prop}
    (hown : s.vm.findClass own = some m.cls) (hcls : Bundle.fit cls = true) (hnames : ∀ n ∈ names, Bundle.fit n = true)
    (hk : (Cond.classLink own ik cls).before args s = true) (hini : (Cond.initialized cls).before args s = true) (hat : ∀ w ∈ vx_at0 own ic cls names, w.before args s = true)
    (hgood : ∀ w ∈ Cond.classLink own ik cls :: Cond.initialized cls :: vx_at0 own ic cls names, vx_ot w = true)
    (hU : vx_Zq Bundle.tN "UNASSIGNED_STACK" Bundle.steD A s s.heap) (hN : vx_Zq Bundle.tN "SUPPRESSED_SENTINEL" Bundle.listD A s s.heap) (hS : va_S A s.heap H locs) (hsize : ls.size = c.maxLocals)
    (d0 : decode cc pc = .ok (.new ik, 3)) (d3 : decode cc (pc + 3) = .ok (.dup, 1)) (d4 : decode cc (pc + 4) = .ok (.invokespecial ic, 3)) (d7 : decode cc (pc + 7) = .ok (.athrow, 1))
    (hout : ∀ x ∈ c.exceptionTable.toList, covers x (pc + 7) = false)
    (hRframes : names.length + 3 < R.frames) (hRlocals : (rest.map fun v => v.category).sum + (13 * (names.length + 1) + 42) ≤ R.locals) (hRcells : cells + 1 ≤ R.cells) (hRslots : slots + 6 ≤ R.slots) (hlocks : meth.locks = false)
    (hx : ∀ t : State, s.vm.Alike t.vm → H.size ≤ t.heap.size → (∀ q : Nat, q < H.size → t.heap[q]? = H[q]?) → XC cls s t)
    (hf : ∀ z ∈ locs, free z.base) (hc : cells + 1 ≤ mc) (hs : slots + 6 ≤ ms) :
    W p l e R s m args below meth c H locs cells slots (vx_MQ below Qc XC args s mc ms free) (F0 m pc ls rest) := by
  intro T hT X
  have htr : e.platform.stackTraces = false := (show e.platform.stackTraces = l.stackTraces by rw [X.admits.platform]).trans hl
  have Y := vx_rebase X (R' := { frames := R.frames, locals := R.locals, cells := 1, slots := 6 }) (Nat.le_refl _) (Nat.le_refl _) hRcells hRslots
  obtain ⟨s', hA⟩ : ∃ z, z = (T.setVm s.vm).setFrames (.invoking m args :: below) := ⟨_, rfl⟩
  rw [← hA] at Y
  have hvm : s'.vm = s.vm := by rw [hA]; rfl
  have hhp : s'.heap = H := by rw [hA]; exact hT
  have hW0 : s.WarmedH s'.vm := by rw [hvm]; exact State.WarmedH.refl s
  have hat' : ∀ w ∈ vx_at0 own ic cls names, w.before args s' = true := fun w hw => vx_ot_at hW0 hvm.symm (hgood w (List.mem_cons_of_mem _ (List.mem_cons_of_mem _ hw))) (hat w hw)
  have hk' : (Cond.classLink own ik cls).before args s' = true := vx_ot_at hW0 hvm.symm (hgood _ List.mem_cons_self) hk
  have hini' : (Cond.initialized cls).before args s' = true := vx_ot_at hW0 hvm.symm (hgood _ (List.mem_cons_of_mem _ List.mem_cons_self)) hini
  have hU' : vx_Zq Bundle.tN "UNASSIGNED_STACK" Bundle.steD A s' s'.heap := by rw [hhp]; exact vx_Zq.moved hW0.alike (hU.kept hS.2.1)
  have hN' : vx_Zq Bundle.tN "SUPPRESSED_SENTINEL" Bundle.listD A s' s'.heap := by rw [hhp]; exact vx_Zq.moved hW0.alike (hN.kept hS.2.1)
  have h : ∀ w ∈ Bundle.ownAtoms0 own ic cls names, w.before args s' = true := vx_own hat' (vx_isRefq hU'.1) (vx_isRefq hN'.1) hU'.2.word hN'.2.word
  have hown' : s'.vm.findClass own = some m.cls := by rw [hvm]; exact hown
  have hins : (Cond.instantiable cls 6).before args s' = true := h _ (by simp [Bundle.ownAtoms0])
  obtain ⟨vm₁, cX, kX, hfX, hkX, -, -, X₁, st1⟩ := Y.newCold hexec (own := own) (C := cls) (index := ik) (n := 6) hown' hk' hins hini'
    (g := F0 m pc ls rest) rfl (by rw [hb]; exact d0) (Nat.le_refl _) (Nat.le_refl _)
  generalize hT1 : (T.setVm vm₁).pushCell { cls := cX, slots := kX.instanceTypes.map defaultValue, vm := .none } = T1 at X₁ st1
  have hcat : (Value.ref T.heap.size).category = 1 := rfl
  have hcellA : T1.heap[T.heap.size]? = some (freshCell cX kX) := by rw [← hT1]; exact State.heap_pushCell_size _ _
  have d3' : decode c.code (pc + 3) = .ok (.dup, 1) := by rw [hb]; exact d3
  obtain ⟨U, hsteps, hrun, hend, hW, hsame, ce, hce, hO⟩ := X₁.ctorThrow0 hexec htr (own := own) (cls := cls) (names := names) (ic := ic) hown' hcls hnames h (fun x hx => nomatch hx) hfX hkX hcellA (by rw [hhp, hT]; exact Nat.le_refl _)
    (g := { method := m, pc := pc + 4, locals := ls, stack := .ref T.heap.size :: .ref T.heap.size :: rest, locked := none }) rfl hsize rfl rfl (rest := rest) rfl
    (by rw [hb]; exact d4) (by rw [hb]; exact d7) hout hRframes (by simp only [List.map_cons, List.sum_cons, hcat]; omega) hlocks
  obtain ⟨f1, f2⟩ := vx_frame hsame
  rw [hhp] at f1 f2
  have hWs : s.WarmedH U.vm := State.WarmedH.trans hW0 hW
  have hcl : s.vm.findClass cls = some ce.cls := by
    have h9 := hO.cls
    rw [hvm] at h9
    exact h9
  have hall : s.sameButNew ({ U with vm := s.vm } : State) locs mc ms := by
    subst hA
    obtain ⟨e1, e2⟩ := hsame
    rw [State.setFrames_setFrames] at e1
    have h2 : (T.setVm s.vm).sameButNew ({ U with vm := s.vm } : State) [] (0 + 1) (0 + 6) := ⟨e1, e2⟩
    have h3 := X.same.trans h2
    rw [List.append_nil] at h3
    exact h3.mono hc hs
  refine ⟨U, ?_, .threw T.heap.size, hrun, hend, Or.inr ⟨T.heap.size, rfl, cls, ce, locs, hx U hWs.alike f1 (fun q hq => f2 q hq (fun z hz => nomatch hz)), hce, hO.vm, hcl, hWs, hall, hf⟩⟩
  refine st1 _ ?_
  show Steps p.tables e below (T1.setTop { method := m, pc := pc + 3, locals := ls, stack := .ref T.heap.size :: rest, locked := none }) _
  jvm_step X₁.here [X₁.here.top, hexec, d3', Value.category]
  exact hsteps
/-- 'throw new E("text")': new; dup; ldc; invokespecial; athrow -/
theorem vx_throwS {cc : ByteArray} {pc : Nat} (hexec : p.tables.exec = Jvm.exec) (hb : c.code = cc) (hl : l.stackTraces = false) {own cls text : String} {names : List String} {ik is ic mc ms sa : Nat} {A : Nat → Prop}
    (hown : s.vm.findClass own = some m.cls) (hcls : Bundle.fit cls = true) (hnames : ∀ n ∈ names, Bundle.fit n = true)
    (hk : (Cond.classLink own ik cls).before args s = true) (hini : (Cond.initialized cls).before args s = true) (hstr : vk_R own is text sa s) (hat : ∀ w ∈ vx_atS own ic cls names, w.before args s = true)
    (hgood : ∀ w ∈ Cond.classLink own ik cls :: Cond.initialized cls :: vx_atS own ic cls names, vx_ot w = true)
    (hU : vx_Zq Bundle.tN "UNASSIGNED_STACK" Bundle.steD A s s.heap) (hN : vx_Zq Bundle.tN "SUPPRESSED_SENTINEL" Bundle.listD A s s.heap) (hS : va_S A s.heap H locs) (hsize : ls.size = c.maxLocals)
    (d0 : decode cc pc = .ok (.new ik, 3)) (d3 : decode cc (pc + 3) = .ok (.dup, 1)) (d4 : decode cc (pc + 4) = .ok (.ldc is, 2)) (d6 : decode cc (pc + 6) = .ok (.invokespecial ic, 3)) (d9 : decode cc (pc + 9) = .ok (.athrow, 1))
    (hout : ∀ x ∈ c.exceptionTable.toList, covers x (pc + 9) = false)
    (hRframes : names.length + 3 < R.frames) (hRlocals : (rest.map fun v => v.category).sum + (13 * (names.length + 1) + 43) ≤ R.locals) (hRcells : cells + 1 ≤ R.cells) (hRslots : slots + 6 ≤ R.slots) (hlocks : meth.locks = false)
    (hx : ∀ t : State, s.vm.Alike t.vm → H.size ≤ t.heap.size → (∀ q : Nat, q < H.size → t.heap[q]? = H[q]?) → XC cls s t)
    (hf : ∀ z ∈ locs, free z.base) (hc : cells + 1 ≤ mc) (hs : slots + 6 ≤ ms) :
    W p l e R s m args below meth c H locs cells slots (vx_MQ below Qc XC args s mc ms free) (F0 m pc ls rest) := by
  intro T hT X
  have htr : e.platform.stackTraces = false := (show e.platform.stackTraces = l.stackTraces by rw [X.admits.platform]).trans hl
  have Y := vx_rebase X (R' := { frames := R.frames, locals := R.locals, cells := 1, slots := 6 }) (Nat.le_refl _) (Nat.le_refl _) hRcells hRslots
  obtain ⟨s', hA⟩ : ∃ z, z = (T.setVm s.vm).setFrames (.invoking m args :: below) := ⟨_, rfl⟩
  rw [← hA] at Y
  have hvm : s'.vm = s.vm := by rw [hA]; rfl
  have hhp : s'.heap = H := by rw [hA]; exact hT
  have hW0 : s.WarmedH s'.vm := by rw [hvm]; exact State.WarmedH.refl s
  have hat' : ∀ w ∈ vx_atS own ic cls names, w.before args s' = true := fun w hw => vx_ot_at hW0 hvm.symm (hgood w (List.mem_cons_of_mem _ (List.mem_cons_of_mem _ hw))) (hat w hw)
  have hk' : (Cond.classLink own ik cls).before args s' = true := vx_ot_at hW0 hvm.symm (hgood _ List.mem_cons_self) hk
  have hini' : (Cond.initialized cls).before args s' = true := vx_ot_at hW0 hvm.symm (hgood _ (List.mem_cons_of_mem _ List.mem_cons_self)) hini
  have hU' : vx_Zq Bundle.tN "UNASSIGNED_STACK" Bundle.steD A s' s'.heap := by rw [hhp]; exact vx_Zq.moved hW0.alike (hU.kept hS.2.1)
  have hN' : vx_Zq Bundle.tN "SUPPRESSED_SENTINEL" Bundle.listD A s' s'.heap := by rw [hhp]; exact vx_Zq.moved hW0.alike (hN.kept hS.2.1)
  have h : ∀ w ∈ Bundle.ownAtoms own ic cls names, w.before args s' = true := vx_own hat' (vx_isRefq hU'.1) (vx_isRefq hN'.1) hU'.2.word hN'.2.word
  have hown' : s'.vm.findClass own = some m.cls := by rw [hvm]; exact hown
  have hins : (Cond.instantiable cls 6).before args s' = true := h _ (by simp [Bundle.ownAtoms])
  obtain ⟨vm₁, cX, kX, hfX, hkX, -, -, X₁, st1⟩ := Y.newCold hexec (own := own) (C := cls) (index := ik) (n := 6) hown' hk' hins hini'
    (g := F0 m pc ls rest) rfl (by rw [hb]; exact d0) (Nat.le_refl _) (Nat.le_refl _)
  generalize hT1 : (T.setVm vm₁).pushCell { cls := cX, slots := kX.instanceTypes.map defaultValue, vm := .none } = T1 at X₁ st1
  have hcat : (Value.ref T.heap.size).category = 1 := rfl
  have hcellA : T1.heap[T.heap.size]? = some (freshCell cX kX) := by rw [← hT1]; exact State.heap_pushCell_size _ _
  have d3' : decode c.code (pc + 3) = .ok (.dup, 1) := by rw [hb]; exact d3
  have d4' : decode c.code (pc + 4) = .ok (.ldc is, 2) := by rw [hb]; exact d4
  have hstr' : vk_R own is text sa s' := vk_R.warm hW0 hstr
  obtain ⟨U, hsteps, hrun, hend, hW, hsame, ce, hce, hO⟩ := X₁.ctorThrowS hexec htr (own := own) (cls := cls) (names := names) (ic := ic) hown' hcls hnames h (fun x hx => nomatch hx) hfX hkX hcellA (by rw [hhp, hT]; exact Nat.le_refl _) (msg := .ref sa) rfl
    (g := { method := m, pc := pc + 6, locals := ls, stack := .ref sa :: .ref T.heap.size :: .ref T.heap.size :: rest, locked := none }) rfl hsize rfl rfl (rest := rest) rfl
    (by rw [hb]; exact d6) (by rw [hb]; exact d9) hout hRframes (by simp only [List.map_cons, List.sum_cons, hcat]; omega) hlocks
  obtain ⟨f1, f2⟩ := vx_frame hsame
  rw [hhp] at f1 f2
  have hWs : s.WarmedH U.vm := State.WarmedH.trans hW0 hW
  have hcl : s.vm.findClass cls = some ce.cls := by
    have h9 := hO.cls
    rw [hvm] at h9
    exact h9
  have hall : s.sameButNew ({ U with vm := s.vm } : State) locs mc ms := by
    subst hA
    obtain ⟨e1, e2⟩ := hsame
    rw [State.setFrames_setFrames] at e1
    have h2 : (T.setVm s.vm).sameButNew ({ U with vm := s.vm } : State) [] (0 + 1) (0 + 6) := ⟨e1, e2⟩
    have h3 := X.same.trans h2
    rw [List.append_nil] at h3
    exact h3.mono hc hs
  refine ⟨U, ?_, .threw T.heap.size, hrun, hend, Or.inr ⟨T.heap.size, rfl, cls, ce, locs, hx U hWs.alike f1 (fun q hq => f2 q hq (fun z hz => nomatch hz)), hce, hO.vm, hcl, hWs, hall, hf⟩⟩
  refine st1 _ ?_
  show Steps p.tables e below (T1.setTop { method := m, pc := pc + 3, locals := ls, stack := .ref T.heap.size :: rest, locked := none }) _
  jvm_step X₁.here [X₁.here.top, hexec, d3', Value.category]
  exact X₁.ldcString hexec (own := own) (text := text) (index := is) (a := sa) hown' hstr'.1 hstr'.2
    (g := { method := m, pc := pc + 4, locals := ls, stack := .ref T.heap.size :: .ref T.heap.size :: rest, locked := none }) rfl d4' _ hsteps
/-- 'throw new E("text")', the text by a wide index -/
theorem vx_throwSW {cc : ByteArray} {pc : Nat} (hexec : p.tables.exec = Jvm.exec) (hb : c.code = cc) (hl : l.stackTraces = false) {own cls text : String} {names : List String} {ik is ic mc ms sa : Nat} {A : Nat → Prop}
    (hown : s.vm.findClass own = some m.cls) (hcls : Bundle.fit cls = true) (hnames : ∀ n ∈ names, Bundle.fit n = true)
    (hk : (Cond.classLink own ik cls).before args s = true) (hini : (Cond.initialized cls).before args s = true) (hstr : vk_R own is text sa s) (hat : ∀ w ∈ vx_atS own ic cls names, w.before args s = true)
    (hgood : ∀ w ∈ Cond.classLink own ik cls :: Cond.initialized cls :: vx_atS own ic cls names, vx_ot w = true)
    (hU : vx_Zq Bundle.tN "UNASSIGNED_STACK" Bundle.steD A s s.heap) (hN : vx_Zq Bundle.tN "SUPPRESSED_SENTINEL" Bundle.listD A s s.heap) (hS : va_S A s.heap H locs) (hsize : ls.size = c.maxLocals)
    (d0 : decode cc pc = .ok (.new ik, 3)) (d3 : decode cc (pc + 3) = .ok (.dup, 1)) (d4 : decode cc (pc + 4) = .ok (.ldc_w is, 3)) (d7 : decode cc (pc + 7) = .ok (.invokespecial ic, 3)) (d10 : decode cc (pc + 10) = .ok (.athrow, 1))
    (hout : ∀ x ∈ c.exceptionTable.toList, covers x (pc + 10) = false)
    (hRframes : names.length + 3 < R.frames) (hRlocals : (rest.map fun v => v.category).sum + (13 * (names.length + 1) + 43) ≤ R.locals) (hRcells : cells + 1 ≤ R.cells) (hRslots : slots + 6 ≤ R.slots) (hlocks : meth.locks = false)
    (hx : ∀ t : State, s.vm.Alike t.vm → H.size ≤ t.heap.size → (∀ q : Nat, q < H.size → t.heap[q]? = H[q]?) → XC cls s t)
    (hf : ∀ z ∈ locs, free z.base) (hc : cells + 1 ≤ mc) (hs : slots + 6 ≤ ms) :
    W p l e R s m args below meth c H locs cells slots (vx_MQ below Qc XC args s mc ms free) (F0 m pc ls rest) := by
  intro T hT X
  have htr : e.platform.stackTraces = false := (show e.platform.stackTraces = l.stackTraces by rw [X.admits.platform]).trans hl
  have Y := vx_rebase X (R' := { frames := R.frames, locals := R.locals, cells := 1, slots := 6 }) (Nat.le_refl _) (Nat.le_refl _) hRcells hRslots
  obtain ⟨s', hA⟩ : ∃ z, z = (T.setVm s.vm).setFrames (.invoking m args :: below) := ⟨_, rfl⟩
  rw [← hA] at Y
  have hvm : s'.vm = s.vm := by rw [hA]; rfl
  have hhp : s'.heap = H := by rw [hA]; exact hT
  have hW0 : s.WarmedH s'.vm := by rw [hvm]; exact State.WarmedH.refl s
  have hat' : ∀ w ∈ vx_atS own ic cls names, w.before args s' = true := fun w hw => vx_ot_at hW0 hvm.symm (hgood w (List.mem_cons_of_mem _ (List.mem_cons_of_mem _ hw))) (hat w hw)
  have hk' : (Cond.classLink own ik cls).before args s' = true := vx_ot_at hW0 hvm.symm (hgood _ List.mem_cons_self) hk
  have hini' : (Cond.initialized cls).before args s' = true := vx_ot_at hW0 hvm.symm (hgood _ (List.mem_cons_of_mem _ List.mem_cons_self)) hini
  have hU' : vx_Zq Bundle.tN "UNASSIGNED_STACK" Bundle.steD A s' s'.heap := by rw [hhp]; exact vx_Zq.moved hW0.alike (hU.kept hS.2.1)
  have hN' : vx_Zq Bundle.tN "SUPPRESSED_SENTINEL" Bundle.listD A s' s'.heap := by rw [hhp]; exact vx_Zq.moved hW0.alike (hN.kept hS.2.1)
  have h : ∀ w ∈ Bundle.ownAtoms own ic cls names, w.before args s' = true := vx_own hat' (vx_isRefq hU'.1) (vx_isRefq hN'.1) hU'.2.word hN'.2.word
  have hown' : s'.vm.findClass own = some m.cls := by rw [hvm]; exact hown
  have hins : (Cond.instantiable cls 6).before args s' = true := h _ (by simp [Bundle.ownAtoms])
  obtain ⟨vm₁, cX, kX, hfX, hkX, -, -, X₁, st1⟩ := Y.newCold hexec (own := own) (C := cls) (index := ik) (n := 6) hown' hk' hins hini'
    (g := F0 m pc ls rest) rfl (by rw [hb]; exact d0) (Nat.le_refl _) (Nat.le_refl _)
  generalize hT1 : (T.setVm vm₁).pushCell { cls := cX, slots := kX.instanceTypes.map defaultValue, vm := .none } = T1 at X₁ st1
  have hcat : (Value.ref T.heap.size).category = 1 := rfl
  have hcellA : T1.heap[T.heap.size]? = some (freshCell cX kX) := by rw [← hT1]; exact State.heap_pushCell_size _ _
  have d3' : decode c.code (pc + 3) = .ok (.dup, 1) := by rw [hb]; exact d3
  have d4' : decode c.code (pc + 4) = .ok (.ldc_w is, 3) := by rw [hb]; exact d4
  have hstr' : vk_R own is text sa s' := vk_R.warm hW0 hstr
  obtain ⟨U, hsteps, hrun, hend, hW, hsame, ce, hce, hO⟩ := X₁.ctorThrowS hexec htr (own := own) (cls := cls) (names := names) (ic := ic) hown' hcls hnames h (fun x hx => nomatch hx) hfX hkX hcellA (by rw [hhp, hT]; exact Nat.le_refl _) (msg := .ref sa) rfl
    (g := { method := m, pc := pc + 7, locals := ls, stack := .ref sa :: .ref T.heap.size :: .ref T.heap.size :: rest, locked := none }) rfl hsize rfl rfl (rest := rest) rfl
    (by rw [hb]; exact d7) (by rw [hb]; exact d10) hout hRframes (by simp only [List.map_cons, List.sum_cons, hcat]; omega) hlocks
  obtain ⟨f1, f2⟩ := vx_frame hsame
  rw [hhp] at f1 f2
  have hWs : s.WarmedH U.vm := State.WarmedH.trans hW0 hW
  have hcl : s.vm.findClass cls = some ce.cls := by
    have h9 := hO.cls
    rw [hvm] at h9
    exact h9
  have hall : s.sameButNew ({ U with vm := s.vm } : State) locs mc ms := by
    subst hA
    obtain ⟨e1, e2⟩ := hsame
    rw [State.setFrames_setFrames] at e1
    have h2 : (T.setVm s.vm).sameButNew ({ U with vm := s.vm } : State) [] (0 + 1) (0 + 6) := ⟨e1, e2⟩
    have h3 := X.same.trans h2
    rw [List.append_nil] at h3
    exact h3.mono hc hs
  refine ⟨U, ?_, .threw T.heap.size, hrun, hend, Or.inr ⟨T.heap.size, rfl, cls, ce, locs, hx U hWs.alike f1 (fun q hq => f2 q hq (fun z hz => nomatch hz)), hce, hO.vm, hcl, hWs, hall, hf⟩⟩
  refine st1 _ ?_
  show Steps p.tables e below (T1.setTop { method := m, pc := pc + 3, locals := ls, stack := .ref T.heap.size :: rest, locked := none }) _
  jvm_step X₁.here [X₁.here.top, hexec, d3', Value.category]
  exact X₁.ldcStringW hexec (own := own) (text := text) (index := is) (a := sa) hown' hstr'.1 hstr'.2
    (g := { method := m, pc := pc + 4, locals := ls, stack := .ref T.heap.size :: .ref T.heap.size :: rest, locked := none }) rfl d4' _ hsteps
end Ends
section Bodies
variable {l : Launch}
theorem vx_ofW {y : MethodName} {ws ws' : List Cond} {rm : Room} {Pc : Array Value → State → Prop} {Qc : Array Value → State → Outcome → State → Prop} {XC : String → State → State → Prop} {mc ms : Nat} {free : Addr → Prop} {cc : ByteArray} {maxL : Nat} {ret : Option FieldType}
    (hy : plainName y.cls = true) (hw : ws = Cond.code y cc maxL ret :: ws')
    (body : ∀ p e s m args below meth c s₁, BodyLoose p l y (headSpec ws rm) cc maxL ret e s m args below meth c s₁ → c.maxLocals = maxL → (∀ x ∈ c.exceptionTable.toList, False) → Pc args s →
      W p l e (headSpec ws rm).room s m args below meth c s.heap [] 0 0 (vx_MQ below Qc XC args s mc ms free) (entryFrame m args maxL)) : vx_Met l y ws rm Pc Qc XC mc ms free := by
  refine MetFree.of_bodyS (code := cc) (maxLocals := maxL) (ret := ret) hy ?_ ?_
  · intro args s m h hn
    obtain ⟨meth, c, h1, h2, h3, h4, h5, h6, -, -⟩ := Cond.code_spec hn (atoms_spec (ws := ws) h _ (by rw [hw]; exact List.mem_cons_self))
    exact ⟨meth, c, h1, h2, h3, h4, h5, h6⟩
  · intro p e s m args below meth c s₁ B hml hP _
    have hh0 : s₁.heap = s.heap := by rw [B.state]; rfl
    have ht : ∀ x ∈ c.exceptionTable.toList, False := by
      obtain ⟨meth9, c9, h1, h2, -, -, -, -, h7, -⟩ := Cond.code_spec B.named (atoms_spec (ws := ws) B.pre _ (by rw [hw]; exact List.mem_cons_self))
      cases Option.some.inj (h1.symm.trans B.method)
      cases Option.some.inj (h2.symm.trans (Stand.of_body B).code)
      intro x hx
      rw [Array.isEmpty_iff.mp h7] at hx
      cases hx
    obtain ⟨t, a1, o, b1, b2, b3⟩ := body p e s m args below meth c s₁ B hml ht hP s₁ hh0 (Stand.of_body B)
    exact ⟨t, o, a1, b1, b2, b3⟩
/-- the table of a body with handlers -/
theorem vx_table {p : Program} {x y : MethodName} {S : Spec} {cc bytes : ByteArray} {maxL maxL' : Nat} {ret ret' : Option FieldType} {e : Env} {s s₁ : State} {m : MethodId} {args : Array Value} {below : List Frame} {meth : Method} {c : Code} {hh : List (Nat × Nat × Nat × Nat)}
    (B : BodyLoose p l y S cc maxL ret e s m args below meth c s₁) (h : (Cond.codeWith y bytes maxL' ret' hh).before args s = true) : c.exceptionTable.toList = tableOf hh := by
  obtain ⟨m9, meth9, c9, hn9, h1, h2, -, -, h6, -⟩ := Cond.codeWith_spec h
  cases Option.some.inj (hn9.symm.trans B.named)
  cases Option.some.inj (h1.symm.trans B.method)
  cases Option.some.inj (h2.symm.trans (Stand.of_body B).code)
  rw [← h6, table_eq]
end Bodies
end VXA
/-! ===== END ===== -/
/-! ===== BEGIN a static call of a method with an exception table ===== -/
section VXS
variable {p : Program} {l : Launch} {e : Env} {R : Room} {s : State} {m : MethodId} {args : Array Value} {below : List Frame} {meth : Method} {c : Code} {T : State} {H : Heap} {locs : List Loc} {cells slots : Nat}
abbrev vx_CSW (R : Room) (s : State) (args : Array Value) (own : String) (index : Nat) (y : MethodName) (bytes : ByteArray) (maxL : Nat) (ret : Option FieldType) (hh : List (Nat × Nat × Nat × Nat)) (ws : List Cond) (rm : Room) (mc ms n : Nat) : Prop :=
  (rm.cells = mc ∧ rm.slots = ms ∧ rm.frames + 1 ≤ R.frames ∧ 8 + (maxL + 11) + rm.locals ≤ R.locals ∧ (∀ w ∈ ws, ∀ (a' : Array Value) (U : State), s.WarmedH U.vm → w.before a' U = true) ∧ Cond.codeWith y bytes maxL ret hh ∈ ws) ∧
  (Cond.codeWith y bytes maxL ret hh).before args s = true ∧ (Cond.initialized y.cls).before args s = true ∧ (y.cls ≠ "java/lang/invoke/MethodHandle" ∧ y.cls ≠ "java/lang/invoke/VarHandle") ∧
  (∀ sig, parseMethodDescriptor y.desc = some sig → n = sig.parameters.length) ∧ (Cond.methodLink own index y).before args s = true ∧ (Cond.static y).before args s = true
theorem vx_cwSW {own : String} {index maxL mc ms : Nat} {y : MethodName} {bytes : ByteArray} {ret : Option FieldType} {hh : List (Nat × Nat × Nat × Nat)} {Ts ws ws' : List Cond} {rm : Room} (n : Nat) (ht : ∀ w ∈ Ts, w.before args s = true) (hT : GoodIn Ts (va_wsS own index y ws)) (hw : ws = Cond.codeWith y bytes maxL ret hh :: ws') (hrc : rm.cells = mc) (hrs : rm.slots = ms)
    (hd : y.cls ≠ "java/lang/invoke/MethodHandle" ∧ y.cls ≠ "java/lang/invoke/VarHandle" ∧ (parseMethodDescriptor y.desc).map (fun d => d.parameters.length) = some n) (hR : rm.frames + 1 ≤ R.frames ∧ 8 + (maxL + 11) + rm.locals ≤ R.locals) :
    vx_CSW R s args own index y bytes maxL ret hh ws rm mc ms n := by
  have ok : ∀ w ∈ va_wsS own index y ws, w.before args s = true := fun w h => ht w (hT w h).1
  have hG : GoodIn Ts ws := fun w h => hT w (by unfold va_wsS; exact List.mem_append_right _ h)
  have hc : Cond.codeWith y bytes maxL ret hh ∈ ws := by rw [hw]; exact List.mem_cons_self
  refine ⟨⟨hrc, hrs, hR.1, hR.2, pay_in ht hG, hc⟩, ht _ (hG _ hc).1, ok _ (by simp [va_wsS]), ⟨hd.1, hd.2.1⟩, fun sig h => ?_, ok _ (by simp [va_wsS]), ok _ (by simp [va_wsS])⟩
  have h2 := hd.2.2
  rw [h] at h2
  exact (Option.some.inj h2).symm
theorem vx_callSW (X : Stand p l e R s m args below meth c T locs cells slots) (hexec : p.tables.exec = Jvm.exec) {own : String} {index : Nat} {y : MethodName} {bytes : ByteArray} {maxL : Nat} {ret : Option FieldType} {hh : List (Nat × Nat × Nat × Nat)}
    (hown : s.vm.findClass own = some m.cls) (hlink : (Cond.methodLink own index y).before args s = true) (hstat : (Cond.static y).before args s = true) (hinit : (Cond.initialized y.cls).before args s = true)
    (hcode : (Cond.codeWith y bytes maxL ret hh).before args s = true) (hy : y.cls ≠ "java/lang/invoke/MethodHandle" ∧ y.cls ≠ "java/lang/invoke/VarHandle")
    {W9 : Nat} {Pre : Pt → Array Value → Prop} {Post : Pt → Array Value → Option Value → Pt → Prop} (hK : Back l R p e below s args y 3 W9 Pre Post)
    {g : JFrame} (hg : g.method = m) (hsize : g.locals.size = c.maxLocals) {argsL rest : List Value} (hlen : ∀ sig, parseMethodDescriptor y.desc = some sig → argsL.length = sig.parameters.length)
    (hstack : g.stack = argsL.reverse ++ rest) (hW : 2 * g.monitorRoom + (rest.map fun v => v.category).sum ≤ W9) (hdg : decode c.code g.pc = .ok (.invokestatic index, 3))
    (hpre : ∀ vm₁, s.WarmedH vm₁ → Pre ⟨T.setVm vm₁, locs, cells, slots⟩ argsL.toArray) :
    ∃ (v : Option Value) (vm₁ : Vm) (B : Pt), s.WarmedH vm₁ ∧ Stand p l e R s m args below meth c B.U B.locs B.cells B.slots ∧ Post ⟨T.setVm vm₁, locs, cells, slots⟩ argsL.toArray v B ∧
      ∀ target, Steps p.tables e below (B.U.setTop { g with pc := g.pc + 3, stack := v.toList ++ rest }) target → Steps p.tables e below (T.setTop g) target := by
  obtain ⟨mk, methM, cM, hnamed, hmethM, -, -, -, -, -, -, hsigM⟩ := Cond.codeWith_spec hcode
  have hstatic : methM.isStatic = true := Cond.static_spec hnamed hmethM hstat
  obtain ⟨kP, hkP, -⟩ := className_of_methodNamed hnamed
  have hinitP : kP.init = .initialized := Cond.initialized_spec (findClass_of_methodNamed hnamed) hkP hinit
  obtain ⟨vm₁, X₁, hstep₁⟩ := X.invokestatic hexec hown hlink hnamed hmethM hstatic hkP hinitP hy (g := g) hg (argsL := argsL) (rest := rest) (hlen _ hsigM) hstack hdg
  obtain ⟨v, B, X', hpost, hsteps⟩ := hK m meth c ⟨T.setVm vm₁, locs, cells, slots⟩ { g with stack := rest } (.invokestatic index) mk argsL.toArray X₁ hg hsize hdg hW (X₁.named hnamed) (hpre vm₁ X₁.warmed)
  exact ⟨v, vm₁, B, X₁.warmed, X', hpost, fun target h => hstep₁ _ fun acts => by rw [doInvoke_state]; exact hsteps.trans h⟩
theorem vx_runSW {y : MethodName} {bytes cc : ByteArray} {maxL nL mc ms n index : Nat} {ret : Option FieldType} {hh : List (Nat × Nat × Nat × Nat)} {ws : List Cond} {rm : Room} {Pc : Array Value → State → Prop} {Qc : Array Value → State → Outcome → State → Prop} {free : Addr → Prop} {Ts : List Cond} {own : String} {As rest : List Value} {g : JFrame}
    (S : CallFix p m c cc nL s args Ts own) (hM : Met l y ws rm Pc Qc mc ms free) (cw : vx_CSW R s args own index y bytes maxL ret hh ws rm mc ms n) (hp : PreS s H Pc As)
    (hg : g.method = m) (hn : As.length = n) (hsize : g.locals.size = nL) (hstack : g.stack = As.reverse ++ rest) (hW : 2 * g.monitorRoom + (rest.map fun v => v.category).sum ≤ 8) (hdg : decode cc g.pc = .ok (.invokestatic index, 3)) (hf : cells + mc ≤ R.cells ∧ slots + ms ≤ R.slots) :
    va_Run p l e R s m args below meth c H locs cells slots mc ms g rest (Qc As.toArray) (free) := by
  obtain ⟨⟨hrc, hrs, hfr, hlo, hws, hcw⟩, hcode, hini, hy, hlen, hl, hstt⟩ := cw
  have hK : Back l R p e below s args y 3 8 (PreOf R mc ms Pc) (PostOf Qc mc ms free) := va_backW (hh := hh) (bytes := bytes) (maxL := maxL) (ret := ret) hM hp.1 hrc hrs hfr hlo hws hcw (fun a' U hW => word_at hW (Or.inl (by first | rfl | simp [Cond.onTables, Cond.keeps, Cond.steady])) hini)
  obtain ⟨hx, hb, hml, ho, -⟩ := S
  intro T hT X
  obtain ⟨v, vm₁, ⟨U', l2, c2, s2⟩, hW₁, X', ⟨g', mk, t, L, e1, e2, hq, h1, hL, h2, h3⟩, st⟩ := vx_callSW X hx (hh := hh) (bytes := bytes) (maxL := maxL) (ret := ret) ho hl hstt hini hcode hy hK hg (hsize.trans hml.symm) (argsL := As) (rest := rest) (fun sig h => hn.trans (hlen sig h)) hstack hW (by rw [hb]; exact hdg)
    (fun vm₁ hW₁ => ⟨hf.1, hf.2, hp.2 (T.setVm vm₁) hT hW₁⟩)
  dsimp only [Pt.U, Pt.locs, Pt.cells, Pt.slots] at X' e1 e2 h1 h2 h3 st
  subst h1; subst h2; subst h3
  exact ⟨v, (T.setVm vm₁).calling g' mk As.toArray, t, U', L, hT, X', hL, e1, e2, hq, st⟩
/-- not caught here, past rows that name other classes: it goes on to the caller -/
theorem vx_outP {p : Program} {l : Launch} {e : Env} {R : Room} {s : State} {m : MethodId} {args : Array Value} {below : List Frame} {meth : Method} {c : Code} {H : Heap} {locs : List Loc} {cells slots : Nat} {free : Addr → Prop} {ls : Array Slot} {rest : List Value} {Qc : Array Value → State → Outcome → State → Prop} {XC : String → State → State → Prop}
    {pc : Nat} {own E : String} {ce : Cell} {q : Addr} {mc ms : Nat} (hown : s.vm.findClass own = some m.cls) (hlocks : meth.locks = false)
    (hpass : ∀ z ∈ c.exceptionTable.toList, covers z pc = false ∨ (z.catchType ≠ 0 ∧ ∃ nm : String, (Cond.classLink own z.catchType nm).before args s = true ∧ va_Nc E nm s)) (hcell : H[q]? = some ce) (hv : ce.vm = .none) (hcl : s.vm.findClass E = some ce.cls)
    (hx : ∀ t : State, t.heap = H → s.vm.Alike t.vm → XC E s t) (hf : ∀ z ∈ locs, free z.base) (hc : cells ≤ mc) (hs : slots ≤ ms) :
    vx_W p l e R s m args below meth c H locs cells slots (vx_MQ below Qc XC args s mc ms free) (F0 m pc ls rest) q := by
  intro T hT X
  have hpl : e.platform.magicAccessors = ({} : Platform).magicAccessors := by rw [X.admits.platform]
  obtain ⟨vm', hW', X', st⟩ := X.outThrough hlocks q (g := F0 m pc ls rest) rfl rfl rfl (cell := ce) (by rw [hT]; exact hcell) (by rw [hv]; rfl)
    (by obtain ⟨k9, h9, -⟩ := Vm.findClass_spec hcl; exact ⟨k9, h9⟩) (fun z hz => by
      rcases hpass z hz with h | ⟨hz0, nm, hl1, hn1⟩
      · exact Or.inl h
      · obtain ⟨c6, hc6, hcl6⟩ := Cond.classLink_spec hown hl1 e.platform hpl
        obtain ⟨a8, b8, h1, h2, h3⟩ := hn1
        cases Option.some.inj (h1.symm.trans hcl)
        cases Option.some.inj (h2.symm.trans hc6)
        exact Or.inr ⟨hz0, _, hcl6, h3⟩)
  obtain ⟨g₀, hfr⟩ := X'.frames_eq
  have hcell9 : ((T.setVm vm').setFrames (.throwing q :: below)).heap[q]? = some ce := by
    show T.heap[q]? = some ce
    rw [hT]; exact hcell
  have hend : Ended ((T.setVm vm').setFrames (.throwing q :: below)) below (.threw q) := State.frames_setFrames _ (State.cur_lt_of_frames hfr)
  refine ⟨(T.setVm vm').setFrames (.throwing q :: below), ?_, .threw q, X'.here.running, hend, Or.inr ⟨q, rfl, E, ce, locs, hx _ hT (X'.ends _).1.alike, hcell9, hv, hcl, (X'.ends _).1, (X'.ends _).2.mono hc hs, hf⟩⟩
  rw [X.pushThrowing_eq]
  exact st
/-- a thing of a world lies in the heap -/
theorem vx_lt {D : va_G} {cl : List vw_C} {ws : va_W} {H1 : Heap} (h : va_P D cl ws H1) {k : Nat} {q : Nat × va_E} (hk : ws[k]? = some q) : q.1 < H1.size := (h k q hk).lt
end VXS
/-! ===== END ===== -/
/-! ===== BEGIN methods with a table of their own: called by a name, returning or throwing ===== -/
section VXH
/-! vx_backW, vx_callVX, vx_callSX, vx_callVW, vx_runVW, vx_runVX, vx_runSX, vx_ofWH follow the same proofs as their sisters above (Free/Laws.lean, Shelf42/LK1.lean); vx_outP calls Shelf42/NT130.lean (outThrough). -/
section
variable {l : Launch} {R : Room} {p : Program} {e : Env} {below : List Frame} {s : State} {sargs : Array Value} {y : MethodName} {len W9 : Nat}
theorem vx_backW {ws : List Cond} {rm : Room} {Pc : Array Value → State → Prop} {Qc : Array Value → State → Outcome → State → Prop} {XC : String → State → State → Prop} {mc ms : Nat} {free : Addr → Prop} {bytes : ByteArray} {maxL : Nat} {ret : Option FieldType} {hh : List (Nat × Nat × Nat × Nat)}
    (hM : vx_Met l y ws rm Pc Qc XC mc ms free) (hblind : FrameBlind Pc) (hrc : rm.cells = mc) (hrs : rm.slots = ms)
    (hframes : rm.frames + 1 ≤ R.frames) (hlocals : W9 + (maxL + 11) + rm.locals ≤ R.locals)
    (hws : ∀ w ∈ ws, ∀ a' U, s.WarmedH U.vm → w.before a' U = true) (hcode : Cond.codeWith y bytes maxL ret hh ∈ ws) (hinit : ∀ a' U, s.WarmedH U.vm → (Cond.initialized y.cls).before a' U = true) :
    vx_Back l R p e below s sargs y len W9 (PreOf R mc ms Pc) (PostOf Qc mc ms free) (vx_Post XC mc ms free) := by
  intro m meth c A g ig mk a X hg hsize hdg hW hn hp
  have h1 : (headSpec ws rm).pre.before a A.U = true := atoms_intro fun w hw => hws w hw _ _ X.warmed
  have h2 : (Cond.codeWith y bytes maxL ret hh).before a A.U = true := hws _ hcode _ _ X.warmed
  have h3 : (Cond.initialized y.cls).before a A.U = true := hinit _ _ X.warmed
  have h4 : A.cells + (headSpec ws rm).room.cells ≤ R.cells := by rw [show (headSpec ws rm).room.cells = mc from hrc]; exact hp.1
  have h5 : A.slots + (headSpec ws rm).room.slots ≤ R.slots := by rw [show (headSpec ws rm).room.slots = ms from hrs]; exact hp.2.1
  have hPc : Pc a (A.U.calling g mk a) := hblind _ _ _ _ hp.2.2
  obtain ⟨U, Ls, c0, s0⟩ := A
  dsimp only [Pt.U, Pt.locs, Pt.cells, Pt.slots] at h1 h2 h3 h4 h5 X hn hPc ⊢
  obtain ⟨m9, methY, cY, hn9, hmY, hcY, -, hlY, -⟩ := Cond.codeWith_spec h2
  cases Option.some.inj (hn9.symm.trans hn)
  obtain ⟨kY, hkY, -⟩ := className_of_methodNamed hn
  have hinitY : kY.init = .initialized := Cond.initialized_spec (findClass_of_methodNamed hn) hkY h3
  have h : At U g.method c below := by rw [hg]; exact X.here
  have hlocals9 : W9 + (maxL + 11) + (headSpec ws rm).room.locals ≤ R.locals := hlocals
  have happ : (headSpec ws rm).appliesLoose y e.platform (U.calling g mk a) = true :=
    Spec.appliesLoose_calling (g := g) h hdg hn hkY hinitY
      (X.room_calling (g := g) (R' := (headSpec ws rm).room) hsize hmY hcY hframes (by rw [hlY]; omega) h4 h5) h1
  obtain ⟨mid, hmid⟩ := h.above
  have hfr : (U.setTop g).frames = (.java g :: mid) ++ below := by rw [State.frames_setTop' g h.top, hmid]; rfl
  obtain ⟨o, s₂, hsteps, -, hend, hq⟩ := Steps.callFree hM p X.admits X.cas X.clock (acts := []) hfr happ hPc trivial
  have hq' : vx_Q Qc XC mc ms free a (U.calling g mk a) o s₂ := hq
  rw [State.frames_setTop' g h.top] at hend
  obtain ⟨g₀, hg0⟩ := Option.isSome_iff_exists.mp h.top
  obtain ⟨r, hr⟩ := State.topJava?_eq_some.mp hg0
  have hr' : (({ U with heap := s₂.heap, slotsUsed := s₂.slotsUsed } : State).setVm s₂.vm).frames = .java g₀ :: r := hr
  rcases hq' with ⟨hqc, L, hfe, hL⟩ | ⟨q, rfl, E, ce, L, hx, hce, hcv, hcl, hW₂, hsm, hL⟩
  · obtain ⟨⟨v, rfl⟩, hW₂, e2, q2, q3, q4, q5, q6⟩ := id hfe
    have e3 : s₂ = ({ (U.calling g mk a).setFrames s₂.frames with heap := s₂.heap, slotsUsed := s₂.slotsUsed } : State).setVm s₂.vm := by
      have : s₂ = ({ s₂ with vm := (U.calling g mk a).vm } : State).setVm s₂.vm := rfl
      rw [e2] at this
      exact this
    obtain ⟨c₂, i₂, len₂, hc₂, hd₂, hf₂⟩ := hend
    have hW' : U.WarmedH s₂.vm := hW₂
    have hcc : c₂ = c := by
      have h1 : s₂.code? g.method = U.code? g.method := by
        rw [State.code?_eq, State.code?_eq, hW'.alike.method?]
      exact Option.some.inj (hc₂.symm.trans (h1.trans h.code))
    subst hcc
    have hlen : len₂ = len := by rw [hdg] at hd₂; cases hd₂; rfl
    subst hlen
    have hs₂ : s₂ = (({ U with heap := s₂.heap, slotsUsed := s₂.slotsUsed } : State).setVm s₂.vm).setTop { g with pc := g.pc + len₂, stack := v.toList ++ g.stack } := by
      refine e3.trans ?_
      rw [hf₂, State.calling_eq h.top, State.setFrames_setFrames, State.setTop_of_frames _ hr', hr]
      rfl
    have hsame : U.sameButNew ({ U with heap := s₂.heap, slotsUsed := s₂.slotsUsed } : State) L mc ms := by
      refine ⟨?_, q2, q3, q4, q5, q6⟩
      obtain ⟨t, ht, -⟩ := State.frames_cons hr
      show ({ U with heap := s₂.heap, slotsUsed := s₂.slotsUsed } : State) = { U.setFrames U.frames with heap := s₂.heap, slotsUsed := s₂.slotsUsed }
      rw [State.setFrames_self ht]
    subst hg
    refine Or.inl ⟨v, ⟨(({ U with heap := s₂.heap, slotsUsed := s₂.slotsUsed } : State).setVm s₂.vm), Ls ++ L, c0 + mc, s0 + ms⟩,
      ⟨X.admits, X.cas, X.clock, X.frames, X.room, X.hears, X.method, X.code, (X.here.setHeapUsed s₂.heap s₂.slotsUsed).setVm hW'.alike, X.tail, State.WarmedH.trans X.warmed hW', X.limits, X.bytes, X.same.trans (hsame.setVm s.vm)⟩,
      ⟨g, mk, s₂, L, rfl, rfl, hqc, rfl, hL, rfl, rfl⟩, ?_⟩
    show Steps p.tables e below _ ((({ U with heap := s₂.heap, slotsUsed := s₂.slotsUsed } : State).setVm s₂.vm).setTop { g with pc := g.pc + len₂, stack := v.toList ++ g.stack })
    rw [← hs₂]
    exact hsteps
  · obtain ⟨e2, q2, q3, q4, q5, q6⟩ := id hsm
    have e3 : s₂ = ({ (U.calling g mk a).setFrames s₂.frames with heap := s₂.heap, slotsUsed := s₂.slotsUsed } : State).setVm s₂.vm := by
      have : s₂ = ({ s₂ with vm := (U.calling g mk a).vm } : State).setVm s₂.vm := rfl
      rw [e2] at this
      exact this
    have hf₂ : s₂.frames = .throwing q :: .java g :: U.frames.tail := hend
    have hW' : U.WarmedH s₂.vm := hW₂
    have hs₂ : s₂ = ((({ U with heap := s₂.heap, slotsUsed := s₂.slotsUsed } : State).setVm s₂.vm).setTop g).pushFrame (.throwing q) := by
      refine e3.trans ?_
      rw [hf₂, State.calling_eq h.top, State.setFrames_setFrames, State.pushFrame, State.frames_setTop _ hr', State.setTop_of_frames _ hr', State.setFrames_setFrames, hr]
      rfl
    have hsame : U.sameButNew ({ U with heap := s₂.heap, slotsUsed := s₂.slotsUsed } : State) L mc ms := by
      refine ⟨?_, q2, q3, q4, q5, q6⟩
      obtain ⟨t, ht, -⟩ := State.frames_cons hr
      show ({ U with heap := s₂.heap, slotsUsed := s₂.slotsUsed } : State) = { U.setFrames U.frames with heap := s₂.heap, slotsUsed := s₂.slotsUsed }
      rw [State.setFrames_self ht]
    subst hg
    refine Or.inr ⟨q, ⟨(({ U with heap := s₂.heap, slotsUsed := s₂.slotsUsed } : State).setVm s₂.vm), Ls ++ L, c0 + mc, s0 + ms⟩,
      ⟨X.admits, X.cas, X.clock, X.frames, X.room, X.hears, X.method, X.code, (X.here.setHeapUsed s₂.heap s₂.slotsUsed).setVm hW'.alike, X.tail, State.WarmedH.trans X.warmed hW', X.limits, X.bytes, X.same.trans (hsame.setVm s.vm)⟩,
      ⟨g, mk, s₂, L, E, ce, rfl, rfl, hx, hce, hcv, hcl, rfl, hL, rfl, rfl⟩, ?_⟩
    show Steps p.tables e below _ (((({ U with heap := s₂.heap, slotsUsed := s₂.slotsUsed } : State).setVm s₂.vm).setTop g).pushFrame (.throwing q))
    rw [← hs₂]
    exact hsteps
end
variable {p : Program} {l : Launch} {e : Env} {R : Room} {s : State} {m : MethodId} {args : Array Value} {below : List Frame} {meth : Method} {c : Code} {T : State} {H : Heap} {locs : List Loc} {cells slots : Nat}
theorem vx_callVX (X : Stand p l e R s m args below meth c T locs cells slots) (hexec : p.tables.exec = Jvm.exec) {own C : String} {index : Nat} {y : MethodName} {bytes : ByteArray} {maxL : Nat} {ret : Option FieldType} {hh : List (Nat × Nat × Nat × Nat)}
    (hown : s.vm.findClass own = some m.cls) (hlink : (Cond.methodLink own index y).before args s = true) (hinst : (Cond.instanceMethod y).before args s = true) (hsel : (Cond.selects C y y).before args s = true)
    (hcode : (Cond.codeWith y bytes maxL ret hh).before args s = true) (hy : y.cls ≠ "java/lang/invoke/MethodHandle" ∧ y.cls ≠ "java/lang/invoke/VarHandle")
    {W9 : Nat} {Pre : Pt → Array Value → Prop} {Post : Pt → Array Value → Option Value → Pt → Prop} {PostX : Pt → Array Value → Addr → Pt → Prop} (hK : vx_Back l R p e below s args y 3 W9 Pre Post PostX)
    {b : Addr} {cellB : Cell} (hcell : T.heap[b]? = some cellB) (hobj : cellB.vm.isStatics = false) (hcls : s.vm.findClass C = some cellB.cls)
    {g : JFrame} (hg : g.method = m) (hsize : g.locals.size = c.maxLocals) {argsL rest : List Value} (hlen : ∀ sig, parseMethodDescriptor y.desc = some sig → argsL.length = sig.parameters.length)
    (hstack : g.stack = argsL.reverse ++ .ref b :: rest) (hW : 2 * g.monitorRoom + (rest.map fun v => v.category).sum ≤ W9) (hdg : decode c.code g.pc = .ok (.invokevirtual index, 3))
    (hpre : ∀ vm₁, s.WarmedH vm₁ → Pre ⟨T.setVm vm₁, locs, cells, slots⟩ (Value.ref b :: argsL).toArray) :
    (∃ (v : Option Value) (vm₁ : Vm) (B : Pt), s.WarmedH vm₁ ∧ Stand p l e R s m args below meth c B.U B.locs B.cells B.slots ∧ Post ⟨T.setVm vm₁, locs, cells, slots⟩ (Value.ref b :: argsL).toArray v B ∧
      ∀ target, Steps p.tables e below (B.U.setTop { g with pc := g.pc + 3, stack := v.toList ++ rest }) target → Steps p.tables e below (T.setTop g) target) ∨
    (∃ (q : Addr) (vm₁ : Vm) (B : Pt), s.WarmedH vm₁ ∧ Stand p l e R s m args below meth c B.U B.locs B.cells B.slots ∧ PostX ⟨T.setVm vm₁, locs, cells, slots⟩ (Value.ref b :: argsL).toArray q B ∧
      Steps p.tables e below (T.setTop g) ((B.U.setTop { g with stack := rest }).pushFrame (.throwing q))) := by
  obtain ⟨mk, methM, hnamed, hmethM, hstM, habM⟩ := Cond.instanceMethod_spec hinst
  obtain ⟨m8, methM', cM, hn8, hmethM', -, -, -, -, -, -, hsigM⟩ := Cond.codeWith_spec hcode
  cases Option.some.inj (hn8.symm.trans hnamed)
  cases hmethM.symm.trans hmethM'
  obtain ⟨c2, r2, m2, q1, q2, q3, q4, kP, hkP, hkPi⟩ := Cond.selects_spec hsel
  cases hcls.symm.trans q1
  cases (State.methodFound?_of_named hnamed hy).symm.trans q2
  cases hnamed.symm.trans q3
  have hselP : selectMethod e.platform s.vm cellB.cls mk = .method mk := by rw [Launch.admits_selectMethod X.admits]; exact q4
  obtain ⟨vm₁, X₁, hstep₁⟩ := X.invokevirtual hexec hown hlink hnamed hmethM hstM hkP hkPi hy (a := b) (cell := cellB) hcell
    (fun z h => by rw [h] at hobj; cases hobj) hselP hmethM habM hkP hkPi (g := g) hg (argsL := argsL) (rest := rest) (hlen _ hsigM) hstack hdg
  rcases hK m meth c ⟨T.setVm vm₁, locs, cells, slots⟩ { g with stack := rest } (.invokevirtual index) mk (Value.ref b :: argsL).toArray X₁ hg hsize hdg hW (X₁.named hnamed) (hpre vm₁ X₁.warmed) with ⟨v, B, X', hpost, hsteps⟩ | ⟨q, B, X', hpost, hsteps⟩
  · exact Or.inl ⟨v, vm₁, B, X₁.warmed, X', hpost, fun target h => hstep₁ _ fun acts => by rw [doInvoke_state]; exact hsteps.trans h⟩
  · exact Or.inr ⟨q, vm₁, B, X₁.warmed, X', hpost, hstep₁ _ fun acts => by rw [doInvoke_state]; exact hsteps⟩
theorem vx_callSX (X : Stand p l e R s m args below meth c T locs cells slots) (hexec : p.tables.exec = Jvm.exec) {own : String} {index : Nat} {y : MethodName} {bytes : ByteArray} {maxL : Nat} {ret : Option FieldType} {hh : List (Nat × Nat × Nat × Nat)}
    (hown : s.vm.findClass own = some m.cls) (hlink : (Cond.methodLink own index y).before args s = true) (hstat : (Cond.static y).before args s = true) (hinit : (Cond.initialized y.cls).before args s = true)
    (hcode : (Cond.codeWith y bytes maxL ret hh).before args s = true) (hy : y.cls ≠ "java/lang/invoke/MethodHandle" ∧ y.cls ≠ "java/lang/invoke/VarHandle")
    {W9 : Nat} {Pre : Pt → Array Value → Prop} {Post : Pt → Array Value → Option Value → Pt → Prop} {PostX : Pt → Array Value → Addr → Pt → Prop} (hK : vx_Back l R p e below s args y 3 W9 Pre Post PostX)
    {g : JFrame} (hg : g.method = m) (hsize : g.locals.size = c.maxLocals) {argsL rest : List Value} (hlen : ∀ sig, parseMethodDescriptor y.desc = some sig → argsL.length = sig.parameters.length)
    (hstack : g.stack = argsL.reverse ++ rest) (hW : 2 * g.monitorRoom + (rest.map fun v => v.category).sum ≤ W9) (hdg : decode c.code g.pc = .ok (.invokestatic index, 3))
    (hpre : ∀ vm₁, s.WarmedH vm₁ → Pre ⟨T.setVm vm₁, locs, cells, slots⟩ argsL.toArray) :
    (∃ (v : Option Value) (vm₁ : Vm) (B : Pt), s.WarmedH vm₁ ∧ Stand p l e R s m args below meth c B.U B.locs B.cells B.slots ∧ Post ⟨T.setVm vm₁, locs, cells, slots⟩ argsL.toArray v B ∧
      ∀ target, Steps p.tables e below (B.U.setTop { g with pc := g.pc + 3, stack := v.toList ++ rest }) target → Steps p.tables e below (T.setTop g) target) ∨
    (∃ (q : Addr) (vm₁ : Vm) (B : Pt), s.WarmedH vm₁ ∧ Stand p l e R s m args below meth c B.U B.locs B.cells B.slots ∧ PostX ⟨T.setVm vm₁, locs, cells, slots⟩ argsL.toArray q B ∧
      Steps p.tables e below (T.setTop g) ((B.U.setTop { g with stack := rest }).pushFrame (.throwing q))) := by
  obtain ⟨mk, methM, cM, hnamed, hmethM, -, -, -, -, -, -, hsigM⟩ := Cond.codeWith_spec hcode
  have hstatic : methM.isStatic = true := Cond.static_spec hnamed hmethM hstat
  obtain ⟨kP, hkP, -⟩ := className_of_methodNamed hnamed
  have hinitP : kP.init = .initialized := Cond.initialized_spec (findClass_of_methodNamed hnamed) hkP hinit
  obtain ⟨vm₁, X₁, hstep₁⟩ := X.invokestatic hexec hown hlink hnamed hmethM hstatic hkP hinitP hy (g := g) hg (argsL := argsL) (rest := rest) (hlen _ hsigM) hstack hdg
  rcases hK m meth c ⟨T.setVm vm₁, locs, cells, slots⟩ { g with stack := rest } (.invokestatic index) mk argsL.toArray X₁ hg hsize hdg hW (X₁.named hnamed) (hpre vm₁ X₁.warmed) with ⟨v, B, X', hpost, hsteps⟩ | ⟨q, B, X', hpost, hsteps⟩
  · exact Or.inl ⟨v, vm₁, B, X₁.warmed, X', hpost, fun target h => hstep₁ _ fun acts => by rw [doInvoke_state]; exact hsteps.trans h⟩
  · exact Or.inr ⟨q, vm₁, B, X₁.warmed, X', hpost, hstep₁ _ fun acts => by rw [doInvoke_state]; exact hsteps⟩
theorem vx_callVW (X : Stand p l e R s m args below meth c T locs cells slots) (hexec : p.tables.exec = Jvm.exec) {own C : String} {index : Nat} {y : MethodName} {bytes : ByteArray} {maxL : Nat} {ret : Option FieldType} {hh : List (Nat × Nat × Nat × Nat)}
    (hown : s.vm.findClass own = some m.cls) (hlink : (Cond.methodLink own index y).before args s = true) (hinst : (Cond.instanceMethod y).before args s = true) (hsel : (Cond.selects C y y).before args s = true)
    (hcode : (Cond.codeWith y bytes maxL ret hh).before args s = true) (hy : y.cls ≠ "java/lang/invoke/MethodHandle" ∧ y.cls ≠ "java/lang/invoke/VarHandle")
    {W9 : Nat} {Pre : Pt → Array Value → Prop} {Post : Pt → Array Value → Option Value → Pt → Prop} (hK : Back l R p e below s args y 3 W9 Pre Post)
    {b : Addr} {cellB : Cell} (hcell : T.heap[b]? = some cellB) (hobj : cellB.vm.isStatics = false) (hcls : s.vm.findClass C = some cellB.cls)
    {g : JFrame} (hg : g.method = m) (hsize : g.locals.size = c.maxLocals) {argsL rest : List Value} (hlen : ∀ sig, parseMethodDescriptor y.desc = some sig → argsL.length = sig.parameters.length)
    (hstack : g.stack = argsL.reverse ++ .ref b :: rest) (hW : 2 * g.monitorRoom + (rest.map fun v => v.category).sum ≤ W9) (hdg : decode c.code g.pc = .ok (.invokevirtual index, 3))
    (hpre : ∀ vm₁, s.WarmedH vm₁ → Pre ⟨T.setVm vm₁, locs, cells, slots⟩ (Value.ref b :: argsL).toArray) :
    ∃ (v : Option Value) (vm₁ : Vm) (B : Pt), s.WarmedH vm₁ ∧ Stand p l e R s m args below meth c B.U B.locs B.cells B.slots ∧ Post ⟨T.setVm vm₁, locs, cells, slots⟩ (Value.ref b :: argsL).toArray v B ∧
      ∀ target, Steps p.tables e below (B.U.setTop { g with pc := g.pc + 3, stack := v.toList ++ rest }) target → Steps p.tables e below (T.setTop g) target := by
  obtain ⟨mk, methM, hnamed, hmethM, hstM, habM⟩ := Cond.instanceMethod_spec hinst
  obtain ⟨m8, methM', cM, hn8, hmethM', -, -, -, -, -, -, hsigM⟩ := Cond.codeWith_spec hcode
  cases Option.some.inj (hn8.symm.trans hnamed)
  cases hmethM.symm.trans hmethM'
  obtain ⟨c2, r2, m2, q1, q2, q3, q4, kP, hkP, hkPi⟩ := Cond.selects_spec hsel
  cases hcls.symm.trans q1
  cases (State.methodFound?_of_named hnamed hy).symm.trans q2
  cases hnamed.symm.trans q3
  have hselP : selectMethod e.platform s.vm cellB.cls mk = .method mk := by rw [Launch.admits_selectMethod X.admits]; exact q4
  obtain ⟨vm₁, X₁, hstep₁⟩ := X.invokevirtual hexec hown hlink hnamed hmethM hstM hkP hkPi hy (a := b) (cell := cellB) hcell
    (fun z h => by rw [h] at hobj; cases hobj) hselP hmethM habM hkP hkPi (g := g) hg (argsL := argsL) (rest := rest) (hlen _ hsigM) hstack hdg
  obtain ⟨v, B, X', hpost, hsteps⟩ := hK m meth c ⟨T.setVm vm₁, locs, cells, slots⟩ { g with stack := rest } (.invokevirtual index) mk (Value.ref b :: argsL).toArray X₁ hg hsize hdg hW (X₁.named hnamed) (hpre vm₁ X₁.warmed)
  exact ⟨v, vm₁, B, X₁.warmed, X', hpost, fun target h => hstep₁ _ fun acts => by rw [doInvoke_state]; exact hsteps.trans h⟩
abbrev vx_CVW (R : Room) (s : State) (args : Array Value) (own C : String) (index : Nat) (y : MethodName) (bytes : ByteArray) (maxL : Nat) (ret : Option FieldType) (hh : List (Nat × Nat × Nat × Nat)) (ws : List Cond) (rm : Room) (mc ms n : Nat) : Prop :=
  (rm.cells = mc ∧ rm.slots = ms ∧ rm.frames + 1 ≤ R.frames ∧ 8 + (maxL + 11) + rm.locals ≤ R.locals ∧ (∀ w ∈ ws, ∀ (a' : Array Value) (U : State), s.WarmedH U.vm → w.before a' U = true) ∧ Cond.codeWith y bytes maxL ret hh ∈ ws) ∧
  (Cond.codeWith y bytes maxL ret hh).before args s = true ∧ (Cond.initialized y.cls).before args s = true ∧ (y.cls ≠ "java/lang/invoke/MethodHandle" ∧ y.cls ≠ "java/lang/invoke/VarHandle") ∧
  (∀ sig, parseMethodDescriptor y.desc = some sig → n = sig.parameters.length) ∧ (Cond.methodLink own index y).before args s = true ∧ (Cond.instanceMethod y).before args s = true ∧ (Cond.selects C y y).before args s = true
theorem vx_cwVW {own C : String} {index maxL mc ms : Nat} {y : MethodName} {bytes : ByteArray} {ret : Option FieldType} {hh : List (Nat × Nat × Nat × Nat)} {Ts ws ws' : List Cond} {rm : Room} (n : Nat) (ht : ∀ w ∈ Ts, w.before args s = true) (hT : GoodIn Ts (wsV own index C y ws)) (hw : ws = Cond.codeWith y bytes maxL ret hh :: ws') (hrc : rm.cells = mc) (hrs : rm.slots = ms)
    (hd : y.cls = C ∧ y.cls ≠ "java/lang/invoke/MethodHandle" ∧ y.cls ≠ "java/lang/invoke/VarHandle" ∧ (parseMethodDescriptor y.desc).map (fun d => d.parameters.length) = some n) (hR : rm.frames + 1 ≤ R.frames ∧ 8 + (maxL + 11) + rm.locals ≤ R.locals) :
    vx_CVW R s args own C index y bytes maxL ret hh ws rm mc ms n := by
  obtain ⟨hC, hd⟩ := hd
  subst hC
  have ok : ∀ w ∈ wsV own index y.cls y ws, w.before args s = true := fun w h => ht w (hT w h).1
  have hG : GoodIn Ts ws := fun w h => hT w (by unfold wsV; exact List.mem_append_right _ h)
  have hc : Cond.codeWith y bytes maxL ret hh ∈ ws := by rw [hw]; exact List.mem_cons_self
  refine ⟨⟨hrc, hrs, hR.1, hR.2, pay_in ht hG, hc⟩, ht _ (hG _ hc).1, ok _ (by simp [wsV]), ⟨hd.1, hd.2.1⟩, fun sig h => ?_, ok _ (by simp [wsV]), ok _ (by simp [wsV]), ok _ (by simp [wsV])⟩
  have h2 := hd.2.2
  rw [h] at h2
  exact (Option.some.inj h2).symm
theorem vx_runVW {y : MethodName} {bytes cc : ByteArray} {maxL nL mc ms n index : Nat} {ret : Option FieldType} {hh : List (Nat × Nat × Nat × Nat)} {ws : List Cond} {rm : Room} {Pc : Array Value → State → Prop} {Qc : Array Value → State → Outcome → State → Prop} {free : Addr → Prop} {Ts : List Cond} {own C : String} {b : Addr} {As rest : List Value} {g : JFrame}
    (S : CallFix p m c cc nL s args Ts own) (hM : Met l y ws rm Pc Qc mc ms free) (cw : vx_CVW R s args own C index y bytes maxL ret hh ws rm mc ms n) (hp : PreV s H C b Pc As)
    (hg : g.method = m) (hn : As.length = n) (hsize : g.locals.size = nL) (hstack : g.stack = As.reverse ++ .ref b :: rest) (hW : 2 * g.monitorRoom + (rest.map fun v => v.category).sum ≤ 8) (hdg : decode cc g.pc = .ok (.invokevirtual index, 3)) (hf : cells + mc ≤ R.cells ∧ slots + ms ≤ R.slots) :
    va_Run p l e R s m args below meth c H locs cells slots mc ms g rest (Qc (Value.ref b :: As).toArray) free := by
  obtain ⟨⟨hrc, hrs, hfr, hlo, hws, hcw⟩, hcode, hini, hy, hlen, hl, hin, hse⟩ := cw
  have hK : Back l R p e below s args y 3 8 (PreOf R mc ms Pc) (PostOf Qc mc ms free) := va_backW (hh := hh) (bytes := bytes) (maxL := maxL) (ret := ret) hM hp.1 hrc hrs hfr hlo hws hcw (fun a' U hW => word_at hW (Or.inl (by first | rfl | simp [Cond.onTables, Cond.keeps, Cond.steady])) hini)
  obtain ⟨hx, hb, hml, ho, -⟩ := S
  obtain ⟨-, ⟨cellB, hcB, hoB, hclB⟩, hPc⟩ := hp
  intro T hT X
  obtain ⟨v, vm₁, ⟨U', l2, c2, s2⟩, hW₁, X', ⟨g', mk, t, L, e1, e2, hq, h1, hL, h2, h3⟩, st⟩ := vx_callVW X hx (C := C) (hh := hh) (bytes := bytes) (maxL := maxL) (ret := ret) ho hl hin hse hcode hy hK (by rw [hT]; exact hcB) hoB hclB hg (hsize.trans hml.symm) (argsL := As) (rest := rest) (fun sig h => hn.trans (hlen sig h)) hstack hW (by rw [hb]; exact hdg)
    (fun vm₁ hW₁ => ⟨hf.1, hf.2, hPc (T.setVm vm₁) hT hW₁⟩)
  dsimp only [Pt.U, Pt.locs, Pt.cells, Pt.slots] at X' e1 e2 h1 h2 h3 st
  subst h1; subst h2; subst h3
  exact ⟨v, (T.setVm vm₁).calling g' mk (Value.ref b :: As).toArray, t, U', L, hT, X', hL, e1, e2, hq, st⟩
section
variable {y : MethodName} {bytes cc : ByteArray} {maxL nL mc ms n index : Nat} {ret : Option FieldType} {ws : List Cond} {rm : Room} {Pc : Array Value → State → Prop} {Qc : Array Value → State → Outcome → State → Prop} {XC : String → State → State → Prop} {free : Addr → Prop} {Ts : List Cond} {own C : String} {b : Addr} {As rest : List Value} {g : JFrame}
theorem vx_runVX {hh : List (Nat × Nat × Nat × Nat)} (S : CallFix p m c cc nL s args Ts own) (hM : vx_Met l y ws rm Pc Qc XC mc ms free) (cw : vx_CVW R s args own C index y bytes maxL ret hh ws rm mc ms n) (hp : PreV s H C b Pc As)
    (hg : g.method = m) (hn : As.length = n) (hsize : g.locals.size = nL) (hstack : g.stack = As.reverse ++ .ref b :: rest) (hW : 2 * g.monitorRoom + (rest.map fun v => v.category).sum ≤ 8) (hdg : decode cc g.pc = .ok (.invokevirtual index, 3)) (hf : cells + mc ≤ R.cells ∧ slots + ms ≤ R.slots) :
    vx_Run p l e R s m args below meth c H locs cells slots mc ms g rest (Qc (Value.ref b :: As).toArray) XC free := by
  obtain ⟨⟨hrc, hrs, hfr, hlo, hws, hcw⟩, hcode, hini, hy, hlen, hl, hin, hse⟩ := cw
  have hK : vx_Back l R p e below s args y 3 8 (PreOf R mc ms Pc) (PostOf Qc mc ms free) (vx_Post XC mc ms free) := vx_backW (hh := hh) (bytes := bytes) (maxL := maxL) (ret := ret) hM hp.1 hrc hrs hfr hlo hws hcw (fun a' U hW => word_at hW (Or.inl (by first | rfl | simp [Cond.onTables, Cond.keeps, Cond.steady])) hini)
  obtain ⟨hx, hb, hml, ho, -⟩ := S
  obtain ⟨-, ⟨cellB, hcB, hoB, hclB⟩, hPc⟩ := hp
  intro T hT X
  rcases vx_callVX X hx (C := C) (hh := hh) (bytes := bytes) (maxL := maxL) (ret := ret) ho hl hin hse hcode hy hK (by rw [hT]; exact hcB) hoB hclB hg (hsize.trans hml.symm) (argsL := As) (rest := rest) (fun sig h => hn.trans (hlen sig h)) hstack hW (by rw [hb]; exact hdg)
    (fun vm₁ hW₁ => ⟨hf.1, hf.2, hPc (T.setVm vm₁) hT hW₁⟩) with ⟨v, vm₁, ⟨U', l2, c2, s2⟩, hW₁, X', ⟨g', mk, t, L, e1, e2, hq, h1, hL, h2, h3⟩, st⟩ | ⟨q, vm₁, ⟨U', l2, c2, s2⟩, hW₁, X', ⟨g', mk, t, L, E, ce, e1, e2, hq, hce, hcv, hcl, h1, hL, h2, h3⟩, st⟩
  · dsimp only [Pt.U, Pt.locs, Pt.cells, Pt.slots] at X' e1 e2 h1 h2 h3 st
    subst h1; subst h2; subst h3
    exact Or.inl ⟨v, (T.setVm vm₁).calling g' mk (Value.ref b :: As).toArray, t, U', L, hT, X', hL, e1, e2, hq, st⟩
  · dsimp only [Pt.U, Pt.locs, Pt.cells, Pt.slots] at X' e1 e2 h1 h2 h3 st hcl
    subst h1; subst h2; subst h3
    exact Or.inr ⟨q, (T.setVm vm₁).calling g' mk (Value.ref b :: As).toArray, t, U', L, E, ce, hT, X', hL, e1, e2, hq, hce, hcv, vx_cls hW₁ hcl, st⟩
theorem vx_runSX {hh : List (Nat × Nat × Nat × Nat)} (S : CallFix p m c cc nL s args Ts own) (hM : vx_Met l y ws rm Pc Qc XC mc ms free) (cw : vx_CSW R s args own index y bytes maxL ret hh ws rm mc ms n) (hp : PreS s H Pc As)
    (hg : g.method = m) (hn : As.length = n) (hsize : g.locals.size = nL) (hstack : g.stack = As.reverse ++ rest) (hW : 2 * g.monitorRoom + (rest.map fun v => v.category).sum ≤ 8) (hdg : decode cc g.pc = .ok (.invokestatic index, 3)) (hf : cells + mc ≤ R.cells ∧ slots + ms ≤ R.slots) :
    vx_Run p l e R s m args below meth c H locs cells slots mc ms g rest (Qc As.toArray) XC free := by
  obtain ⟨⟨hrc, hrs, hfr, hlo, hws, hcw⟩, hcode, hini, hy, hlen, hl, hstt⟩ := cw
  have hK : vx_Back l R p e below s args y 3 8 (PreOf R mc ms Pc) (PostOf Qc mc ms free) (vx_Post XC mc ms free) := vx_backW (hh := hh) (bytes := bytes) (maxL := maxL) (ret := ret) hM hp.1 hrc hrs hfr hlo hws hcw (fun a' U hW => word_at hW (Or.inl (by first | rfl | simp [Cond.onTables, Cond.keeps, Cond.steady])) hini)
  obtain ⟨hx, hb, hml, ho, -⟩ := S
  intro T hT X
  rcases vx_callSX X hx (hh := hh) (bytes := bytes) (maxL := maxL) (ret := ret) ho hl hstt hini hcode hy hK hg (hsize.trans hml.symm) (argsL := As) (rest := rest) (fun sig h => hn.trans (hlen sig h)) hstack hW (by rw [hb]; exact hdg)
    (fun vm₁ hW₁ => ⟨hf.1, hf.2, hp.2 (T.setVm vm₁) hT hW₁⟩) with ⟨v, vm₁, ⟨U', l2, c2, s2⟩, hW₁, X', ⟨g', mk, t, L, e1, e2, hq, h1, hL, h2, h3⟩, st⟩ | ⟨q, vm₁, ⟨U', l2, c2, s2⟩, hW₁, X', ⟨g', mk, t, L, E, ce, e1, e2, hq, hce, hcv, hcl, h1, hL, h2, h3⟩, st⟩
  · dsimp only [Pt.U, Pt.locs, Pt.cells, Pt.slots] at X' e1 e2 h1 h2 h3 st
    subst h1; subst h2; subst h3
    exact Or.inl ⟨v, (T.setVm vm₁).calling g' mk As.toArray, t, U', L, hT, X', hL, e1, e2, hq, st⟩
  · dsimp only [Pt.U, Pt.locs, Pt.cells, Pt.slots] at X' e1 e2 h1 h2 h3 st hcl
    subst h1; subst h2; subst h3
    exact Or.inr ⟨q, (T.setVm vm₁).calling g' mk As.toArray, t, U', L, E, ce, hT, X', hL, e1, e2, hq, hce, hcv, vx_cls hW₁ hcl, st⟩
end
end VXH
theorem vx_ofWH {l : Launch} {y : MethodName} {ws ws' : List Cond} {rm : Room} {Pc : Array Value → State → Prop} {Qc : Array Value → State → Outcome → State → Prop} {XC : String → State → State → Prop} {mc ms : Nat} {free : Addr → Prop} {cc : ByteArray} {maxL : Nat} {ret : Option FieldType} {hh : List (Nat × Nat × Nat × Nat)}
    (hy : plainName y.cls = true) (hw : ws = Cond.codeWith y cc maxL ret hh :: ws')
    (body : ∀ p e s m args below meth c s₁, BodyLoose p l y (headSpec ws rm) cc maxL ret e s m args below meth c s₁ → c.maxLocals = maxL → Pc args s →
      W p l e (headSpec ws rm).room s m args below meth c s.heap [] 0 0 (vx_MQ below Qc XC args s mc ms free) (entryFrame m args maxL)) : vx_Met l y ws rm Pc Qc XC mc ms free := by
  refine MetFree.of_bodyS (code := cc) (maxLocals := maxL) (ret := ret) hy ?_ ?_
  · intro args s m h hn
    obtain ⟨m9, meth, c, hn9, h1, h2, h3, h4, -, h5, h6, -⟩ := Cond.codeWith_spec (atoms_spec (ws := ws) h _ (by rw [hw]; exact List.mem_cons_self))
    cases hn.symm.trans hn9
    exact ⟨meth, c, h1, h2, h3, h4, h5, h6⟩
  · intro p e s m args below meth c s₁ B hml hP _
    have hh0 : s₁.heap = s.heap := by rw [B.state]; rfl
    obtain ⟨t, a1, o, b1, b2, b3⟩ := body p e s m args below meth c s₁ B hml hP s₁ hh0 (Stand.of_body B)
    exact ⟨t, o, a1, b1, b2, b3⟩
/-! ===== END ===== -/
end
section
def RX0 : String := "CertHerd$CertificateTable"
def TX0 : u_T := fun k => match k with
  | 0 => ("CertHerd$CertificateTable", "issuerNumbers", "[I", true)
  | 1 => ("CertHerd$CertificateTable", "subjects", "[I", true)
  | 2 => ("CertHerd$CertificateTable", "firstDays", "[I", true)
  | 3 => ("CertHerd$CertificateTable", "lengths", "[I", true)
  | 4 => ("CertHerd$CertificateTable", "offsets", "[I", true)
  | 5 => ("CertHerd$CertificateTable", "renewals", "[I", true)
  | 6 => ("CertHerd$CertificateTable", "queue", "[I", true)
  | _ => ("CertHerd$CertificateTable", "count", "I", false)
def tyX0 : Nat → FieldType := fun k => match k with
  | 0 => .array .int
  | 1 => .array .int
  | 2 => .array .int
  | 3 => .array .int
  | 4 => .array .int
  | 5 => .array .int
  | 6 => .array .int
  | _ => .int
abbrev wsX00 : List Cond := u_ws RX0 TX0 8
theorem nmX0 : ∀ a, a < 8 → ∀ b, b < 8 → a ≠ b → (TX0 a).2.1 ≠ (TX0 b).2.1 := by decide +kernel
theorem tyX0_ok : ∀ k, k < 8 → parseFieldDescriptor (TX0 k).2.2.1 = some (tyX0 k) := by decide +kernel
abbrev cX0_init : ByteArray := prog_2_method_1_code
def yX0_init : MethodName := ⟨RX0, "<init>", "()V"⟩
abbrev cX0_isFull : ByteArray := prog_2_method_2_code
def yX0_isFull : MethodName := ⟨RX0, "isFull", "()Z"⟩
abbrev cX0_append : ByteArray := prog_2_method_3_code
def yX0_append : MethodName := ⟨RX0, "append", "(IIIII)I"⟩
abbrev cX0_endOf : ByteArray := prog_2_method_4_code
def yX0_endOf : MethodName := ⟨RX0, "endOf", "(I)I"⟩
abbrev cX0_dueDayOf : ByteArray := prog_2_method_5_code
def yX0_dueDayOf : MethodName := ⟨RX0, "dueDayOf", "(I)I"⟩
abbrev cX0_isWaiting : ByteArray := prog_2_method_6_code
def yX0_isWaiting : MethodName := ⟨RX0, "isWaiting", "(II)Z"⟩
abbrev cX0_issuedInWeek : ByteArray := prog_2_method_7_code
def yX0_issuedInWeek : MethodName := ⟨RX0, "issuedInWeek", "(II)I"⟩
abbrev cX0_fillQueue : ByteArray := prog_2_method_8_code
def yX0_fillQueue : MethodName := ⟨RX0, "fillQueue", "(I)I"⟩
abbrev cX0_insert : ByteArray := prog_2_method_9_code
def yX0_insert : MethodName := ⟨RX0, "insert", "(II)V"⟩
abbrev cX0_namesHeld : ByteArray := prog_2_method_10_code
def yX0_namesHeld : MethodName := ⟨RX0, "namesHeld", "(II)I"⟩
def RX1 : String := "CertHerd$IssuerTable"
def TX1 : u_T := fun k => match k with
  | 0 => ("CertHerd$IssuerTable", "firstSigners", "[I", true)
  | 1 => ("CertHerd$IssuerTable", "secondSigners", "[I", true)
  | 2 => ("CertHerd$IssuerTable", "firstDays", "[I", true)
  | 3 => ("CertHerd$IssuerTable", "endDays", "[I", true)
  | 4 => ("CertHerd$IssuerTable", "limits", "[I", true)
  | 5 => ("CertHerd$IssuerTable", "distrustDays", "[I", true)
  | 6 => ("CertHerd$IssuerTable", "chainEnds", "[I", true)
  | 7 => ("CertHerd$IssuerTable", "chainCounts", "[I", true)
  | _ => ("CertHerd$IssuerTable", "count", "I", false)
def tyX1 : Nat → FieldType := fun k => match k with
  | 0 => .array .int
  | 1 => .array .int
  | 2 => .array .int
  | 3 => .array .int
  | 4 => .array .int
  | 5 => .array .int
  | 6 => .array .int
  | 7 => .array .int
  | _ => .int
abbrev wsX10 : List Cond := u_ws RX1 TX1 9
theorem nmX1 : ∀ a, a < 9 → ∀ b, b < 9 → a ≠ b → (TX1 a).2.1 ≠ (TX1 b).2.1 := by decide +kernel
theorem tyX1_ok : ∀ k, k < 9 → parseFieldDescriptor (TX1 k).2.2.1 = some (tyX1 k) := by decide +kernel
abbrev cX1_init : ByteArray := prog_3_method_1_code
def yX1_init : MethodName := ⟨RX1, "<init>", "()V"⟩
abbrev cX1_isFull : ByteArray := prog_3_method_2_code
def yX1_isFull : MethodName := ⟨RX1, "isFull", "()Z"⟩
abbrev cX1_append : ByteArray := prog_3_method_3_code
def yX1_append : MethodName := ⟨RX1, "append", "(IIII)I"⟩
abbrev cX1_isRoot : ByteArray := prog_3_method_4_code
def yX1_isRoot : MethodName := ⟨RX1, "isRoot", "(I)Z"⟩
abbrev cX1_canBeSignedAlsoBy : ByteArray := prog_3_method_5_code
def yX1_canBeSignedAlsoBy : MethodName := ⟨RX1, "canBeSignedAlsoBy", "(II)Z"⟩
abbrev cX1_signAlsoBy : ByteArray := prog_3_method_6_code
def yX1_signAlsoBy : MethodName := ⟨RX1, "signAlsoBy", "(II)V"⟩
abbrev cX1_updateChains : ByteArray := prog_3_method_7_code
def yX1_updateChains : MethodName := ⟨RX1, "updateChains", "(I)V"⟩
abbrev cX1_goodOn : ByteArray := prog_3_method_8_code
def yX1_goodOn : MethodName := ⟨RX1, "goodOn", "(II)I"⟩
abbrev cX1_standsOn : ByteArray := prog_3_method_9_code
def yX1_standsOn : MethodName := ⟨RX1, "standsOn", "(II)Z"⟩
abbrev cX1_isHeldBy : ByteArray := prog_3_method_10_code
def yX1_isHeldBy : MethodName := ⟨RX1, "isHeldBy", "(II)Z"⟩
def RX2 : String := "CertHerd"
def TX2 : u_T := fun k => match k with
  | 0 => ("CertHerd", "issuerTable", "LCertHerd$IssuerTable;", true)
  | 1 => ("CertHerd", "certificateTable", "LCertHerd$CertificateTable;", true)
  | 2 => ("CertHerd", "pinsOfName", "[I", true)
  | 3 => ("CertHerd", "seedNow", "I", false)
  | _ => ("CertHerd", "dayNow", "I", false)
def tyX2 : Nat → FieldType := fun k => match k with
  | 0 => .object "CertHerd$IssuerTable"
  | 1 => .object "CertHerd$CertificateTable"
  | 2 => .array .int
  | 3 => .int
  | _ => .int
abbrev wsX20 : List Cond := u_ws RX2 TX2 5
theorem nmX2 : ∀ a, a < 5 → ∀ b, b < 5 → a ≠ b → (TX2 a).2.1 ≠ (TX2 b).2.1 := by decide +kernel
theorem tyX2_ok : ∀ k, k < 5 → parseFieldDescriptor (TX2 k).2.2.1 = some (tyX2 k) := by decide +kernel
abbrev cX2_init : ByteArray := prog_1_method_1_code
def yX2_init : MethodName := ⟨RX2, "<init>", "()V"⟩
abbrev cX2_addIssuer : ByteArray := prog_1_method_2_code
def yX2_addIssuer : MethodName := ⟨RX2, "addIssuer", "(IIII)I"⟩
abbrev cX2_cross : ByteArray := prog_1_method_3_code
def yX2_cross : MethodName := ⟨RX2, "cross", "(II)I"⟩
abbrev cX2_distrust : ByteArray := prog_1_method_4_code
def yX2_distrust : MethodName := ⟨RX2, "distrust", "(II)I"⟩
abbrev cX2_pin : ByteArray := prog_1_method_5_code
def yX2_pin : MethodName := ⟨RX2, "pin", "(II)I"⟩
abbrev cX2_setSeed : ByteArray := prog_1_method_6_code
def yX2_setSeed : MethodName := ⟨RX2, "setSeed", "(I)V"⟩
abbrev cX2_issue : ByteArray := prog_1_method_7_code
def yX2_issue : MethodName := ⟨RX2, "issue", "(III)I"⟩
abbrev cX2_pass : ByteArray := prog_1_method_8_code
def yX2_pass : MethodName := ⟨RX2, "pass", "(I)I"⟩
abbrev cX2_today : ByteArray := prog_1_method_9_code
def yX2_today : MethodName := ⟨RX2, "today", "()I"⟩
abbrev cX2_issuers : ByteArray := prog_1_method_10_code
def yX2_issuers : MethodName := ⟨RX2, "issuers", "()I"⟩
abbrev cX2_certificates : ByteArray := prog_1_method_11_code
def yX2_certificates : MethodName := ⟨RX2, "certificates", "()I"⟩
abbrev cX2_issuerOf : ByteArray := prog_1_method_12_code
def yX2_issuerOf : MethodName := ⟨RX2, "issuerOf", "(I)I"⟩
abbrev cX2_lastDay : ByteArray := prog_1_method_13_code
def yX2_lastDay : MethodName := ⟨RX2, "lastDay", "(I)I"⟩
abbrev cX2_dueOn : ByteArray := prog_1_method_14_code
def yX2_dueOn : MethodName := ⟨RX2, "dueOn", "(I)I"⟩
abbrev cX2_renewal : ByteArray := prog_1_method_15_code
def yX2_renewal : MethodName := ⟨RX2, "renewal", "(I)I"⟩
abbrev cX2_waiting : ByteArray := prog_1_method_16_code
def yX2_waiting : MethodName := ⟨RX2, "waiting", "()I"⟩
abbrev cX2_waitingAt : ByteArray := prog_1_method_17_code
def yX2_waitingAt : MethodName := ⟨RX2, "waitingAt", "(I)I"⟩
abbrev cX2_room : ByteArray := prog_1_method_18_code
def yX2_room : MethodName := ⟨RX2, "room", "(I)I"⟩
abbrev cX2_isGood : ByteArray := prog_1_method_19_code
def yX2_isGood : MethodName := ⟨RX2, "isGood", "(II)Z"⟩
abbrev cX2_chainEnd : ByteArray := prog_1_method_20_code
def yX2_chainEnd : MethodName := ⟨RX2, "chainEnd", "(I)I"⟩
abbrev cX2_chains : ByteArray := prog_1_method_21_code
def yX2_chains : MethodName := ⟨RX2, "chains", "(I)I"⟩
abbrev cX2_isCovered : ByteArray := prog_1_method_22_code
def yX2_isCovered : MethodName := ⟨RX2, "isCovered", "(II)Z"⟩
abbrev cX2_nextGap : ByteArray := prog_1_method_23_code
def yX2_nextGap : MethodName := ⟨RX2, "nextGap", "(II)I"⟩
abbrev cX2_covered : ByteArray := prog_1_method_24_code
def yX2_covered : MethodName := ⟨RX2, "covered", "(I)I"⟩
abbrev cX2_breaks : ByteArray := prog_1_method_25_code
def yX2_breaks : MethodName := ⟨RX2, "breaks", "(II)I"⟩
abbrev cX2_weakest : ByteArray := prog_1_method_26_code
def yX2_weakest : MethodName := ⟨RX2, "weakest", "(I)I"⟩
abbrev cX2_checkIssuer : ByteArray := prog_1_method_27_code
def yX2_checkIssuer : MethodName := ⟨RX2, "checkIssuer", "(I)V"⟩
abbrev cX2_checkCertificate : ByteArray := prog_1_method_28_code
def yX2_checkCertificate : MethodName := ⟨RX2, "checkCertificate", "(I)V"⟩
abbrev cX2_checkName : ByteArray := prog_1_method_29_code
def yX2_checkName : MethodName := ⟨RX2, "checkName", "(I)V"⟩
abbrev cX2_checkDay : ByteArray := prog_1_method_30_code
def yX2_checkDay : MethodName := ⟨RX2, "checkDay", "(I)V"⟩
abbrev cX2_canIssue : ByteArray := prog_1_method_31_code
def yX2_canIssue : MethodName := ⟨RX2, "canIssue", "(II)Z"⟩
abbrev cX2_mayIssueFor : ByteArray := prog_1_method_32_code
def yX2_mayIssueFor : MethodName := ⟨RX2, "mayIssueFor", "(II)Z"⟩
abbrev cX2_roomThisWeek : ByteArray := prog_1_method_33_code
def yX2_roomThisWeek : MethodName := ⟨RX2, "roomThisWeek", "(I)I"⟩
abbrev cX2_makeCertificate : ByteArray := prog_1_method_34_code
def yX2_makeCertificate : MethodName := ⟨RX2, "makeCertificate", "(III)I"⟩
abbrev cX2_drawOffset : ByteArray := prog_1_method_35_code
def yX2_drawOffset : MethodName := ⟨RX2, "drawOffset", "(I)I"⟩
abbrev cX2_renewDueCertificates : ByteArray := prog_1_method_36_code
def yX2_renewDueCertificates : MethodName := ⟨RX2, "renewDueCertificates", "()I"⟩
abbrev cX2_namesCovered : ByteArray := prog_1_method_37_code
def yX2_namesCovered : MethodName := ⟨RX2, "namesCovered", "(II)I"⟩
abbrev cX2_namesLostWithout : ByteArray := prog_1_method_38_code
def yX2_namesLostWithout : MethodName := ⟨RX2, "namesLostWithout", "(II)I"⟩
abbrev cX2_namesOf : ByteArray := prog_1_method_39_code
def yX2_namesOf : MethodName := ⟨RX2, "namesOf", "(I)I"⟩
abbrev cX2_contains : ByteArray := prog_1_method_40_code
def yX2_contains : MethodName := ⟨RX2, "contains", "(II)Z"⟩
abbrev cX2_weekOf : ByteArray := prog_1_method_41_code
def yX2_weekOf : MethodName := ⟨RX2, "weekOf", "(I)I"⟩
def RX3 : String := "CertHerdModel"
def TX3 : u_T := fun k => match k with
  | 0 => ("CertHerdModel", "thrown", "I", false)
  | 1 => ("CertHerdModel", "today", "I", false)
  | 2 => ("CertHerdModel", "seed", "I", false)
  | 3 => ("CertHerdModel", "issuerMany", "I", false)
  | 4 => ("CertHerdModel", "froms", "[I", true)
  | 5 => ("CertHerdModel", "tos", "[I", true)
  | 6 => ("CertHerdModel", "limits", "[I", true)
  | 7 => ("CertHerdModel", "firstSigners", "[I", true)
  | 8 => ("CertHerdModel", "secondSigners", "[I", true)
  | 9 => ("CertHerdModel", "distrusted", "[I", true)
  | 10 => ("CertHerdModel", "pins", "[I", true)
  | 11 => ("CertHerdModel", "areGood", "[Z", true)
  | 12 => ("CertHerdModel", "endDays", "[I", true)
  | 13 => ("CertHerdModel", "chainMany", "[I", true)
  | 14 => ("CertHerdModel", "certMany", "I", false)
  | 15 => ("CertHerdModel", "subjects", "[I", true)
  | 16 => ("CertHerdModel", "issuers", "[I", true)
  | 17 => ("CertHerdModel", "firsts", "[I", true)
  | 18 => ("CertHerdModel", "lengths", "[I", true)
  | 19 => ("CertHerdModel", "offsets", "[I", true)
  | 20 => ("CertHerdModel", "renewals", "[I", true)
  | _ => ("CertHerdModel", "wasSeen", "[Z", true)
def tyX3 : Nat → FieldType := fun k => match k with
  | 0 => .int
  | 1 => .int
  | 2 => .int
  | 3 => .int
  | 4 => .array .int
  | 5 => .array .int
  | 6 => .array .int
  | 7 => .array .int
  | 8 => .array .int
  | 9 => .array .int
  | 10 => .array .int
  | 11 => .array .boolean
  | 12 => .array .int
  | 13 => .array .int
  | 14 => .int
  | 15 => .array .int
  | 16 => .array .int
  | 17 => .array .int
  | 18 => .array .int
  | 19 => .array .int
  | 20 => .array .int
  | _ => .array .boolean
abbrev wsX30 : List Cond := u_ws RX3 TX3 22
theorem nmX3 : ∀ a, a < 22 → ∀ b, b < 22 → a ≠ b → (TX3 a).2.1 ≠ (TX3 b).2.1 := by decide +kernel
theorem tyX3_ok : ∀ k, k < 22 → parseFieldDescriptor (TX3 k).2.2.1 = some (tyX3 k) := by decide +kernel
abbrev cX3_init : ByteArray := prog_5_method_1_code
def yX3_init : MethodName := ⟨RX3, "<init>", "()V"⟩
abbrev cX3_thrown : ByteArray := prog_5_method_2_code
def yX3_thrown : MethodName := ⟨RX3, "thrown", "()I"⟩
abbrev cX3_fails : ByteArray := prog_5_method_3_code
def yX3_fails : MethodName := ⟨RX3, "fails", "(I)I"⟩
abbrev cX3_in : ByteArray := prog_5_method_4_code
def yX3_in : MethodName := ⟨RX3, "in", "(III)Z"⟩
abbrev cX3_isIssuer : ByteArray := prog_5_method_5_code
def yX3_isIssuer : MethodName := ⟨RX3, "isIssuer", "(I)Z"⟩
abbrev cX3_isCert : ByteArray := prog_5_method_6_code
def yX3_isCert : MethodName := ⟨RX3, "isCert", "(I)Z"⟩
abbrev cX3_isName : ByteArray := prog_5_method_7_code
def yX3_isName : MethodName := ⟨RX3, "isName", "(I)Z"⟩
abbrev cX3_isDay : ByteArray := prog_5_method_8_code
def yX3_isDay : MethodName := ⟨RX3, "isDay", "(I)Z"⟩
abbrev cX3_addIssuer : ByteArray := prog_5_method_9_code
def yX3_addIssuer : MethodName := ⟨RX3, "addIssuer", "(IIII)I"⟩
abbrev cX3_cross : ByteArray := prog_5_method_10_code
def yX3_cross : MethodName := ⟨RX3, "cross", "(II)I"⟩
abbrev cX3_distrust : ByteArray := prog_5_method_11_code
def yX3_distrust : MethodName := ⟨RX3, "distrust", "(II)I"⟩
abbrev cX3_pin : ByteArray := prog_5_method_12_code
def yX3_pin : MethodName := ⟨RX3, "pin", "(II)I"⟩
abbrev cX3_setSeed : ByteArray := prog_5_method_13_code
def yX3_setSeed : MethodName := ⟨RX3, "setSeed", "(I)V"⟩
abbrev cX3_holds : ByteArray := prog_5_method_14_code
def yX3_holds : MethodName := ⟨RX3, "holds", "(III)Z"⟩
abbrev cX3_ends : ByteArray := prog_5_method_15_code
def yX3_ends : MethodName := ⟨RX3, "ends", "(I)I"⟩
abbrev cX3_ways : ByteArray := prog_5_method_16_code
def yX3_ways : MethodName := ⟨RX3, "ways", "(I)I"⟩
abbrev cX3_covers : ByteArray := prog_5_method_17_code
def yX3_covers : MethodName := ⟨RX3, "covers", "(II)Z"⟩
abbrev cX3_issued : ByteArray := prog_5_method_18_code
def yX3_issued : MethodName := ⟨RX3, "issued", "(I)I"⟩
abbrev cX3_canIssue : ByteArray := prog_5_method_19_code
def yX3_canIssue : MethodName := ⟨RX3, "canIssue", "(II)Z"⟩
abbrev cX3_makes : ByteArray := prog_5_method_20_code
def yX3_makes : MethodName := ⟨RX3, "makes", "(III)I"⟩
abbrev cX3_issue : ByteArray := prog_5_method_21_code
def yX3_issue : MethodName := ⟨RX3, "issue", "(III)I"⟩
abbrev cX3_last : ByteArray := prog_5_method_22_code
def yX3_last : MethodName := ⟨RX3, "last", "(I)I"⟩
abbrev cX3_due : ByteArray := prog_5_method_23_code
def yX3_due : MethodName := ⟨RX3, "due", "(I)I"⟩
abbrev cX3_waits : ByteArray := prog_5_method_24_code
def yX3_waits : MethodName := ⟨RX3, "waits", "(I)Z"⟩
abbrev cX3_nextWaiting : ByteArray := prog_5_method_25_code
def yX3_nextWaiting : MethodName := ⟨RX3, "nextWaiting", "(I)I"⟩
abbrev cX3_sees : ByteArray := prog_5_method_26_code
def yX3_sees : MethodName := ⟨RX3, "sees", "(Z)V"⟩
abbrev cX3_day : ByteArray := prog_5_method_27_code
def yX3_day : MethodName := ⟨RX3, "day", "()I"⟩
abbrev cX3_pass : ByteArray := prog_5_method_28_code
def yX3_pass : MethodName := ⟨RX3, "pass", "(I)I"⟩
abbrev cX3_today : ByteArray := prog_5_method_29_code
def yX3_today : MethodName := ⟨RX3, "today", "()I"⟩
abbrev cX3_issuers : ByteArray := prog_5_method_30_code
def yX3_issuers : MethodName := ⟨RX3, "issuers", "()I"⟩
abbrev cX3_certificates : ByteArray := prog_5_method_31_code
def yX3_certificates : MethodName := ⟨RX3, "certificates", "()I"⟩
abbrev cX3_issuerOf : ByteArray := prog_5_method_32_code
def yX3_issuerOf : MethodName := ⟨RX3, "issuerOf", "(I)I"⟩
abbrev cX3_lastDay : ByteArray := prog_5_method_33_code
def yX3_lastDay : MethodName := ⟨RX3, "lastDay", "(I)I"⟩
abbrev cX3_dueOn : ByteArray := prog_5_method_34_code
def yX3_dueOn : MethodName := ⟨RX3, "dueOn", "(I)I"⟩
abbrev cX3_renewal : ByteArray := prog_5_method_35_code
def yX3_renewal : MethodName := ⟨RX3, "renewal", "(I)I"⟩
abbrev cX3_waiting : ByteArray := prog_5_method_36_code
def yX3_waiting : MethodName := ⟨RX3, "waiting", "()I"⟩
abbrev cX3_waitingAt : ByteArray := prog_5_method_37_code
def yX3_waitingAt : MethodName := ⟨RX3, "waitingAt", "(I)I"⟩
abbrev cX3_room : ByteArray := prog_5_method_38_code
def yX3_room : MethodName := ⟨RX3, "room", "(I)I"⟩
abbrev cX3_isGood : ByteArray := prog_5_method_39_code
def yX3_isGood : MethodName := ⟨RX3, "isGood", "(II)Z"⟩
abbrev cX3_chainEnd : ByteArray := prog_5_method_40_code
def yX3_chainEnd : MethodName := ⟨RX3, "chainEnd", "(I)I"⟩
abbrev cX3_chains : ByteArray := prog_5_method_41_code
def yX3_chains : MethodName := ⟨RX3, "chains", "(I)I"⟩
abbrev cX3_names : ByteArray := prog_5_method_42_code
def yX3_names : MethodName := ⟨RX3, "names", "(II)I"⟩
abbrev cX3_isCovered : ByteArray := prog_5_method_43_code
def yX3_isCovered : MethodName := ⟨RX3, "isCovered", "(II)Z"⟩
abbrev cX3_nextGap : ByteArray := prog_5_method_44_code
def yX3_nextGap : MethodName := ⟨RX3, "nextGap", "(II)I"⟩
abbrev cX3_covered : ByteArray := prog_5_method_45_code
def yX3_covered : MethodName := ⟨RX3, "covered", "(I)I"⟩
abbrev cX3_breaks : ByteArray := prog_5_method_46_code
def yX3_breaks : MethodName := ⟨RX3, "breaks", "(II)I"⟩
abbrev cX3_weakest : ByteArray := prog_5_method_47_code
def yX3_weakest : MethodName := ⟨RX3, "weakest", "(I)I"⟩
def RJ6 : String := "java/lang/Integer"
def TJ6 : u_T := fun k => match k with
  | _ => ("", "", "", false)
def tyJ6 : Nat → FieldType := fun k => match k with
  | _ => .int
abbrev wsJ60 : List Cond := u_ws RJ6 TJ6 0
theorem nmJ6 : ∀ a, a < 0 → ∀ b, b < 0 → a ≠ b → (TJ6 a).2.1 ≠ (TJ6 b).2.1 := by decide +kernel
theorem tyJ6_ok : ∀ k, k < 0 → parseFieldDescriptor (TJ6 k).2.2.1 = some (tyJ6 k) := by decide +kernel
abbrev cJ6_bitCount_0f7a4 : ByteArray := prog_10_method_49_code
def yJ6_bitCount_0f7a4 : MethodName := ⟨RJ6, "bitCount", "(I)I"⟩
def RJ9 : String := "java/lang/Math"
def TJ9 : u_T := fun k => match k with
  | _ => ("", "", "", false)
def tyJ9 : Nat → FieldType := fun k => match k with
  | _ => .int
abbrev wsJ90 : List Cond := u_ws RJ9 TJ9 0
theorem nmJ9 : ∀ a, a < 0 → ∀ b, b < 0 → a ≠ b → (TJ9 a).2.1 ≠ (TJ9 b).2.1 := by decide +kernel
theorem tyJ9_ok : ∀ k, k < 0 → parseFieldDescriptor (TJ9 k).2.2.1 = some (tyJ9 k) := by decide +kernel
abbrev cJ9_max_7cf53 : ByteArray := prog_11_method_65_code
def yJ9_max_7cf53 : MethodName := ⟨RJ9, "max", "(II)I"⟩
abbrev cJ9_min_7cf53 : ByteArray := prog_11_method_69_code
def yJ9_min_7cf53 : MethodName := ⟨RJ9, "min", "(II)I"⟩
def RJ0 : String := "java/lang/String"
def TJ0 : u_T := fun k => match k with
  | _ => ("", "", "", false)
def tyJ0 : Nat → FieldType := fun k => match k with
  | _ => .int
abbrev wsJ00 : List Cond := u_ws RJ0 TJ0 0
theorem nmJ0 : ∀ a, a < 0 → ∀ b, b < 0 → a ≠ b → (TJ0 a).2.1 ≠ (TJ0 b).2.1 := by decide +kernel
theorem tyJ0_ok : ∀ k, k < 0 → parseFieldDescriptor (TJ0 k).2.2.1 = some (tyJ0 k) := by decide +kernel
def RL : String := "CertHerdLaw"
abbrev cL_addIssuer : ByteArray := method_3_code
def yL_addIssuer : MethodName := ⟨RL, "addIssuer", "(LCertHerd;IIII[J)I"⟩
abbrev cL_cross : ByteArray := method_4_code
def yL_cross : MethodName := ⟨RL, "cross", "(LCertHerd;II[J)I"⟩
abbrev cL_distrust : ByteArray := method_5_code
def yL_distrust : MethodName := ⟨RL, "distrust", "(LCertHerd;II[J)I"⟩
abbrev cL_pin : ByteArray := method_6_code
def yL_pin : MethodName := ⟨RL, "pin", "(LCertHerd;II[J)I"⟩
abbrev cL_issue : ByteArray := method_7_code
def yL_issue : MethodName := ⟨RL, "issue", "(LCertHerd;III[J)I"⟩
abbrev cL_pass : ByteArray := method_8_code
def yL_pass : MethodName := ⟨RL, "pass", "(LCertHerd;I[J)I"⟩
abbrev cL_issuerOf : ByteArray := method_9_code
def yL_issuerOf : MethodName := ⟨RL, "issuerOf", "(LCertHerd;I[J)I"⟩
abbrev cL_lastDay : ByteArray := method_10_code
def yL_lastDay : MethodName := ⟨RL, "lastDay", "(LCertHerd;I[J)I"⟩
abbrev cL_dueOn : ByteArray := method_11_code
def yL_dueOn : MethodName := ⟨RL, "dueOn", "(LCertHerd;I[J)I"⟩
abbrev cL_renewal : ByteArray := method_12_code
def yL_renewal : MethodName := ⟨RL, "renewal", "(LCertHerd;I[J)I"⟩
abbrev cL_waitingAt : ByteArray := method_13_code
def yL_waitingAt : MethodName := ⟨RL, "waitingAt", "(LCertHerd;I[J)I"⟩
abbrev cL_room : ByteArray := method_14_code
def yL_room : MethodName := ⟨RL, "room", "(LCertHerd;I[J)I"⟩
abbrev cL_isGood : ByteArray := method_15_code
def yL_isGood : MethodName := ⟨RL, "isGood", "(LCertHerd;II[J)I"⟩
abbrev cL_chainEnd : ByteArray := method_16_code
def yL_chainEnd : MethodName := ⟨RL, "chainEnd", "(LCertHerd;I[J)I"⟩
abbrev cL_chains : ByteArray := method_17_code
def yL_chains : MethodName := ⟨RL, "chains", "(LCertHerd;I[J)I"⟩
abbrev cL_isCovered : ByteArray := method_18_code
def yL_isCovered : MethodName := ⟨RL, "isCovered", "(LCertHerd;II[J)I"⟩
abbrev cL_nextGap : ByteArray := method_19_code
def yL_nextGap : MethodName := ⟨RL, "nextGap", "(LCertHerd;II[J)I"⟩
abbrev cL_covered : ByteArray := method_20_code
def yL_covered : MethodName := ⟨RL, "covered", "(LCertHerd;I[J)I"⟩
abbrev cL_breaks : ByteArray := method_21_code
def yL_breaks : MethodName := ⟨RL, "breaks", "(LCertHerd;II[J)I"⟩
abbrev cL_weakest : ByteArray := method_22_code
def yL_weakest : MethodName := ⟨RL, "weakest", "(LCertHerd;I[J)I"⟩
abbrev cL_law : ByteArray := code
def yL_law : MethodName := ⟨RL, "law", "([I)Z"⟩
def wsX0_init : List Cond := .code yX0_init cX0_init 1 none :: ([.methodLink RX0 3 objectInit, .instanceMethod objectInit, .code objectInit ⟨#[0xb1]⟩ 1 none, .arrayClass .int, .fieldLink RX0 11 "CertHerd$CertificateTable" "issuerNumbers" "[I", .fieldLink RX0 15 "CertHerd$CertificateTable" "subjects" "[I", .fieldLink RX0 18 "CertHerd$CertificateTable" "firstDays" "[I", .fieldLink RX0 21 "CertHerd$CertificateTable" "lengths" "[I", .fieldLink RX0 24 "CertHerd$CertificateTable" "offsets" "[I", .fieldLink RX0 27 "CertHerd$CertificateTable" "renewals" "[I", .fieldLink RX0 30 "CertHerd$CertificateTable" "queue" "[I", .fieldLink RX0 33 "CertHerd$CertificateTable" "count" "I"] ++ wsX00)
def wsX0_isFull : List Cond := .code yX0_isFull cX0_isFull 1 (some .boolean) :: ([.fieldLink RX0 33 "CertHerd$CertificateTable" "count" "I"] ++ wsX00)
def wsX0_append : List Cond := .code yX0_append cX0_append 7 (some .int) :: ([.fieldLink RX0 33 "CertHerd$CertificateTable" "count" "I", .fieldLink RX0 11 "CertHerd$CertificateTable" "issuerNumbers" "[I", .fieldLink RX0 15 "CertHerd$CertificateTable" "subjects" "[I", .fieldLink RX0 18 "CertHerd$CertificateTable" "firstDays" "[I", .fieldLink RX0 21 "CertHerd$CertificateTable" "lengths" "[I", .fieldLink RX0 24 "CertHerd$CertificateTable" "offsets" "[I", .fieldLink RX0 27 "CertHerd$CertificateTable" "renewals" "[I"] ++ wsX00)
def wsX0_endOf : List Cond := .code yX0_endOf cX0_endOf 2 (some .int) :: ([.fieldLink RX0 18 "CertHerd$CertificateTable" "firstDays" "[I", .fieldLink RX0 21 "CertHerd$CertificateTable" "lengths" "[I"] ++ wsX00)
def wsX0_dueDayOf : List Cond := .code yX0_dueDayOf cX0_dueDayOf 2 (some .int) :: ([.fieldLink RX0 18 "CertHerd$CertificateTable" "firstDays" "[I", .fieldLink RX0 21 "CertHerd$CertificateTable" "lengths" "[I", .fieldLink RX0 24 "CertHerd$CertificateTable" "offsets" "[I"] ++ wsX00)
def wsX0_isWaiting : List Cond := .code yX0_isWaiting cX0_isWaiting 3 (some .boolean) :: ([.fieldLink RX0 27 "CertHerd$CertificateTable" "renewals" "[I", .methodLink RX0 37 yX0_dueDayOf, .instanceMethod yX0_dueDayOf, .selects RX0 yX0_dueDayOf yX0_dueDayOf, .initialized RX0, .code yX0_dueDayOf cX0_dueDayOf 2 (some .int), .fieldLink RX0 18 "CertHerd$CertificateTable" "firstDays" "[I", .fieldLink RX0 21 "CertHerd$CertificateTable" "lengths" "[I", .fieldLink RX0 24 "CertHerd$CertificateTable" "offsets" "[I", .methodLink RX0 41 yX0_endOf, .instanceMethod yX0_endOf, .selects RX0 yX0_endOf yX0_endOf, .code yX0_endOf cX0_endOf 2 (some .int)] ++ wsX00)
def wsX2_weekOf : List Cond := .code yX2_weekOf cX2_weekOf 1 (some .int) :: ([])
def wsX0_issuedInWeek : List Cond := .code yX0_issuedInWeek cX0_issuedInWeek 5 (some .int) :: ([.fieldLink RX0 33 "CertHerd$CertificateTable" "count" "I", .fieldLink RX0 11 "CertHerd$CertificateTable" "issuerNumbers" "[I", .fieldLink RX0 18 "CertHerd$CertificateTable" "firstDays" "[I", .static yX2_weekOf, .initialized RX2, .code yX2_weekOf cX2_weekOf 1 (some .int)] ++ wsX00)
def wsX0_insert : List Cond := .code yX0_insert cX0_insert 4 none :: ([.fieldLink RX0 30 "CertHerd$CertificateTable" "queue" "[I", .methodLink RX0 41 yX0_endOf, .instanceMethod yX0_endOf, .selects RX0 yX0_endOf yX0_endOf, .initialized RX0, .code yX0_endOf cX0_endOf 2 (some .int), .fieldLink RX0 18 "CertHerd$CertificateTable" "firstDays" "[I", .fieldLink RX0 21 "CertHerd$CertificateTable" "lengths" "[I"] ++ wsX00)
def wsX0_fillQueue : List Cond := .code yX0_fillQueue cX0_fillQueue 4 (some .int) :: ([.fieldLink RX0 33 "CertHerd$CertificateTable" "count" "I", .methodLink RX0 47 yX0_isWaiting, .instanceMethod yX0_isWaiting, .selects RX0 yX0_isWaiting yX0_isWaiting, .initialized RX0, .code yX0_isWaiting cX0_isWaiting 3 (some .boolean), .fieldLink RX0 27 "CertHerd$CertificateTable" "renewals" "[I", .methodLink RX0 37 yX0_dueDayOf, .instanceMethod yX0_dueDayOf, .selects RX0 yX0_dueDayOf yX0_dueDayOf, .code yX0_dueDayOf cX0_dueDayOf 2 (some .int), .fieldLink RX0 18 "CertHerd$CertificateTable" "firstDays" "[I", .fieldLink RX0 21 "CertHerd$CertificateTable" "lengths" "[I", .fieldLink RX0 24 "CertHerd$CertificateTable" "offsets" "[I", .methodLink RX0 41 yX0_endOf, .instanceMethod yX0_endOf, .selects RX0 yX0_endOf yX0_endOf, .code yX0_endOf cX0_endOf 2 (some .int), .methodLink RX0 51 yX0_insert, .instanceMethod yX0_insert, .selects RX0 yX0_insert yX0_insert, .code yX0_insert cX0_insert 4 none, .fieldLink RX0 30 "CertHerd$CertificateTable" "queue" "[I"] ++ wsX00)
def wsX2_contains : List Cond := .code yX2_contains cX2_contains 2 (some .boolean) :: ([])
def wsX2_namesOf : List Cond := .code yX2_namesOf cX2_namesOf 1 (some .int) :: ([])
def wsX0_namesHeld : List Cond := .code yX0_namesHeld cX0_namesHeld 6 (some .int) :: ([.fieldLink RX0 33 "CertHerd$CertificateTable" "count" "I", .fieldLink RX0 18 "CertHerd$CertificateTable" "firstDays" "[I", .fieldLink RX0 11 "CertHerd$CertificateTable" "issuerNumbers" "[I", .fieldLink RX0 15 "CertHerd$CertificateTable" "subjects" "[I", .methodLink RX0 41 yX0_endOf, .instanceMethod yX0_endOf, .selects RX0 yX0_endOf yX0_endOf, .initialized RX0, .code yX0_endOf cX0_endOf 2 (some .int), .fieldLink RX0 21 "CertHerd$CertificateTable" "lengths" "[I", .static yX2_contains, .initialized RX2, .code yX2_contains cX2_contains 2 (some .boolean), .static yX2_namesOf, .code yX2_namesOf cX2_namesOf 1 (some .int)] ++ wsX00)
def wsX1_init : List Cond := .code yX1_init cX1_init 1 none :: ([.methodLink RX1 3 objectInit, .instanceMethod objectInit, .code objectInit ⟨#[0xb1]⟩ 1 none, .arrayClass .int, .fieldLink RX1 11 "CertHerd$IssuerTable" "firstSigners" "[I", .fieldLink RX1 15 "CertHerd$IssuerTable" "secondSigners" "[I", .fieldLink RX1 18 "CertHerd$IssuerTable" "firstDays" "[I", .fieldLink RX1 21 "CertHerd$IssuerTable" "endDays" "[I", .fieldLink RX1 24 "CertHerd$IssuerTable" "limits" "[I", .fieldLink RX1 27 "CertHerd$IssuerTable" "distrustDays" "[I", .fieldLink RX1 30 "CertHerd$IssuerTable" "chainEnds" "[I", .fieldLink RX1 33 "CertHerd$IssuerTable" "chainCounts" "[I", .fieldLink RX1 36 "CertHerd$IssuerTable" "count" "I"] ++ wsX10)
def wsX1_isFull : List Cond := .code yX1_isFull cX1_isFull 1 (some .boolean) :: ([.fieldLink RX1 36 "CertHerd$IssuerTable" "count" "I"] ++ wsX10)
def wsX1_isRoot : List Cond := .code yX1_isRoot cX1_isRoot 2 (some .boolean) :: ([.fieldLink RX1 11 "CertHerd$IssuerTable" "firstSigners" "[I"] ++ wsX10)
def wsX1_updateChains : List Cond := .code yX1_updateChains cX1_updateChains 5 none :: ([.fieldLink RX1 36 "CertHerd$IssuerTable" "count" "I", .fieldLink RX1 30 "CertHerd$IssuerTable" "chainEnds" "[I", .fieldLink RX1 11 "CertHerd$IssuerTable" "firstSigners" "[I", .fieldLink RX1 33 "CertHerd$IssuerTable" "chainCounts" "[I", .fieldLink RX1 15 "CertHerd$IssuerTable" "secondSigners" "[I", .methodLink RX1 48 Lib.Math.max.name, .static Lib.Math.max.name, .initialized "java/lang/Math", .code Lib.Math.max.name Lib.Math.max.code 2 (some .int), .fieldLink RX1 21 "CertHerd$IssuerTable" "endDays" "[I", .methodLink RX1 54 Lib.Math.min.name, .static Lib.Math.min.name, .code Lib.Math.min.name Lib.Math.min.code 2 (some .int), .methodLink RX1 44 yX1_isRoot, .instanceMethod yX1_isRoot, .selects RX1 yX1_isRoot yX1_isRoot, .initialized RX1, .code yX1_isRoot cX1_isRoot 2 (some .boolean)] ++ wsX10)
def wsX1_append_r1 : List Cond := [Cond.fieldLink RX1 36 "CertHerd$IssuerTable" "count" "I", Cond.fieldLink RX1 11 "CertHerd$IssuerTable" "firstSigners" "[I", Cond.fieldLink RX1 15 "CertHerd$IssuerTable" "secondSigners" "[I", Cond.fieldLink RX1 18 "CertHerd$IssuerTable" "firstDays" "[I", Cond.fieldLink RX1 21 "CertHerd$IssuerTable" "endDays" "[I", Cond.fieldLink RX1 24 "CertHerd$IssuerTable" "limits" "[I", Cond.fieldLink RX1 27 "CertHerd$IssuerTable" "distrustDays" "[I", Cond.methodLink RX1 40 yX1_updateChains, Cond.instanceMethod yX1_updateChains, Cond.selects RX1 yX1_updateChains yX1_updateChains, Cond.initialized RX1, Cond.code yX1_updateChains cX1_updateChains 5 none, Cond.fieldLink RX1 30 "CertHerd$IssuerTable" "chainEnds" "[I", Cond.fieldLink RX1 33 "CertHerd$IssuerTable" "chainCounts" "[I", Cond.methodLink RX1 48 Lib.Math.max.name, Cond.static Lib.Math.max.name, Cond.initialized "java/lang/Math", Cond.code Lib.Math.max.name Lib.Math.max.code 2 (some .int), Cond.methodLink RX1 54 Lib.Math.min.name, Cond.static Lib.Math.min.name, Cond.code Lib.Math.min.name Lib.Math.min.code 2 (some .int), Cond.methodLink RX1 44 yX1_isRoot, Cond.instanceMethod yX1_isRoot, Cond.selects RX1 yX1_isRoot yX1_isRoot]
def wsX1_append_r2 : List Cond := [Cond.code yX1_isRoot cX1_isRoot 2 (some .boolean)]
def wsX1_append : List Cond := .code yX1_append cX1_append 6 (some .int) :: ((wsX1_append_r1 ++ wsX1_append_r2) ++ wsX10)
def wsX1_canBeSignedAlsoBy : List Cond := .code yX1_canBeSignedAlsoBy cX1_canBeSignedAlsoBy 3 (some .boolean) :: ([.fieldLink RX1 15 "CertHerd$IssuerTable" "secondSigners" "[I", .fieldLink RX1 11 "CertHerd$IssuerTable" "firstSigners" "[I", .methodLink RX1 44 yX1_isRoot, .instanceMethod yX1_isRoot, .selects RX1 yX1_isRoot yX1_isRoot, .initialized RX1, .code yX1_isRoot cX1_isRoot 2 (some .boolean)] ++ wsX10)
def wsX1_signAlsoBy : List Cond := .code yX1_signAlsoBy cX1_signAlsoBy 3 none :: ([.fieldLink RX1 15 "CertHerd$IssuerTable" "secondSigners" "[I", .methodLink RX1 40 yX1_updateChains, .instanceMethod yX1_updateChains, .selects RX1 yX1_updateChains yX1_updateChains, .initialized RX1, .code yX1_updateChains cX1_updateChains 5 none, .fieldLink RX1 36 "CertHerd$IssuerTable" "count" "I", .fieldLink RX1 30 "CertHerd$IssuerTable" "chainEnds" "[I", .fieldLink RX1 11 "CertHerd$IssuerTable" "firstSigners" "[I", .fieldLink RX1 33 "CertHerd$IssuerTable" "chainCounts" "[I", .methodLink RX1 48 Lib.Math.max.name, .static Lib.Math.max.name, .initialized "java/lang/Math", .code Lib.Math.max.name Lib.Math.max.code 2 (some .int), .fieldLink RX1 21 "CertHerd$IssuerTable" "endDays" "[I", .methodLink RX1 54 Lib.Math.min.name, .static Lib.Math.min.name, .code Lib.Math.min.name Lib.Math.min.code 2 (some .int), .methodLink RX1 44 yX1_isRoot, .instanceMethod yX1_isRoot, .selects RX1 yX1_isRoot yX1_isRoot, .code yX1_isRoot cX1_isRoot 2 (some .boolean)] ++ wsX10)
def wsX1_standsOn : List Cond := .code yX1_standsOn cX1_standsOn 4 (some .boolean) :: ([.fieldLink RX1 27 "CertHerd$IssuerTable" "distrustDays" "[I", .fieldLink RX1 18 "CertHerd$IssuerTable" "firstDays" "[I", .fieldLink RX1 21 "CertHerd$IssuerTable" "endDays" "[I"] ++ wsX10)
def wsX1_isHeldBy : List Cond := .code yX1_isHeldBy cX1_isHeldBy 3 (some .boolean) :: ([.fieldLink RX1 11 "CertHerd$IssuerTable" "firstSigners" "[I", .fieldLink RX1 15 "CertHerd$IssuerTable" "secondSigners" "[I", .methodLink RX1 44 yX1_isRoot, .instanceMethod yX1_isRoot, .selects RX1 yX1_isRoot yX1_isRoot, .initialized RX1, .code yX1_isRoot cX1_isRoot 2 (some .boolean), .static yX2_contains, .initialized RX2, .code yX2_contains cX2_contains 2 (some .boolean)] ++ wsX10)
def wsX1_goodOn : List Cond := .code yX1_goodOn cX1_goodOn 5 (some .int) :: ([.fieldLink RX1 36 "CertHerd$IssuerTable" "count" "I", .methodLink RX1 57 yX1_standsOn, .instanceMethod yX1_standsOn, .selects RX1 yX1_standsOn yX1_standsOn, .initialized RX1, .code yX1_standsOn cX1_standsOn 4 (some .boolean), .fieldLink RX1 27 "CertHerd$IssuerTable" "distrustDays" "[I", .fieldLink RX1 18 "CertHerd$IssuerTable" "firstDays" "[I", .fieldLink RX1 21 "CertHerd$IssuerTable" "endDays" "[I", .methodLink RX1 61 yX1_isHeldBy, .instanceMethod yX1_isHeldBy, .selects RX1 yX1_isHeldBy yX1_isHeldBy, .code yX1_isHeldBy cX1_isHeldBy 3 (some .boolean), .fieldLink RX1 11 "CertHerd$IssuerTable" "firstSigners" "[I", .fieldLink RX1 15 "CertHerd$IssuerTable" "secondSigners" "[I", .methodLink RX1 44 yX1_isRoot, .instanceMethod yX1_isRoot, .selects RX1 yX1_isRoot yX1_isRoot, .code yX1_isRoot cX1_isRoot 2 (some .boolean), .static yX2_contains, .initialized RX2, .code yX2_contains cX2_contains 2 (some .boolean)] ++ wsX10)
def wsX2_init_r1 : List Cond := [Cond.methodLink RX2 1 objectInit, Cond.instanceMethod objectInit, Cond.code objectInit ⟨#[0xb1]⟩ 1 none, Cond.classLink RX2 7 RX1, Cond.instantiable RX1 9, Cond.initialized RX1, Cond.fieldLink RX2 10 "CertHerd" "issuerTable" "LCertHerd$IssuerTable;", Cond.classLink RX2 16 RX0, Cond.instantiable RX0 8, Cond.initialized RX0, Cond.fieldLink RX2 19 "CertHerd" "certificateTable" "LCertHerd$CertificateTable;", Cond.arrayClass .int, Cond.fieldLink RX2 23 "CertHerd" "pinsOfName" "[I", Cond.fieldLink RX2 27 "CertHerd" "seedNow" "I", Cond.fieldLink RX2 31 "CertHerd" "dayNow" "I", Cond.instanceMethod yX1_init, Cond.code yX1_init cX1_init 1 none, Cond.methodLink RX1 3 objectInit, Cond.fieldLink RX1 11 "CertHerd$IssuerTable" "firstSigners" "[I", Cond.fieldLink RX1 15 "CertHerd$IssuerTable" "secondSigners" "[I", Cond.fieldLink RX1 18 "CertHerd$IssuerTable" "firstDays" "[I", Cond.fieldLink RX1 21 "CertHerd$IssuerTable" "endDays" "[I", Cond.fieldLink RX1 24 "CertHerd$IssuerTable" "limits" "[I", Cond.fieldLink RX1 27 "CertHerd$IssuerTable" "distrustDays" "[I"]
def wsX2_init_r2 : List Cond := [Cond.fieldLink RX1 30 "CertHerd$IssuerTable" "chainEnds" "[I", Cond.fieldLink RX1 33 "CertHerd$IssuerTable" "chainCounts" "[I", Cond.fieldLink RX1 36 "CertHerd$IssuerTable" "count" "I", Cond.instanceMethod yX0_init, Cond.code yX0_init cX0_init 1 none, Cond.methodLink RX0 3 objectInit, Cond.fieldLink RX0 11 "CertHerd$CertificateTable" "issuerNumbers" "[I", Cond.fieldLink RX0 15 "CertHerd$CertificateTable" "subjects" "[I", Cond.fieldLink RX0 18 "CertHerd$CertificateTable" "firstDays" "[I", Cond.fieldLink RX0 21 "CertHerd$CertificateTable" "lengths" "[I", Cond.fieldLink RX0 24 "CertHerd$CertificateTable" "offsets" "[I", Cond.fieldLink RX0 27 "CertHerd$CertificateTable" "renewals" "[I", Cond.fieldLink RX0 30 "CertHerd$CertificateTable" "queue" "[I", Cond.fieldLink RX0 33 "CertHerd$CertificateTable" "count" "I"]
def wsX2_init : List Cond := .code yX2_init cX2_init 1 none :: ((wsX2_init_r1 ++ wsX2_init_r2) ++ wsX10 ++ wsX20 ++ wsX00)
def wsX2_checkIssuer : List Cond := .code yX2_checkIssuer cX2_checkIssuer 2 none :: ([.classLink RX2 130 "java/lang/IndexOutOfBoundsException", .initialized "java/lang/IndexOutOfBoundsException", .fieldLink RX2 10 "CertHerd" "issuerTable" "LCertHerd$IssuerTable;", .fieldLink RX2 107 "CertHerd$IssuerTable" "count" "I"] ++ wsX20 ++ wsX10 ++ (vx_atS RX2 134 "java/lang/IndexOutOfBoundsException" ["java/lang/RuntimeException", "java/lang/Exception"]).filter goodWord)
def wsX2_checkDay : List Cond := .code yX2_checkDay cX2_checkDay 1 none :: ([.classLink RX2 41 "java/lang/IllegalArgumentException", .initialized "java/lang/IllegalArgumentException"] ++ (vx_atS RX2 45 "java/lang/IllegalArgumentException" ["java/lang/RuntimeException", "java/lang/Exception"]).filter goodWord)
def wsX2_addIssuer_r1 : List Cond := [Cond.classLink RX2 41 "java/lang/IllegalArgumentException", Cond.initialized "java/lang/IllegalArgumentException", Cond.classLink RX2 54 "java/lang/IllegalStateException", Cond.initialized "java/lang/IllegalStateException", Cond.fieldLink RX2 10 "CertHerd" "issuerTable" "LCertHerd$IssuerTable;", Cond.methodLink RX2 34 yX2_checkIssuer, Cond.instanceMethod yX2_checkIssuer, Cond.selects RX2 yX2_checkIssuer yX2_checkIssuer, Cond.initialized RX2, Cond.code yX2_checkIssuer cX2_checkIssuer 2 none, Cond.classLink RX2 130 "java/lang/IndexOutOfBoundsException", Cond.initialized "java/lang/IndexOutOfBoundsException", Cond.fieldLink RX2 107 "CertHerd$IssuerTable" "count" "I", Cond.methodLink RX2 38 yX2_checkDay, Cond.static yX2_checkDay, Cond.code yX2_checkDay cX2_checkDay 1 none, Cond.methodLink RX2 50 yX1_isFull, Cond.instanceMethod yX1_isFull, Cond.selects RX1 yX1_isFull yX1_isFull, Cond.initialized RX1, Cond.code yX1_isFull cX1_isFull 1 (some .boolean), Cond.fieldLink RX1 36 "CertHerd$IssuerTable" "count" "I", Cond.methodLink RX2 59 yX1_append, Cond.instanceMethod yX1_append]
def wsX2_addIssuer_r2 : List Cond := [Cond.selects RX1 yX1_append yX1_append, Cond.code yX1_append cX1_append 6 (some .int), Cond.fieldLink RX1 11 "CertHerd$IssuerTable" "firstSigners" "[I", Cond.fieldLink RX1 15 "CertHerd$IssuerTable" "secondSigners" "[I", Cond.fieldLink RX1 18 "CertHerd$IssuerTable" "firstDays" "[I", Cond.fieldLink RX1 21 "CertHerd$IssuerTable" "endDays" "[I", Cond.fieldLink RX1 24 "CertHerd$IssuerTable" "limits" "[I", Cond.fieldLink RX1 27 "CertHerd$IssuerTable" "distrustDays" "[I", Cond.methodLink RX1 40 yX1_updateChains, Cond.instanceMethod yX1_updateChains, Cond.selects RX1 yX1_updateChains yX1_updateChains, Cond.code yX1_updateChains cX1_updateChains 5 none, Cond.fieldLink RX1 30 "CertHerd$IssuerTable" "chainEnds" "[I", Cond.fieldLink RX1 33 "CertHerd$IssuerTable" "chainCounts" "[I", Cond.methodLink RX1 48 Lib.Math.max.name, Cond.static Lib.Math.max.name, Cond.initialized "java/lang/Math", Cond.code Lib.Math.max.name Lib.Math.max.code 2 (some .int), Cond.methodLink RX1 54 Lib.Math.min.name, Cond.static Lib.Math.min.name, Cond.code Lib.Math.min.name Lib.Math.min.code 2 (some .int), Cond.methodLink RX1 44 yX1_isRoot, Cond.instanceMethod yX1_isRoot, Cond.selects RX1 yX1_isRoot yX1_isRoot]
def wsX2_addIssuer_r3 : List Cond := [Cond.code yX1_isRoot cX1_isRoot 2 (some .boolean)]
def wsX2_addIssuer : List Cond := .code yX2_addIssuer cX2_addIssuer 5 (some .int) :: ((wsX2_addIssuer_r1 ++ (wsX2_addIssuer_r2 ++ wsX2_addIssuer_r3)) ++ wsX20 ++ wsX10 ++ (vx_atS RX2 45 "java/lang/IllegalArgumentException" ["java/lang/RuntimeException", "java/lang/Exception"]).filter goodWord ++ (vx_atS RX2 58 "java/lang/IllegalStateException" ["java/lang/RuntimeException", "java/lang/Exception"]).filter goodWord ++ (vx_atS RX2 134 "java/lang/IndexOutOfBoundsException" ["java/lang/RuntimeException", "java/lang/Exception"]).filter goodWord)
def wsX2_cross_r1 : List Cond := [Cond.classLink RX2 41 "java/lang/IllegalArgumentException", Cond.initialized "java/lang/IllegalArgumentException", Cond.classLink RX2 54 "java/lang/IllegalStateException", Cond.initialized "java/lang/IllegalStateException", Cond.fieldLink RX2 10 "CertHerd" "issuerTable" "LCertHerd$IssuerTable;", Cond.fieldLink RX2 75 "CertHerd$IssuerTable" "chainEnds" "[I", Cond.methodLink RX2 34 yX2_checkIssuer, Cond.instanceMethod yX2_checkIssuer, Cond.selects RX2 yX2_checkIssuer yX2_checkIssuer, Cond.initialized RX2, Cond.code yX2_checkIssuer cX2_checkIssuer 2 none, Cond.classLink RX2 130 "java/lang/IndexOutOfBoundsException", Cond.initialized "java/lang/IndexOutOfBoundsException", Cond.fieldLink RX2 107 "CertHerd$IssuerTable" "count" "I", Cond.methodLink RX2 65 yX1_canBeSignedAlsoBy, Cond.instanceMethod yX1_canBeSignedAlsoBy, Cond.selects RX1 yX1_canBeSignedAlsoBy yX1_canBeSignedAlsoBy, Cond.initialized RX1, Cond.code yX1_canBeSignedAlsoBy cX1_canBeSignedAlsoBy 3 (some .boolean), Cond.fieldLink RX1 15 "CertHerd$IssuerTable" "secondSigners" "[I", Cond.fieldLink RX1 11 "CertHerd$IssuerTable" "firstSigners" "[I", Cond.methodLink RX1 44 yX1_isRoot, Cond.instanceMethod yX1_isRoot, Cond.selects RX1 yX1_isRoot yX1_isRoot]
def wsX2_cross_r2 : List Cond := [Cond.code yX1_isRoot cX1_isRoot 2 (some .boolean), Cond.methodLink RX2 71 yX1_signAlsoBy, Cond.instanceMethod yX1_signAlsoBy, Cond.selects RX1 yX1_signAlsoBy yX1_signAlsoBy, Cond.code yX1_signAlsoBy cX1_signAlsoBy 3 none, Cond.methodLink RX1 40 yX1_updateChains, Cond.instanceMethod yX1_updateChains, Cond.selects RX1 yX1_updateChains yX1_updateChains, Cond.code yX1_updateChains cX1_updateChains 5 none, Cond.fieldLink RX1 36 "CertHerd$IssuerTable" "count" "I", Cond.fieldLink RX1 30 "CertHerd$IssuerTable" "chainEnds" "[I", Cond.fieldLink RX1 33 "CertHerd$IssuerTable" "chainCounts" "[I", Cond.methodLink RX1 48 Lib.Math.max.name, Cond.static Lib.Math.max.name, Cond.initialized "java/lang/Math", Cond.code Lib.Math.max.name Lib.Math.max.code 2 (some .int), Cond.fieldLink RX1 21 "CertHerd$IssuerTable" "endDays" "[I", Cond.methodLink RX1 54 Lib.Math.min.name, Cond.static Lib.Math.min.name, Cond.code Lib.Math.min.name Lib.Math.min.code 2 (some .int)]
def wsX2_cross : List Cond := .code yX2_cross cX2_cross 3 (some .int) :: ((wsX2_cross_r1 ++ wsX2_cross_r2) ++ wsX20 ++ wsX10 ++ (vx_atS RX2 45 "java/lang/IllegalArgumentException" ["java/lang/RuntimeException", "java/lang/Exception"]).filter goodWord ++ (vx_atS RX2 58 "java/lang/IllegalStateException" ["java/lang/RuntimeException", "java/lang/Exception"]).filter goodWord ++ (vx_atS RX2 134 "java/lang/IndexOutOfBoundsException" ["java/lang/RuntimeException", "java/lang/Exception"]).filter goodWord)
def wsX2_distrust : List Cond := .code yX2_distrust cX2_distrust 4 (some .int) :: ([.fieldLink RX2 10 "CertHerd" "issuerTable" "LCertHerd$IssuerTable;", .fieldLink RX2 78 "CertHerd$IssuerTable" "distrustDays" "[I", .methodLink RX2 34 yX2_checkIssuer, .instanceMethod yX2_checkIssuer, .selects RX2 yX2_checkIssuer yX2_checkIssuer, .initialized RX2, .code yX2_checkIssuer cX2_checkIssuer 2 none, .classLink RX2 130 "java/lang/IndexOutOfBoundsException", .initialized "java/lang/IndexOutOfBoundsException", .fieldLink RX2 107 "CertHerd$IssuerTable" "count" "I", .methodLink RX2 38 yX2_checkDay, .static yX2_checkDay, .code yX2_checkDay cX2_checkDay 1 none, .classLink RX2 41 "java/lang/IllegalArgumentException", .initialized "java/lang/IllegalArgumentException"] ++ wsX20 ++ wsX10 ++ (vx_atS RX2 134 "java/lang/IndexOutOfBoundsException" ["java/lang/RuntimeException", "java/lang/Exception"]).filter goodWord ++ (vx_atS RX2 45 "java/lang/IllegalArgumentException" ["java/lang/RuntimeException", "java/lang/Exception"]).filter goodWord)
def wsX2_checkName : List Cond := .code yX2_checkName cX2_checkName 1 none :: ([.classLink RX2 130 "java/lang/IndexOutOfBoundsException", .initialized "java/lang/IndexOutOfBoundsException"] ++ (vx_atS RX2 134 "java/lang/IndexOutOfBoundsException" ["java/lang/RuntimeException", "java/lang/Exception"]).filter goodWord)
def wsX2_pin : List Cond := .code yX2_pin cX2_pin 4 (some .int) :: ([.classLink RX2 41 "java/lang/IllegalArgumentException", .initialized "java/lang/IllegalArgumentException", .fieldLink RX2 23 "CertHerd" "pinsOfName" "[I", .methodLink RX2 81 yX2_checkName, .static yX2_checkName, .initialized RX2, .code yX2_checkName cX2_checkName 1 none, .classLink RX2 130 "java/lang/IndexOutOfBoundsException", .initialized "java/lang/IndexOutOfBoundsException"] ++ wsX20 ++ (vx_atS RX2 45 "java/lang/IllegalArgumentException" ["java/lang/RuntimeException", "java/lang/Exception"]).filter goodWord ++ (vx_atS RX2 134 "java/lang/IndexOutOfBoundsException" ["java/lang/RuntimeException", "java/lang/Exception"]).filter goodWord)
def wsX2_setSeed : List Cond := .code yX2_setSeed cX2_setSeed 2 none :: ([.fieldLink RX2 27 "CertHerd" "seedNow" "I"] ++ wsX20)
def wsX2_roomThisWeek : List Cond := .code yX2_roomThisWeek cX2_roomThisWeek 2 (some .int) :: ([.fieldLink RX2 10 "CertHerd" "issuerTable" "LCertHerd$IssuerTable;", .fieldLink RX2 177 "CertHerd$IssuerTable" "limits" "[I", .fieldLink RX2 19 "CertHerd" "certificateTable" "LCertHerd$CertificateTable;", .fieldLink RX2 31 "CertHerd" "dayNow" "I", .methodLink RX2 180 yX2_weekOf, .static yX2_weekOf, .initialized RX2, .code yX2_weekOf cX2_weekOf 1 (some .int), .methodLink RX2 183 yX0_issuedInWeek, .instanceMethod yX0_issuedInWeek, .selects RX0 yX0_issuedInWeek yX0_issuedInWeek, .initialized RX0, .code yX0_issuedInWeek cX0_issuedInWeek 5 (some .int), .fieldLink RX0 33 "CertHerd$CertificateTable" "count" "I", .fieldLink RX0 11 "CertHerd$CertificateTable" "issuerNumbers" "[I", .fieldLink RX0 18 "CertHerd$CertificateTable" "firstDays" "[I"] ++ wsX20 ++ wsX10 ++ wsX00)
def wsX2_mayIssueFor : List Cond := .code yX2_mayIssueFor cX2_mayIssueFor 6 (some .boolean) :: ([.fieldLink RX2 23 "CertHerd" "pinsOfName" "[I", .methodLink RX2 174 yX2_namesOf, .static yX2_namesOf, .initialized RX2, .code yX2_namesOf cX2_namesOf 1 (some .int), .methodLink RX2 145 yX2_contains, .static yX2_contains, .code yX2_contains cX2_contains 2 (some .boolean)] ++ wsX20)
def wsX2_canIssue_r1 : List Cond := [Cond.fieldLink RX2 19 "CertHerd" "certificateTable" "LCertHerd$CertificateTable;", Cond.fieldLink RX2 10 "CertHerd" "issuerTable" "LCertHerd$IssuerTable;", Cond.fieldLink RX2 31 "CertHerd" "dayNow" "I", Cond.methodLink RX2 170 yX0_isFull, Cond.instanceMethod yX0_isFull, Cond.selects RX0 yX0_isFull yX0_isFull, Cond.initialized RX0, Cond.code yX0_isFull cX0_isFull 1 (some .boolean), Cond.fieldLink RX0 33 "CertHerd$CertificateTable" "count" "I", Cond.methodLink RX2 138 yX2_roomThisWeek, Cond.instanceMethod yX2_roomThisWeek, Cond.selects RX2 yX2_roomThisWeek yX2_roomThisWeek, Cond.initialized RX2, Cond.code yX2_roomThisWeek cX2_roomThisWeek 2 (some .int), Cond.fieldLink RX2 177 "CertHerd$IssuerTable" "limits" "[I", Cond.methodLink RX2 180 yX2_weekOf, Cond.static yX2_weekOf, Cond.code yX2_weekOf cX2_weekOf 1 (some .int), Cond.methodLink RX2 183 yX0_issuedInWeek, Cond.instanceMethod yX0_issuedInWeek, Cond.selects RX0 yX0_issuedInWeek yX0_issuedInWeek, Cond.code yX0_issuedInWeek cX0_issuedInWeek 5 (some .int), Cond.fieldLink RX0 11 "CertHerd$CertificateTable" "issuerNumbers" "[I", Cond.fieldLink RX0 18 "CertHerd$CertificateTable" "firstDays" "[I"]
def wsX2_canIssue_r2 : List Cond := [Cond.methodLink RX2 171 yX2_mayIssueFor, Cond.instanceMethod yX2_mayIssueFor, Cond.selects RX2 yX2_mayIssueFor yX2_mayIssueFor, Cond.code yX2_mayIssueFor cX2_mayIssueFor 6 (some .boolean), Cond.fieldLink RX2 23 "CertHerd" "pinsOfName" "[I", Cond.methodLink RX2 174 yX2_namesOf, Cond.static yX2_namesOf, Cond.code yX2_namesOf cX2_namesOf 1 (some .int), Cond.methodLink RX2 145 yX2_contains, Cond.static yX2_contains, Cond.code yX2_contains cX2_contains 2 (some .boolean), Cond.methodLink RX2 141 yX1_goodOn, Cond.instanceMethod yX1_goodOn, Cond.selects RX1 yX1_goodOn yX1_goodOn, Cond.initialized RX1, Cond.code yX1_goodOn cX1_goodOn 5 (some .int), Cond.fieldLink RX1 36 "CertHerd$IssuerTable" "count" "I", Cond.methodLink RX1 57 yX1_standsOn, Cond.instanceMethod yX1_standsOn, Cond.selects RX1 yX1_standsOn yX1_standsOn, Cond.code yX1_standsOn cX1_standsOn 4 (some .boolean), Cond.fieldLink RX1 27 "CertHerd$IssuerTable" "distrustDays" "[I", Cond.fieldLink RX1 18 "CertHerd$IssuerTable" "firstDays" "[I", Cond.fieldLink RX1 21 "CertHerd$IssuerTable" "endDays" "[I"]
def wsX2_canIssue_r3 : List Cond := [Cond.methodLink RX1 61 yX1_isHeldBy, Cond.instanceMethod yX1_isHeldBy, Cond.selects RX1 yX1_isHeldBy yX1_isHeldBy, Cond.code yX1_isHeldBy cX1_isHeldBy 3 (some .boolean), Cond.fieldLink RX1 11 "CertHerd$IssuerTable" "firstSigners" "[I", Cond.fieldLink RX1 15 "CertHerd$IssuerTable" "secondSigners" "[I", Cond.methodLink RX1 44 yX1_isRoot, Cond.instanceMethod yX1_isRoot, Cond.selects RX1 yX1_isRoot yX1_isRoot, Cond.code yX1_isRoot cX1_isRoot 2 (some .boolean)]
def wsX2_canIssue : List Cond := .code yX2_canIssue cX2_canIssue 3 (some .boolean) :: ((wsX2_canIssue_r1 ++ (wsX2_canIssue_r2 ++ wsX2_canIssue_r3)) ++ wsX20 ++ wsX00 ++ wsX10)
def wsX2_drawOffset : List Cond := .code yX2_drawOffset cX2_drawOffset 2 (some .int) :: ([.fieldLink RX2 27 "CertHerd" "seedNow" "I", .constant RX2 192 (1103515245)] ++ wsX20)
def wsX2_makeCertificate : List Cond := .code yX2_makeCertificate cX2_makeCertificate 4 (some .int) :: ([.fieldLink RX2 19 "CertHerd" "certificateTable" "LCertHerd$CertificateTable;", .fieldLink RX2 31 "CertHerd" "dayNow" "I", .methodLink RX2 186 yX2_drawOffset, .instanceMethod yX2_drawOffset, .selects RX2 yX2_drawOffset yX2_drawOffset, .initialized RX2, .code yX2_drawOffset cX2_drawOffset 2 (some .int), .fieldLink RX2 27 "CertHerd" "seedNow" "I", .constant RX2 192 (1103515245), .methodLink RX2 189 yX0_append, .instanceMethod yX0_append, .selects RX0 yX0_append yX0_append, .initialized RX0, .code yX0_append cX0_append 7 (some .int), .fieldLink RX0 33 "CertHerd$CertificateTable" "count" "I", .fieldLink RX0 11 "CertHerd$CertificateTable" "issuerNumbers" "[I", .fieldLink RX0 15 "CertHerd$CertificateTable" "subjects" "[I", .fieldLink RX0 18 "CertHerd$CertificateTable" "firstDays" "[I", .fieldLink RX0 21 "CertHerd$CertificateTable" "lengths" "[I", .fieldLink RX0 24 "CertHerd$CertificateTable" "offsets" "[I", .fieldLink RX0 27 "CertHerd$CertificateTable" "renewals" "[I"] ++ wsX20 ++ wsX00)
def wsX2_issue_r1 : List Cond := [Cond.classLink RX2 41 "java/lang/IllegalArgumentException", Cond.initialized "java/lang/IllegalArgumentException", Cond.classLink RX2 54 "java/lang/IllegalStateException", Cond.initialized "java/lang/IllegalStateException", Cond.methodLink RX2 34 yX2_checkIssuer, Cond.instanceMethod yX2_checkIssuer, Cond.selects RX2 yX2_checkIssuer yX2_checkIssuer, Cond.initialized RX2, Cond.code yX2_checkIssuer cX2_checkIssuer 2 none, Cond.classLink RX2 130 "java/lang/IndexOutOfBoundsException", Cond.initialized "java/lang/IndexOutOfBoundsException", Cond.fieldLink RX2 10 "CertHerd" "issuerTable" "LCertHerd$IssuerTable;", Cond.fieldLink RX2 107 "CertHerd$IssuerTable" "count" "I", Cond.methodLink RX2 90 yX2_canIssue, Cond.instanceMethod yX2_canIssue, Cond.selects RX2 yX2_canIssue yX2_canIssue, Cond.code yX2_canIssue cX2_canIssue 3 (some .boolean), Cond.fieldLink RX2 19 "CertHerd" "certificateTable" "LCertHerd$CertificateTable;", Cond.fieldLink RX2 31 "CertHerd" "dayNow" "I", Cond.methodLink RX2 170 yX0_isFull, Cond.instanceMethod yX0_isFull, Cond.selects RX0 yX0_isFull yX0_isFull, Cond.initialized RX0, Cond.code yX0_isFull cX0_isFull 1 (some .boolean)]
def wsX2_issue_r2 : List Cond := [Cond.fieldLink RX0 33 "CertHerd$CertificateTable" "count" "I", Cond.methodLink RX2 138 yX2_roomThisWeek, Cond.instanceMethod yX2_roomThisWeek, Cond.selects RX2 yX2_roomThisWeek yX2_roomThisWeek, Cond.code yX2_roomThisWeek cX2_roomThisWeek 2 (some .int), Cond.fieldLink RX2 177 "CertHerd$IssuerTable" "limits" "[I", Cond.methodLink RX2 180 yX2_weekOf, Cond.static yX2_weekOf, Cond.code yX2_weekOf cX2_weekOf 1 (some .int), Cond.methodLink RX2 183 yX0_issuedInWeek, Cond.instanceMethod yX0_issuedInWeek, Cond.selects RX0 yX0_issuedInWeek yX0_issuedInWeek, Cond.code yX0_issuedInWeek cX0_issuedInWeek 5 (some .int), Cond.fieldLink RX0 11 "CertHerd$CertificateTable" "issuerNumbers" "[I", Cond.fieldLink RX0 18 "CertHerd$CertificateTable" "firstDays" "[I", Cond.methodLink RX2 171 yX2_mayIssueFor, Cond.instanceMethod yX2_mayIssueFor, Cond.selects RX2 yX2_mayIssueFor yX2_mayIssueFor, Cond.code yX2_mayIssueFor cX2_mayIssueFor 6 (some .boolean), Cond.fieldLink RX2 23 "CertHerd" "pinsOfName" "[I", Cond.methodLink RX2 174 yX2_namesOf, Cond.static yX2_namesOf, Cond.code yX2_namesOf cX2_namesOf 1 (some .int), Cond.methodLink RX2 145 yX2_contains]
def wsX2_issue_r3 : List Cond := [Cond.static yX2_contains, Cond.code yX2_contains cX2_contains 2 (some .boolean), Cond.methodLink RX2 141 yX1_goodOn, Cond.instanceMethod yX1_goodOn, Cond.selects RX1 yX1_goodOn yX1_goodOn, Cond.initialized RX1, Cond.code yX1_goodOn cX1_goodOn 5 (some .int), Cond.fieldLink RX1 36 "CertHerd$IssuerTable" "count" "I", Cond.methodLink RX1 57 yX1_standsOn, Cond.instanceMethod yX1_standsOn, Cond.selects RX1 yX1_standsOn yX1_standsOn, Cond.code yX1_standsOn cX1_standsOn 4 (some .boolean), Cond.fieldLink RX1 27 "CertHerd$IssuerTable" "distrustDays" "[I", Cond.fieldLink RX1 18 "CertHerd$IssuerTable" "firstDays" "[I", Cond.fieldLink RX1 21 "CertHerd$IssuerTable" "endDays" "[I", Cond.methodLink RX1 61 yX1_isHeldBy, Cond.instanceMethod yX1_isHeldBy, Cond.selects RX1 yX1_isHeldBy yX1_isHeldBy, Cond.code yX1_isHeldBy cX1_isHeldBy 3 (some .boolean), Cond.fieldLink RX1 11 "CertHerd$IssuerTable" "firstSigners" "[I", Cond.fieldLink RX1 15 "CertHerd$IssuerTable" "secondSigners" "[I", Cond.methodLink RX1 44 yX1_isRoot, Cond.instanceMethod yX1_isRoot, Cond.selects RX1 yX1_isRoot yX1_isRoot]
def wsX2_issue_r4 : List Cond := [Cond.code yX1_isRoot cX1_isRoot 2 (some .boolean), Cond.methodLink RX2 95 yX2_makeCertificate, Cond.instanceMethod yX2_makeCertificate, Cond.selects RX2 yX2_makeCertificate yX2_makeCertificate, Cond.code yX2_makeCertificate cX2_makeCertificate 4 (some .int), Cond.methodLink RX2 186 yX2_drawOffset, Cond.instanceMethod yX2_drawOffset, Cond.selects RX2 yX2_drawOffset yX2_drawOffset, Cond.code yX2_drawOffset cX2_drawOffset 2 (some .int), Cond.fieldLink RX2 27 "CertHerd" "seedNow" "I", Cond.constant RX2 192 (1103515245), Cond.methodLink RX2 189 yX0_append, Cond.instanceMethod yX0_append, Cond.selects RX0 yX0_append yX0_append, Cond.code yX0_append cX0_append 7 (some .int), Cond.fieldLink RX0 15 "CertHerd$CertificateTable" "subjects" "[I", Cond.fieldLink RX0 21 "CertHerd$CertificateTable" "lengths" "[I", Cond.fieldLink RX0 24 "CertHerd$CertificateTable" "offsets" "[I", Cond.fieldLink RX0 27 "CertHerd$CertificateTable" "renewals" "[I"]
def wsX2_issue : List Cond := .code yX2_issue cX2_issue 4 (some .int) :: ((wsX2_issue_r1 ++ (wsX2_issue_r2 ++ (wsX2_issue_r3 ++ wsX2_issue_r4))) ++ wsX20 ++ wsX10 ++ wsX00 ++ (vx_atS RX2 45 "java/lang/IllegalArgumentException" ["java/lang/RuntimeException", "java/lang/Exception"]).filter goodWord ++ (vx_atS RX2 58 "java/lang/IllegalStateException" ["java/lang/RuntimeException", "java/lang/Exception"]).filter goodWord ++ (vx_atS RX2 134 "java/lang/IndexOutOfBoundsException" ["java/lang/RuntimeException", "java/lang/Exception"]).filter goodWord)
def wsX2_renewDueCertificates_r1 : List Cond := [Cond.fieldLink RX2 19 "CertHerd" "certificateTable" "LCertHerd$CertificateTable;", Cond.fieldLink RX2 31 "CertHerd" "dayNow" "I", Cond.fieldLink RX2 135 "CertHerd$CertificateTable" "queue" "[I", Cond.fieldLink RX2 114 "CertHerd$CertificateTable" "issuerNumbers" "[I", Cond.fieldLink RX2 193 "CertHerd$CertificateTable" "subjects" "[I", Cond.fieldLink RX2 124 "CertHerd$CertificateTable" "renewals" "[I", Cond.fieldLink RX2 196 "CertHerd$CertificateTable" "lengths" "[I", Cond.methodLink RX2 127 yX0_fillQueue, Cond.instanceMethod yX0_fillQueue, Cond.selects RX0 yX0_fillQueue yX0_fillQueue, Cond.initialized RX0, Cond.code yX0_fillQueue cX0_fillQueue 4 (some .int), Cond.fieldLink RX0 33 "CertHerd$CertificateTable" "count" "I", Cond.methodLink RX0 47 yX0_isWaiting, Cond.instanceMethod yX0_isWaiting, Cond.selects RX0 yX0_isWaiting yX0_isWaiting, Cond.code yX0_isWaiting cX0_isWaiting 3 (some .boolean), Cond.fieldLink RX0 27 "CertHerd$CertificateTable" "renewals" "[I", Cond.methodLink RX0 37 yX0_dueDayOf, Cond.instanceMethod yX0_dueDayOf, Cond.selects RX0 yX0_dueDayOf yX0_dueDayOf, Cond.code yX0_dueDayOf cX0_dueDayOf 2 (some .int), Cond.fieldLink RX0 18 "CertHerd$CertificateTable" "firstDays" "[I", Cond.fieldLink RX0 21 "CertHerd$CertificateTable" "lengths" "[I"]
def wsX2_renewDueCertificates_r2 : List Cond := [Cond.fieldLink RX0 24 "CertHerd$CertificateTable" "offsets" "[I", Cond.methodLink RX0 41 yX0_endOf, Cond.instanceMethod yX0_endOf, Cond.selects RX0 yX0_endOf yX0_endOf, Cond.code yX0_endOf cX0_endOf 2 (some .int), Cond.methodLink RX0 51 yX0_insert, Cond.instanceMethod yX0_insert, Cond.selects RX0 yX0_insert yX0_insert, Cond.code yX0_insert cX0_insert 4 none, Cond.fieldLink RX0 30 "CertHerd$CertificateTable" "queue" "[I", Cond.methodLink RX2 90 yX2_canIssue, Cond.instanceMethod yX2_canIssue, Cond.selects RX2 yX2_canIssue yX2_canIssue, Cond.initialized RX2, Cond.code yX2_canIssue cX2_canIssue 3 (some .boolean), Cond.fieldLink RX2 10 "CertHerd" "issuerTable" "LCertHerd$IssuerTable;", Cond.methodLink RX2 170 yX0_isFull, Cond.instanceMethod yX0_isFull, Cond.selects RX0 yX0_isFull yX0_isFull, Cond.code yX0_isFull cX0_isFull 1 (some .boolean), Cond.methodLink RX2 138 yX2_roomThisWeek, Cond.instanceMethod yX2_roomThisWeek, Cond.selects RX2 yX2_roomThisWeek yX2_roomThisWeek, Cond.code yX2_roomThisWeek cX2_roomThisWeek 2 (some .int)]
def wsX2_renewDueCertificates_r3 : List Cond := [Cond.fieldLink RX2 177 "CertHerd$IssuerTable" "limits" "[I", Cond.methodLink RX2 180 yX2_weekOf, Cond.static yX2_weekOf, Cond.code yX2_weekOf cX2_weekOf 1 (some .int), Cond.methodLink RX2 183 yX0_issuedInWeek, Cond.instanceMethod yX0_issuedInWeek, Cond.selects RX0 yX0_issuedInWeek yX0_issuedInWeek, Cond.code yX0_issuedInWeek cX0_issuedInWeek 5 (some .int), Cond.fieldLink RX0 11 "CertHerd$CertificateTable" "issuerNumbers" "[I", Cond.methodLink RX2 171 yX2_mayIssueFor, Cond.instanceMethod yX2_mayIssueFor, Cond.selects RX2 yX2_mayIssueFor yX2_mayIssueFor, Cond.code yX2_mayIssueFor cX2_mayIssueFor 6 (some .boolean), Cond.fieldLink RX2 23 "CertHerd" "pinsOfName" "[I", Cond.methodLink RX2 174 yX2_namesOf, Cond.static yX2_namesOf, Cond.code yX2_namesOf cX2_namesOf 1 (some .int), Cond.methodLink RX2 145 yX2_contains, Cond.static yX2_contains, Cond.code yX2_contains cX2_contains 2 (some .boolean), Cond.methodLink RX2 141 yX1_goodOn, Cond.instanceMethod yX1_goodOn, Cond.selects RX1 yX1_goodOn yX1_goodOn, Cond.initialized RX1]
def wsX2_renewDueCertificates_r4 : List Cond := [Cond.code yX1_goodOn cX1_goodOn 5 (some .int), Cond.fieldLink RX1 36 "CertHerd$IssuerTable" "count" "I", Cond.methodLink RX1 57 yX1_standsOn, Cond.instanceMethod yX1_standsOn, Cond.selects RX1 yX1_standsOn yX1_standsOn, Cond.code yX1_standsOn cX1_standsOn 4 (some .boolean), Cond.fieldLink RX1 27 "CertHerd$IssuerTable" "distrustDays" "[I", Cond.fieldLink RX1 18 "CertHerd$IssuerTable" "firstDays" "[I", Cond.fieldLink RX1 21 "CertHerd$IssuerTable" "endDays" "[I", Cond.methodLink RX1 61 yX1_isHeldBy, Cond.instanceMethod yX1_isHeldBy, Cond.selects RX1 yX1_isHeldBy yX1_isHeldBy, Cond.code yX1_isHeldBy cX1_isHeldBy 3 (some .boolean), Cond.fieldLink RX1 11 "CertHerd$IssuerTable" "firstSigners" "[I", Cond.fieldLink RX1 15 "CertHerd$IssuerTable" "secondSigners" "[I", Cond.methodLink RX1 44 yX1_isRoot, Cond.instanceMethod yX1_isRoot, Cond.selects RX1 yX1_isRoot yX1_isRoot, Cond.code yX1_isRoot cX1_isRoot 2 (some .boolean), Cond.methodLink RX2 95 yX2_makeCertificate, Cond.instanceMethod yX2_makeCertificate, Cond.selects RX2 yX2_makeCertificate yX2_makeCertificate, Cond.code yX2_makeCertificate cX2_makeCertificate 4 (some .int), Cond.methodLink RX2 186 yX2_drawOffset]
def wsX2_renewDueCertificates_r5 : List Cond := [Cond.instanceMethod yX2_drawOffset, Cond.selects RX2 yX2_drawOffset yX2_drawOffset, Cond.code yX2_drawOffset cX2_drawOffset 2 (some .int), Cond.fieldLink RX2 27 "CertHerd" "seedNow" "I", Cond.constant RX2 192 (1103515245), Cond.methodLink RX2 189 yX0_append, Cond.instanceMethod yX0_append, Cond.selects RX0 yX0_append yX0_append, Cond.code yX0_append cX0_append 7 (some .int), Cond.fieldLink RX0 15 "CertHerd$CertificateTable" "subjects" "[I"]
def wsX2_renewDueCertificates : List Cond := .code yX2_renewDueCertificates cX2_renewDueCertificates 7 (some .int) :: ((wsX2_renewDueCertificates_r1 ++ (wsX2_renewDueCertificates_r2 ++ (wsX2_renewDueCertificates_r3 ++ (wsX2_renewDueCertificates_r4 ++ wsX2_renewDueCertificates_r5)))) ++ wsX20 ++ wsX00 ++ wsX10)
def wsX2_pass_r1 : List Cond := [Cond.classLink RX2 41 "java/lang/IllegalArgumentException", Cond.initialized "java/lang/IllegalArgumentException", Cond.classLink RX2 54 "java/lang/IllegalStateException", Cond.initialized "java/lang/IllegalStateException", Cond.fieldLink RX2 31 "CertHerd" "dayNow" "I", Cond.methodLink RX2 103 yX2_renewDueCertificates, Cond.instanceMethod yX2_renewDueCertificates, Cond.selects RX2 yX2_renewDueCertificates yX2_renewDueCertificates, Cond.initialized RX2, Cond.code yX2_renewDueCertificates cX2_renewDueCertificates 7 (some .int), Cond.fieldLink RX2 19 "CertHerd" "certificateTable" "LCertHerd$CertificateTable;", Cond.fieldLink RX2 135 "CertHerd$CertificateTable" "queue" "[I", Cond.fieldLink RX2 114 "CertHerd$CertificateTable" "issuerNumbers" "[I", Cond.fieldLink RX2 193 "CertHerd$CertificateTable" "subjects" "[I", Cond.fieldLink RX2 124 "CertHerd$CertificateTable" "renewals" "[I", Cond.fieldLink RX2 196 "CertHerd$CertificateTable" "lengths" "[I", Cond.methodLink RX2 127 yX0_fillQueue, Cond.instanceMethod yX0_fillQueue, Cond.selects RX0 yX0_fillQueue yX0_fillQueue, Cond.initialized RX0, Cond.code yX0_fillQueue cX0_fillQueue 4 (some .int), Cond.fieldLink RX0 33 "CertHerd$CertificateTable" "count" "I", Cond.methodLink RX0 47 yX0_isWaiting, Cond.instanceMethod yX0_isWaiting]
def wsX2_pass_r2 : List Cond := [Cond.selects RX0 yX0_isWaiting yX0_isWaiting, Cond.code yX0_isWaiting cX0_isWaiting 3 (some .boolean), Cond.fieldLink RX0 27 "CertHerd$CertificateTable" "renewals" "[I", Cond.methodLink RX0 37 yX0_dueDayOf, Cond.instanceMethod yX0_dueDayOf, Cond.selects RX0 yX0_dueDayOf yX0_dueDayOf, Cond.code yX0_dueDayOf cX0_dueDayOf 2 (some .int), Cond.fieldLink RX0 18 "CertHerd$CertificateTable" "firstDays" "[I", Cond.fieldLink RX0 21 "CertHerd$CertificateTable" "lengths" "[I", Cond.fieldLink RX0 24 "CertHerd$CertificateTable" "offsets" "[I", Cond.methodLink RX0 41 yX0_endOf, Cond.instanceMethod yX0_endOf, Cond.selects RX0 yX0_endOf yX0_endOf, Cond.code yX0_endOf cX0_endOf 2 (some .int), Cond.methodLink RX0 51 yX0_insert, Cond.instanceMethod yX0_insert, Cond.selects RX0 yX0_insert yX0_insert, Cond.code yX0_insert cX0_insert 4 none, Cond.fieldLink RX0 30 "CertHerd$CertificateTable" "queue" "[I", Cond.methodLink RX2 90 yX2_canIssue, Cond.instanceMethod yX2_canIssue, Cond.selects RX2 yX2_canIssue yX2_canIssue, Cond.code yX2_canIssue cX2_canIssue 3 (some .boolean), Cond.fieldLink RX2 10 "CertHerd" "issuerTable" "LCertHerd$IssuerTable;"]
def wsX2_pass_r3 : List Cond := [Cond.methodLink RX2 170 yX0_isFull, Cond.instanceMethod yX0_isFull, Cond.selects RX0 yX0_isFull yX0_isFull, Cond.code yX0_isFull cX0_isFull 1 (some .boolean), Cond.methodLink RX2 138 yX2_roomThisWeek, Cond.instanceMethod yX2_roomThisWeek, Cond.selects RX2 yX2_roomThisWeek yX2_roomThisWeek, Cond.code yX2_roomThisWeek cX2_roomThisWeek 2 (some .int), Cond.fieldLink RX2 177 "CertHerd$IssuerTable" "limits" "[I", Cond.methodLink RX2 180 yX2_weekOf, Cond.static yX2_weekOf, Cond.code yX2_weekOf cX2_weekOf 1 (some .int), Cond.methodLink RX2 183 yX0_issuedInWeek, Cond.instanceMethod yX0_issuedInWeek, Cond.selects RX0 yX0_issuedInWeek yX0_issuedInWeek, Cond.code yX0_issuedInWeek cX0_issuedInWeek 5 (some .int), Cond.fieldLink RX0 11 "CertHerd$CertificateTable" "issuerNumbers" "[I", Cond.methodLink RX2 171 yX2_mayIssueFor, Cond.instanceMethod yX2_mayIssueFor, Cond.selects RX2 yX2_mayIssueFor yX2_mayIssueFor, Cond.code yX2_mayIssueFor cX2_mayIssueFor 6 (some .boolean), Cond.fieldLink RX2 23 "CertHerd" "pinsOfName" "[I", Cond.methodLink RX2 174 yX2_namesOf, Cond.static yX2_namesOf]
def wsX2_pass_r4 : List Cond := [Cond.code yX2_namesOf cX2_namesOf 1 (some .int), Cond.methodLink RX2 145 yX2_contains, Cond.static yX2_contains, Cond.code yX2_contains cX2_contains 2 (some .boolean), Cond.methodLink RX2 141 yX1_goodOn, Cond.instanceMethod yX1_goodOn, Cond.selects RX1 yX1_goodOn yX1_goodOn, Cond.initialized RX1, Cond.code yX1_goodOn cX1_goodOn 5 (some .int), Cond.fieldLink RX1 36 "CertHerd$IssuerTable" "count" "I", Cond.methodLink RX1 57 yX1_standsOn, Cond.instanceMethod yX1_standsOn, Cond.selects RX1 yX1_standsOn yX1_standsOn, Cond.code yX1_standsOn cX1_standsOn 4 (some .boolean), Cond.fieldLink RX1 27 "CertHerd$IssuerTable" "distrustDays" "[I", Cond.fieldLink RX1 18 "CertHerd$IssuerTable" "firstDays" "[I", Cond.fieldLink RX1 21 "CertHerd$IssuerTable" "endDays" "[I", Cond.methodLink RX1 61 yX1_isHeldBy, Cond.instanceMethod yX1_isHeldBy, Cond.selects RX1 yX1_isHeldBy yX1_isHeldBy, Cond.code yX1_isHeldBy cX1_isHeldBy 3 (some .boolean), Cond.fieldLink RX1 11 "CertHerd$IssuerTable" "firstSigners" "[I", Cond.fieldLink RX1 15 "CertHerd$IssuerTable" "secondSigners" "[I", Cond.methodLink RX1 44 yX1_isRoot]
def wsX2_pass_r5 : List Cond := [Cond.instanceMethod yX1_isRoot, Cond.selects RX1 yX1_isRoot yX1_isRoot, Cond.code yX1_isRoot cX1_isRoot 2 (some .boolean), Cond.methodLink RX2 95 yX2_makeCertificate, Cond.instanceMethod yX2_makeCertificate, Cond.selects RX2 yX2_makeCertificate yX2_makeCertificate, Cond.code yX2_makeCertificate cX2_makeCertificate 4 (some .int), Cond.methodLink RX2 186 yX2_drawOffset, Cond.instanceMethod yX2_drawOffset, Cond.selects RX2 yX2_drawOffset yX2_drawOffset, Cond.code yX2_drawOffset cX2_drawOffset 2 (some .int), Cond.fieldLink RX2 27 "CertHerd" "seedNow" "I", Cond.constant RX2 192 (1103515245), Cond.methodLink RX2 189 yX0_append, Cond.instanceMethod yX0_append, Cond.selects RX0 yX0_append yX0_append, Cond.code yX0_append cX0_append 7 (some .int), Cond.fieldLink RX0 15 "CertHerd$CertificateTable" "subjects" "[I"]
def wsX2_pass : List Cond := .code yX2_pass cX2_pass 4 (some .int) :: ((wsX2_pass_r1 ++ (wsX2_pass_r2 ++ (wsX2_pass_r3 ++ (wsX2_pass_r4 ++ wsX2_pass_r5)))) ++ wsX20 ++ wsX00 ++ wsX10 ++ (vx_atS RX2 45 "java/lang/IllegalArgumentException" ["java/lang/RuntimeException", "java/lang/Exception"]).filter goodWord ++ (vx_atS RX2 58 "java/lang/IllegalStateException" ["java/lang/RuntimeException", "java/lang/Exception"]).filter goodWord)
def wsX2_today : List Cond := .code yX2_today cX2_today 1 (some .int) :: ([.fieldLink RX2 31 "CertHerd" "dayNow" "I"] ++ wsX20)
def wsX2_issuers : List Cond := .code yX2_issuers cX2_issuers 1 (some .int) :: ([.fieldLink RX2 10 "CertHerd" "issuerTable" "LCertHerd$IssuerTable;", .fieldLink RX2 107 "CertHerd$IssuerTable" "count" "I"] ++ wsX20 ++ wsX10)
def wsX2_certificates : List Cond := .code yX2_certificates cX2_certificates 1 (some .int) :: ([.fieldLink RX2 19 "CertHerd" "certificateTable" "LCertHerd$CertificateTable;", .fieldLink RX2 110 "CertHerd$CertificateTable" "count" "I"] ++ wsX20 ++ wsX00)
def wsX2_checkCertificate : List Cond := .code yX2_checkCertificate cX2_checkCertificate 2 none :: ([.classLink RX2 130 "java/lang/IndexOutOfBoundsException", .initialized "java/lang/IndexOutOfBoundsException", .fieldLink RX2 19 "CertHerd" "certificateTable" "LCertHerd$CertificateTable;", .fieldLink RX2 110 "CertHerd$CertificateTable" "count" "I"] ++ wsX20 ++ wsX00 ++ (vx_atS RX2 134 "java/lang/IndexOutOfBoundsException" ["java/lang/RuntimeException", "java/lang/Exception"]).filter goodWord)
def wsX2_issuerOf : List Cond := .code yX2_issuerOf cX2_issuerOf 2 (some .int) :: ([.fieldLink RX2 19 "CertHerd" "certificateTable" "LCertHerd$CertificateTable;", .fieldLink RX2 114 "CertHerd$CertificateTable" "issuerNumbers" "[I", .methodLink RX2 111 yX2_checkCertificate, .instanceMethod yX2_checkCertificate, .selects RX2 yX2_checkCertificate yX2_checkCertificate, .initialized RX2, .code yX2_checkCertificate cX2_checkCertificate 2 none, .classLink RX2 130 "java/lang/IndexOutOfBoundsException", .initialized "java/lang/IndexOutOfBoundsException", .fieldLink RX2 110 "CertHerd$CertificateTable" "count" "I"] ++ wsX20 ++ wsX00 ++ (vx_atS RX2 134 "java/lang/IndexOutOfBoundsException" ["java/lang/RuntimeException", "java/lang/Exception"]).filter goodWord)
def wsX2_lastDay : List Cond := .code yX2_lastDay cX2_lastDay 2 (some .int) :: ([.fieldLink RX2 19 "CertHerd" "certificateTable" "LCertHerd$CertificateTable;", .methodLink RX2 111 yX2_checkCertificate, .instanceMethod yX2_checkCertificate, .selects RX2 yX2_checkCertificate yX2_checkCertificate, .initialized RX2, .code yX2_checkCertificate cX2_checkCertificate 2 none, .classLink RX2 130 "java/lang/IndexOutOfBoundsException", .initialized "java/lang/IndexOutOfBoundsException", .fieldLink RX2 110 "CertHerd$CertificateTable" "count" "I", .methodLink RX2 117 yX0_endOf, .instanceMethod yX0_endOf, .selects RX0 yX0_endOf yX0_endOf, .initialized RX0, .code yX0_endOf cX0_endOf 2 (some .int), .fieldLink RX0 18 "CertHerd$CertificateTable" "firstDays" "[I", .fieldLink RX0 21 "CertHerd$CertificateTable" "lengths" "[I"] ++ wsX20 ++ wsX00 ++ (vx_atS RX2 134 "java/lang/IndexOutOfBoundsException" ["java/lang/RuntimeException", "java/lang/Exception"]).filter goodWord)
def wsX2_dueOn : List Cond := .code yX2_dueOn cX2_dueOn 2 (some .int) :: ([.fieldLink RX2 19 "CertHerd" "certificateTable" "LCertHerd$CertificateTable;", .methodLink RX2 111 yX2_checkCertificate, .instanceMethod yX2_checkCertificate, .selects RX2 yX2_checkCertificate yX2_checkCertificate, .initialized RX2, .code yX2_checkCertificate cX2_checkCertificate 2 none, .classLink RX2 130 "java/lang/IndexOutOfBoundsException", .initialized "java/lang/IndexOutOfBoundsException", .fieldLink RX2 110 "CertHerd$CertificateTable" "count" "I", .methodLink RX2 121 yX0_dueDayOf, .instanceMethod yX0_dueDayOf, .selects RX0 yX0_dueDayOf yX0_dueDayOf, .initialized RX0, .code yX0_dueDayOf cX0_dueDayOf 2 (some .int), .fieldLink RX0 18 "CertHerd$CertificateTable" "firstDays" "[I", .fieldLink RX0 21 "CertHerd$CertificateTable" "lengths" "[I", .fieldLink RX0 24 "CertHerd$CertificateTable" "offsets" "[I"] ++ wsX20 ++ wsX00 ++ (vx_atS RX2 134 "java/lang/IndexOutOfBoundsException" ["java/lang/RuntimeException", "java/lang/Exception"]).filter goodWord)
def wsX2_renewal : List Cond := .code yX2_renewal cX2_renewal 2 (some .int) :: ([.fieldLink RX2 19 "CertHerd" "certificateTable" "LCertHerd$CertificateTable;", .fieldLink RX2 124 "CertHerd$CertificateTable" "renewals" "[I", .methodLink RX2 111 yX2_checkCertificate, .instanceMethod yX2_checkCertificate, .selects RX2 yX2_checkCertificate yX2_checkCertificate, .initialized RX2, .code yX2_checkCertificate cX2_checkCertificate 2 none, .classLink RX2 130 "java/lang/IndexOutOfBoundsException", .initialized "java/lang/IndexOutOfBoundsException", .fieldLink RX2 110 "CertHerd$CertificateTable" "count" "I"] ++ wsX20 ++ wsX00 ++ (vx_atS RX2 134 "java/lang/IndexOutOfBoundsException" ["java/lang/RuntimeException", "java/lang/Exception"]).filter goodWord)
def wsX2_waiting_r1 : List Cond := [Cond.fieldLink RX2 19 "CertHerd" "certificateTable" "LCertHerd$CertificateTable;", Cond.fieldLink RX2 31 "CertHerd" "dayNow" "I", Cond.methodLink RX2 127 yX0_fillQueue, Cond.instanceMethod yX0_fillQueue, Cond.selects RX0 yX0_fillQueue yX0_fillQueue, Cond.initialized RX0, Cond.code yX0_fillQueue cX0_fillQueue 4 (some .int), Cond.fieldLink RX0 33 "CertHerd$CertificateTable" "count" "I", Cond.methodLink RX0 47 yX0_isWaiting, Cond.instanceMethod yX0_isWaiting, Cond.selects RX0 yX0_isWaiting yX0_isWaiting, Cond.code yX0_isWaiting cX0_isWaiting 3 (some .boolean), Cond.fieldLink RX0 27 "CertHerd$CertificateTable" "renewals" "[I", Cond.methodLink RX0 37 yX0_dueDayOf, Cond.instanceMethod yX0_dueDayOf, Cond.selects RX0 yX0_dueDayOf yX0_dueDayOf, Cond.code yX0_dueDayOf cX0_dueDayOf 2 (some .int), Cond.fieldLink RX0 18 "CertHerd$CertificateTable" "firstDays" "[I", Cond.fieldLink RX0 21 "CertHerd$CertificateTable" "lengths" "[I", Cond.fieldLink RX0 24 "CertHerd$CertificateTable" "offsets" "[I", Cond.methodLink RX0 41 yX0_endOf, Cond.instanceMethod yX0_endOf, Cond.selects RX0 yX0_endOf yX0_endOf, Cond.code yX0_endOf cX0_endOf 2 (some .int)]
def wsX2_waiting_r2 : List Cond := [Cond.methodLink RX0 51 yX0_insert, Cond.instanceMethod yX0_insert, Cond.selects RX0 yX0_insert yX0_insert, Cond.code yX0_insert cX0_insert 4 none, Cond.fieldLink RX0 30 "CertHerd$CertificateTable" "queue" "[I"]
def wsX2_waiting : List Cond := .code yX2_waiting cX2_waiting 1 (some .int) :: ((wsX2_waiting_r1 ++ wsX2_waiting_r2) ++ wsX20 ++ wsX00)
def wsX2_waitingAt_r1 : List Cond := [Cond.classLink RX2 130 "java/lang/IndexOutOfBoundsException", Cond.initialized "java/lang/IndexOutOfBoundsException", Cond.fieldLink RX2 19 "CertHerd" "certificateTable" "LCertHerd$CertificateTable;", Cond.fieldLink RX2 31 "CertHerd" "dayNow" "I", Cond.fieldLink RX2 135 "CertHerd$CertificateTable" "queue" "[I", Cond.methodLink RX2 127 yX0_fillQueue, Cond.instanceMethod yX0_fillQueue, Cond.selects RX0 yX0_fillQueue yX0_fillQueue, Cond.initialized RX0, Cond.code yX0_fillQueue cX0_fillQueue 4 (some .int), Cond.fieldLink RX0 33 "CertHerd$CertificateTable" "count" "I", Cond.methodLink RX0 47 yX0_isWaiting, Cond.instanceMethod yX0_isWaiting, Cond.selects RX0 yX0_isWaiting yX0_isWaiting, Cond.code yX0_isWaiting cX0_isWaiting 3 (some .boolean), Cond.fieldLink RX0 27 "CertHerd$CertificateTable" "renewals" "[I", Cond.methodLink RX0 37 yX0_dueDayOf, Cond.instanceMethod yX0_dueDayOf, Cond.selects RX0 yX0_dueDayOf yX0_dueDayOf, Cond.code yX0_dueDayOf cX0_dueDayOf 2 (some .int), Cond.fieldLink RX0 18 "CertHerd$CertificateTable" "firstDays" "[I", Cond.fieldLink RX0 21 "CertHerd$CertificateTable" "lengths" "[I", Cond.fieldLink RX0 24 "CertHerd$CertificateTable" "offsets" "[I", Cond.methodLink RX0 41 yX0_endOf]
def wsX2_waitingAt_r2 : List Cond := [Cond.instanceMethod yX0_endOf, Cond.selects RX0 yX0_endOf yX0_endOf, Cond.code yX0_endOf cX0_endOf 2 (some .int), Cond.methodLink RX0 51 yX0_insert, Cond.instanceMethod yX0_insert, Cond.selects RX0 yX0_insert yX0_insert, Cond.code yX0_insert cX0_insert 4 none, Cond.fieldLink RX0 30 "CertHerd$CertificateTable" "queue" "[I"]
def wsX2_waitingAt : List Cond := .code yX2_waitingAt cX2_waitingAt 3 (some .int) :: ((wsX2_waitingAt_r1 ++ wsX2_waitingAt_r2) ++ wsX20 ++ wsX00 ++ (vx_atS RX2 134 "java/lang/IndexOutOfBoundsException" ["java/lang/RuntimeException", "java/lang/Exception"]).filter goodWord)
def wsX2_room_r1 : List Cond := [Cond.methodLink RX2 34 yX2_checkIssuer, Cond.instanceMethod yX2_checkIssuer, Cond.selects RX2 yX2_checkIssuer yX2_checkIssuer, Cond.initialized RX2, Cond.code yX2_checkIssuer cX2_checkIssuer 2 none, Cond.classLink RX2 130 "java/lang/IndexOutOfBoundsException", Cond.initialized "java/lang/IndexOutOfBoundsException", Cond.fieldLink RX2 10 "CertHerd" "issuerTable" "LCertHerd$IssuerTable;", Cond.fieldLink RX2 107 "CertHerd$IssuerTable" "count" "I", Cond.methodLink RX2 138 yX2_roomThisWeek, Cond.instanceMethod yX2_roomThisWeek, Cond.selects RX2 yX2_roomThisWeek yX2_roomThisWeek, Cond.code yX2_roomThisWeek cX2_roomThisWeek 2 (some .int), Cond.fieldLink RX2 177 "CertHerd$IssuerTable" "limits" "[I", Cond.fieldLink RX2 19 "CertHerd" "certificateTable" "LCertHerd$CertificateTable;", Cond.fieldLink RX2 31 "CertHerd" "dayNow" "I", Cond.methodLink RX2 180 yX2_weekOf, Cond.static yX2_weekOf, Cond.code yX2_weekOf cX2_weekOf 1 (some .int), Cond.methodLink RX2 183 yX0_issuedInWeek, Cond.instanceMethod yX0_issuedInWeek, Cond.selects RX0 yX0_issuedInWeek yX0_issuedInWeek, Cond.initialized RX0, Cond.code yX0_issuedInWeek cX0_issuedInWeek 5 (some .int)]
def wsX2_room_r2 : List Cond := [Cond.fieldLink RX0 33 "CertHerd$CertificateTable" "count" "I", Cond.fieldLink RX0 11 "CertHerd$CertificateTable" "issuerNumbers" "[I", Cond.fieldLink RX0 18 "CertHerd$CertificateTable" "firstDays" "[I"]
def wsX2_room : List Cond := .code yX2_room cX2_room 2 (some .int) :: ((wsX2_room_r1 ++ wsX2_room_r2) ++ wsX20 ++ wsX10 ++ wsX00 ++ (vx_atS RX2 134 "java/lang/IndexOutOfBoundsException" ["java/lang/RuntimeException", "java/lang/Exception"]).filter goodWord)
def wsX2_isGood_r1 : List Cond := [Cond.fieldLink RX2 10 "CertHerd" "issuerTable" "LCertHerd$IssuerTable;", Cond.methodLink RX2 34 yX2_checkIssuer, Cond.instanceMethod yX2_checkIssuer, Cond.selects RX2 yX2_checkIssuer yX2_checkIssuer, Cond.initialized RX2, Cond.code yX2_checkIssuer cX2_checkIssuer 2 none, Cond.classLink RX2 130 "java/lang/IndexOutOfBoundsException", Cond.initialized "java/lang/IndexOutOfBoundsException", Cond.fieldLink RX2 107 "CertHerd$IssuerTable" "count" "I", Cond.methodLink RX2 38 yX2_checkDay, Cond.static yX2_checkDay, Cond.code yX2_checkDay cX2_checkDay 1 none, Cond.classLink RX2 41 "java/lang/IllegalArgumentException", Cond.initialized "java/lang/IllegalArgumentException", Cond.methodLink RX2 141 yX1_goodOn, Cond.instanceMethod yX1_goodOn, Cond.selects RX1 yX1_goodOn yX1_goodOn, Cond.initialized RX1, Cond.code yX1_goodOn cX1_goodOn 5 (some .int), Cond.fieldLink RX1 36 "CertHerd$IssuerTable" "count" "I", Cond.methodLink RX1 57 yX1_standsOn, Cond.instanceMethod yX1_standsOn, Cond.selects RX1 yX1_standsOn yX1_standsOn, Cond.code yX1_standsOn cX1_standsOn 4 (some .boolean)]
def wsX2_isGood_r2 : List Cond := [Cond.fieldLink RX1 27 "CertHerd$IssuerTable" "distrustDays" "[I", Cond.fieldLink RX1 18 "CertHerd$IssuerTable" "firstDays" "[I", Cond.fieldLink RX1 21 "CertHerd$IssuerTable" "endDays" "[I", Cond.methodLink RX1 61 yX1_isHeldBy, Cond.instanceMethod yX1_isHeldBy, Cond.selects RX1 yX1_isHeldBy yX1_isHeldBy, Cond.code yX1_isHeldBy cX1_isHeldBy 3 (some .boolean), Cond.fieldLink RX1 11 "CertHerd$IssuerTable" "firstSigners" "[I", Cond.fieldLink RX1 15 "CertHerd$IssuerTable" "secondSigners" "[I", Cond.methodLink RX1 44 yX1_isRoot, Cond.instanceMethod yX1_isRoot, Cond.selects RX1 yX1_isRoot yX1_isRoot, Cond.code yX1_isRoot cX1_isRoot 2 (some .boolean), Cond.static yX2_contains, Cond.code yX2_contains cX2_contains 2 (some .boolean), Cond.methodLink RX2 145 yX2_contains]
def wsX2_isGood : List Cond := .code yX2_isGood cX2_isGood 3 (some .boolean) :: ((wsX2_isGood_r1 ++ wsX2_isGood_r2) ++ wsX20 ++ wsX10 ++ (vx_atS RX2 134 "java/lang/IndexOutOfBoundsException" ["java/lang/RuntimeException", "java/lang/Exception"]).filter goodWord ++ (vx_atS RX2 45 "java/lang/IllegalArgumentException" ["java/lang/RuntimeException", "java/lang/Exception"]).filter goodWord)
def wsX2_chainEnd : List Cond := .code yX2_chainEnd cX2_chainEnd 2 (some .int) :: ([.fieldLink RX2 10 "CertHerd" "issuerTable" "LCertHerd$IssuerTable;", .fieldLink RX2 75 "CertHerd$IssuerTable" "chainEnds" "[I", .methodLink RX2 34 yX2_checkIssuer, .instanceMethod yX2_checkIssuer, .selects RX2 yX2_checkIssuer yX2_checkIssuer, .initialized RX2, .code yX2_checkIssuer cX2_checkIssuer 2 none, .classLink RX2 130 "java/lang/IndexOutOfBoundsException", .initialized "java/lang/IndexOutOfBoundsException", .fieldLink RX2 107 "CertHerd$IssuerTable" "count" "I"] ++ wsX20 ++ wsX10 ++ (vx_atS RX2 134 "java/lang/IndexOutOfBoundsException" ["java/lang/RuntimeException", "java/lang/Exception"]).filter goodWord)
def wsX2_chains : List Cond := .code yX2_chains cX2_chains 2 (some .int) :: ([.fieldLink RX2 10 "CertHerd" "issuerTable" "LCertHerd$IssuerTable;", .fieldLink RX2 148 "CertHerd$IssuerTable" "chainCounts" "[I", .methodLink RX2 34 yX2_checkIssuer, .instanceMethod yX2_checkIssuer, .selects RX2 yX2_checkIssuer yX2_checkIssuer, .initialized RX2, .code yX2_checkIssuer cX2_checkIssuer 2 none, .classLink RX2 130 "java/lang/IndexOutOfBoundsException", .initialized "java/lang/IndexOutOfBoundsException", .fieldLink RX2 107 "CertHerd$IssuerTable" "count" "I"] ++ wsX20 ++ wsX10 ++ (vx_atS RX2 134 "java/lang/IndexOutOfBoundsException" ["java/lang/RuntimeException", "java/lang/Exception"]).filter goodWord)
def wsX2_namesCovered_r1 : List Cond := [Cond.fieldLink RX2 19 "CertHerd" "certificateTable" "LCertHerd$CertificateTable;", Cond.fieldLink RX2 10 "CertHerd" "issuerTable" "LCertHerd$IssuerTable;", Cond.methodLink RX2 141 yX1_goodOn, Cond.instanceMethod yX1_goodOn, Cond.selects RX1 yX1_goodOn yX1_goodOn, Cond.initialized RX1, Cond.code yX1_goodOn cX1_goodOn 5 (some .int), Cond.fieldLink RX1 36 "CertHerd$IssuerTable" "count" "I", Cond.methodLink RX1 57 yX1_standsOn, Cond.instanceMethod yX1_standsOn, Cond.selects RX1 yX1_standsOn yX1_standsOn, Cond.code yX1_standsOn cX1_standsOn 4 (some .boolean), Cond.fieldLink RX1 27 "CertHerd$IssuerTable" "distrustDays" "[I", Cond.fieldLink RX1 18 "CertHerd$IssuerTable" "firstDays" "[I", Cond.fieldLink RX1 21 "CertHerd$IssuerTable" "endDays" "[I", Cond.methodLink RX1 61 yX1_isHeldBy, Cond.instanceMethod yX1_isHeldBy, Cond.selects RX1 yX1_isHeldBy yX1_isHeldBy, Cond.code yX1_isHeldBy cX1_isHeldBy 3 (some .boolean), Cond.fieldLink RX1 11 "CertHerd$IssuerTable" "firstSigners" "[I", Cond.fieldLink RX1 15 "CertHerd$IssuerTable" "secondSigners" "[I", Cond.methodLink RX1 44 yX1_isRoot, Cond.instanceMethod yX1_isRoot, Cond.selects RX1 yX1_isRoot yX1_isRoot]
def wsX2_namesCovered_r2 : List Cond := [Cond.code yX1_isRoot cX1_isRoot 2 (some .boolean), Cond.static yX2_contains, Cond.initialized RX2, Cond.code yX2_contains cX2_contains 2 (some .boolean), Cond.methodLink RX2 199 yX0_namesHeld, Cond.instanceMethod yX0_namesHeld, Cond.selects RX0 yX0_namesHeld yX0_namesHeld, Cond.initialized RX0, Cond.code yX0_namesHeld cX0_namesHeld 6 (some .int), Cond.fieldLink RX0 33 "CertHerd$CertificateTable" "count" "I", Cond.fieldLink RX0 18 "CertHerd$CertificateTable" "firstDays" "[I", Cond.fieldLink RX0 11 "CertHerd$CertificateTable" "issuerNumbers" "[I", Cond.fieldLink RX0 15 "CertHerd$CertificateTable" "subjects" "[I", Cond.methodLink RX0 41 yX0_endOf, Cond.instanceMethod yX0_endOf, Cond.selects RX0 yX0_endOf yX0_endOf, Cond.code yX0_endOf cX0_endOf 2 (some .int), Cond.fieldLink RX0 21 "CertHerd$CertificateTable" "lengths" "[I", Cond.static yX2_namesOf, Cond.code yX2_namesOf cX2_namesOf 1 (some .int)]
def wsX2_namesCovered : List Cond := .code yX2_namesCovered cX2_namesCovered 3 (some .int) :: ((wsX2_namesCovered_r1 ++ wsX2_namesCovered_r2) ++ wsX20 ++ wsX10 ++ wsX00)
def wsX2_isCovered_r1 : List Cond := [Cond.methodLink RX2 81 yX2_checkName, Cond.static yX2_checkName, Cond.initialized RX2, Cond.code yX2_checkName cX2_checkName 1 none, Cond.classLink RX2 130 "java/lang/IndexOutOfBoundsException", Cond.initialized "java/lang/IndexOutOfBoundsException", Cond.methodLink RX2 38 yX2_checkDay, Cond.static yX2_checkDay, Cond.code yX2_checkDay cX2_checkDay 1 none, Cond.classLink RX2 41 "java/lang/IllegalArgumentException", Cond.initialized "java/lang/IllegalArgumentException", Cond.methodLink RX2 151 yX2_namesCovered, Cond.instanceMethod yX2_namesCovered, Cond.selects RX2 yX2_namesCovered yX2_namesCovered, Cond.code yX2_namesCovered cX2_namesCovered 3 (some .int), Cond.fieldLink RX2 19 "CertHerd" "certificateTable" "LCertHerd$CertificateTable;", Cond.fieldLink RX2 10 "CertHerd" "issuerTable" "LCertHerd$IssuerTable;", Cond.methodLink RX2 141 yX1_goodOn, Cond.instanceMethod yX1_goodOn, Cond.selects RX1 yX1_goodOn yX1_goodOn, Cond.initialized RX1, Cond.code yX1_goodOn cX1_goodOn 5 (some .int), Cond.fieldLink RX1 36 "CertHerd$IssuerTable" "count" "I", Cond.methodLink RX1 57 yX1_standsOn]
def wsX2_isCovered_r2 : List Cond := [Cond.instanceMethod yX1_standsOn, Cond.selects RX1 yX1_standsOn yX1_standsOn, Cond.code yX1_standsOn cX1_standsOn 4 (some .boolean), Cond.fieldLink RX1 27 "CertHerd$IssuerTable" "distrustDays" "[I", Cond.fieldLink RX1 18 "CertHerd$IssuerTable" "firstDays" "[I", Cond.fieldLink RX1 21 "CertHerd$IssuerTable" "endDays" "[I", Cond.methodLink RX1 61 yX1_isHeldBy, Cond.instanceMethod yX1_isHeldBy, Cond.selects RX1 yX1_isHeldBy yX1_isHeldBy, Cond.code yX1_isHeldBy cX1_isHeldBy 3 (some .boolean), Cond.fieldLink RX1 11 "CertHerd$IssuerTable" "firstSigners" "[I", Cond.fieldLink RX1 15 "CertHerd$IssuerTable" "secondSigners" "[I", Cond.methodLink RX1 44 yX1_isRoot, Cond.instanceMethod yX1_isRoot, Cond.selects RX1 yX1_isRoot yX1_isRoot, Cond.code yX1_isRoot cX1_isRoot 2 (some .boolean), Cond.static yX2_contains, Cond.code yX2_contains cX2_contains 2 (some .boolean), Cond.methodLink RX2 199 yX0_namesHeld, Cond.instanceMethod yX0_namesHeld, Cond.selects RX0 yX0_namesHeld yX0_namesHeld, Cond.initialized RX0, Cond.code yX0_namesHeld cX0_namesHeld 6 (some .int), Cond.fieldLink RX0 33 "CertHerd$CertificateTable" "count" "I"]
def wsX2_isCovered_r3 : List Cond := [Cond.fieldLink RX0 18 "CertHerd$CertificateTable" "firstDays" "[I", Cond.fieldLink RX0 11 "CertHerd$CertificateTable" "issuerNumbers" "[I", Cond.fieldLink RX0 15 "CertHerd$CertificateTable" "subjects" "[I", Cond.methodLink RX0 41 yX0_endOf, Cond.instanceMethod yX0_endOf, Cond.selects RX0 yX0_endOf yX0_endOf, Cond.code yX0_endOf cX0_endOf 2 (some .int), Cond.fieldLink RX0 21 "CertHerd$CertificateTable" "lengths" "[I", Cond.static yX2_namesOf, Cond.code yX2_namesOf cX2_namesOf 1 (some .int), Cond.methodLink RX2 145 yX2_contains]
def wsX2_isCovered : List Cond := .code yX2_isCovered cX2_isCovered 3 (some .boolean) :: ((wsX2_isCovered_r1 ++ (wsX2_isCovered_r2 ++ wsX2_isCovered_r3)) ++ wsX20 ++ wsX10 ++ wsX00 ++ (vx_atS RX2 134 "java/lang/IndexOutOfBoundsException" ["java/lang/RuntimeException", "java/lang/Exception"]).filter goodWord ++ (vx_atS RX2 45 "java/lang/IllegalArgumentException" ["java/lang/RuntimeException", "java/lang/Exception"]).filter goodWord)
def wsX2_nextGap_r1 : List Cond := [Cond.methodLink RX2 81 yX2_checkName, Cond.static yX2_checkName, Cond.initialized RX2, Cond.code yX2_checkName cX2_checkName 1 none, Cond.classLink RX2 130 "java/lang/IndexOutOfBoundsException", Cond.initialized "java/lang/IndexOutOfBoundsException", Cond.methodLink RX2 38 yX2_checkDay, Cond.static yX2_checkDay, Cond.code yX2_checkDay cX2_checkDay 1 none, Cond.classLink RX2 41 "java/lang/IllegalArgumentException", Cond.initialized "java/lang/IllegalArgumentException", Cond.methodLink RX2 151 yX2_namesCovered, Cond.instanceMethod yX2_namesCovered, Cond.selects RX2 yX2_namesCovered yX2_namesCovered, Cond.code yX2_namesCovered cX2_namesCovered 3 (some .int), Cond.fieldLink RX2 19 "CertHerd" "certificateTable" "LCertHerd$CertificateTable;", Cond.fieldLink RX2 10 "CertHerd" "issuerTable" "LCertHerd$IssuerTable;", Cond.methodLink RX2 141 yX1_goodOn, Cond.instanceMethod yX1_goodOn, Cond.selects RX1 yX1_goodOn yX1_goodOn, Cond.initialized RX1, Cond.code yX1_goodOn cX1_goodOn 5 (some .int), Cond.fieldLink RX1 36 "CertHerd$IssuerTable" "count" "I", Cond.methodLink RX1 57 yX1_standsOn]
def wsX2_nextGap_r2 : List Cond := [Cond.instanceMethod yX1_standsOn, Cond.selects RX1 yX1_standsOn yX1_standsOn, Cond.code yX1_standsOn cX1_standsOn 4 (some .boolean), Cond.fieldLink RX1 27 "CertHerd$IssuerTable" "distrustDays" "[I", Cond.fieldLink RX1 18 "CertHerd$IssuerTable" "firstDays" "[I", Cond.fieldLink RX1 21 "CertHerd$IssuerTable" "endDays" "[I", Cond.methodLink RX1 61 yX1_isHeldBy, Cond.instanceMethod yX1_isHeldBy, Cond.selects RX1 yX1_isHeldBy yX1_isHeldBy, Cond.code yX1_isHeldBy cX1_isHeldBy 3 (some .boolean), Cond.fieldLink RX1 11 "CertHerd$IssuerTable" "firstSigners" "[I", Cond.fieldLink RX1 15 "CertHerd$IssuerTable" "secondSigners" "[I", Cond.methodLink RX1 44 yX1_isRoot, Cond.instanceMethod yX1_isRoot, Cond.selects RX1 yX1_isRoot yX1_isRoot, Cond.code yX1_isRoot cX1_isRoot 2 (some .boolean), Cond.static yX2_contains, Cond.code yX2_contains cX2_contains 2 (some .boolean), Cond.methodLink RX2 199 yX0_namesHeld, Cond.instanceMethod yX0_namesHeld, Cond.selects RX0 yX0_namesHeld yX0_namesHeld, Cond.initialized RX0, Cond.code yX0_namesHeld cX0_namesHeld 6 (some .int), Cond.fieldLink RX0 33 "CertHerd$CertificateTable" "count" "I"]
def wsX2_nextGap_r3 : List Cond := [Cond.fieldLink RX0 18 "CertHerd$CertificateTable" "firstDays" "[I", Cond.fieldLink RX0 11 "CertHerd$CertificateTable" "issuerNumbers" "[I", Cond.fieldLink RX0 15 "CertHerd$CertificateTable" "subjects" "[I", Cond.methodLink RX0 41 yX0_endOf, Cond.instanceMethod yX0_endOf, Cond.selects RX0 yX0_endOf yX0_endOf, Cond.code yX0_endOf cX0_endOf 2 (some .int), Cond.fieldLink RX0 21 "CertHerd$CertificateTable" "lengths" "[I", Cond.static yX2_namesOf, Cond.code yX2_namesOf cX2_namesOf 1 (some .int), Cond.methodLink RX2 145 yX2_contains]
def wsX2_nextGap : List Cond := .code yX2_nextGap cX2_nextGap 4 (some .int) :: ((wsX2_nextGap_r1 ++ (wsX2_nextGap_r2 ++ wsX2_nextGap_r3)) ++ wsX20 ++ wsX10 ++ wsX00 ++ (vx_atS RX2 134 "java/lang/IndexOutOfBoundsException" ["java/lang/RuntimeException", "java/lang/Exception"]).filter goodWord ++ (vx_atS RX2 45 "java/lang/IllegalArgumentException" ["java/lang/RuntimeException", "java/lang/Exception"]).filter goodWord)
def wsX2_covered_r1 : List Cond := [Cond.methodLink RX2 38 yX2_checkDay, Cond.static yX2_checkDay, Cond.initialized RX2, Cond.code yX2_checkDay cX2_checkDay 1 none, Cond.classLink RX2 41 "java/lang/IllegalArgumentException", Cond.initialized "java/lang/IllegalArgumentException", Cond.methodLink RX2 151 yX2_namesCovered, Cond.instanceMethod yX2_namesCovered, Cond.selects RX2 yX2_namesCovered yX2_namesCovered, Cond.code yX2_namesCovered cX2_namesCovered 3 (some .int), Cond.fieldLink RX2 19 "CertHerd" "certificateTable" "LCertHerd$CertificateTable;", Cond.fieldLink RX2 10 "CertHerd" "issuerTable" "LCertHerd$IssuerTable;", Cond.methodLink RX2 141 yX1_goodOn, Cond.instanceMethod yX1_goodOn, Cond.selects RX1 yX1_goodOn yX1_goodOn, Cond.initialized RX1, Cond.code yX1_goodOn cX1_goodOn 5 (some .int), Cond.fieldLink RX1 36 "CertHerd$IssuerTable" "count" "I", Cond.methodLink RX1 57 yX1_standsOn, Cond.instanceMethod yX1_standsOn, Cond.selects RX1 yX1_standsOn yX1_standsOn, Cond.code yX1_standsOn cX1_standsOn 4 (some .boolean), Cond.fieldLink RX1 27 "CertHerd$IssuerTable" "distrustDays" "[I", Cond.fieldLink RX1 18 "CertHerd$IssuerTable" "firstDays" "[I"]
def wsX2_covered_r2 : List Cond := [Cond.fieldLink RX1 21 "CertHerd$IssuerTable" "endDays" "[I", Cond.methodLink RX1 61 yX1_isHeldBy, Cond.instanceMethod yX1_isHeldBy, Cond.selects RX1 yX1_isHeldBy yX1_isHeldBy, Cond.code yX1_isHeldBy cX1_isHeldBy 3 (some .boolean), Cond.fieldLink RX1 11 "CertHerd$IssuerTable" "firstSigners" "[I", Cond.fieldLink RX1 15 "CertHerd$IssuerTable" "secondSigners" "[I", Cond.methodLink RX1 44 yX1_isRoot, Cond.instanceMethod yX1_isRoot, Cond.selects RX1 yX1_isRoot yX1_isRoot, Cond.code yX1_isRoot cX1_isRoot 2 (some .boolean), Cond.static yX2_contains, Cond.code yX2_contains cX2_contains 2 (some .boolean), Cond.methodLink RX2 199 yX0_namesHeld, Cond.instanceMethod yX0_namesHeld, Cond.selects RX0 yX0_namesHeld yX0_namesHeld, Cond.initialized RX0, Cond.code yX0_namesHeld cX0_namesHeld 6 (some .int), Cond.fieldLink RX0 33 "CertHerd$CertificateTable" "count" "I", Cond.fieldLink RX0 18 "CertHerd$CertificateTable" "firstDays" "[I", Cond.fieldLink RX0 11 "CertHerd$CertificateTable" "issuerNumbers" "[I", Cond.fieldLink RX0 15 "CertHerd$CertificateTable" "subjects" "[I", Cond.methodLink RX0 41 yX0_endOf, Cond.instanceMethod yX0_endOf]
def wsX2_covered_r3 : List Cond := [Cond.selects RX0 yX0_endOf yX0_endOf, Cond.code yX0_endOf cX0_endOf 2 (some .int), Cond.fieldLink RX0 21 "CertHerd$CertificateTable" "lengths" "[I", Cond.static yX2_namesOf, Cond.code yX2_namesOf cX2_namesOf 1 (some .int)]
def wsX2_covered : List Cond := .code yX2_covered cX2_covered 2 (some .int) :: ((wsX2_covered_r1 ++ (wsX2_covered_r2 ++ wsX2_covered_r3)) ++ wsX20 ++ wsX10 ++ wsX00 ++ (vx_atS RX2 45 "java/lang/IllegalArgumentException" ["java/lang/RuntimeException", "java/lang/Exception"]).filter goodWord)
def wsX2_namesLostWithout_r1 : List Cond := [Cond.methodLink RX2 151 yX2_namesCovered, Cond.instanceMethod yX2_namesCovered, Cond.selects RX2 yX2_namesCovered yX2_namesCovered, Cond.initialized RX2, Cond.code yX2_namesCovered cX2_namesCovered 3 (some .int), Cond.fieldLink RX2 19 "CertHerd" "certificateTable" "LCertHerd$CertificateTable;", Cond.fieldLink RX2 10 "CertHerd" "issuerTable" "LCertHerd$IssuerTable;", Cond.methodLink RX2 141 yX1_goodOn, Cond.instanceMethod yX1_goodOn, Cond.selects RX1 yX1_goodOn yX1_goodOn, Cond.initialized RX1, Cond.code yX1_goodOn cX1_goodOn 5 (some .int), Cond.fieldLink RX1 36 "CertHerd$IssuerTable" "count" "I", Cond.methodLink RX1 57 yX1_standsOn, Cond.instanceMethod yX1_standsOn, Cond.selects RX1 yX1_standsOn yX1_standsOn, Cond.code yX1_standsOn cX1_standsOn 4 (some .boolean), Cond.fieldLink RX1 27 "CertHerd$IssuerTable" "distrustDays" "[I", Cond.fieldLink RX1 18 "CertHerd$IssuerTable" "firstDays" "[I", Cond.fieldLink RX1 21 "CertHerd$IssuerTable" "endDays" "[I", Cond.methodLink RX1 61 yX1_isHeldBy, Cond.instanceMethod yX1_isHeldBy, Cond.selects RX1 yX1_isHeldBy yX1_isHeldBy, Cond.code yX1_isHeldBy cX1_isHeldBy 3 (some .boolean)]
def wsX2_namesLostWithout_r2 : List Cond := [Cond.fieldLink RX1 11 "CertHerd$IssuerTable" "firstSigners" "[I", Cond.fieldLink RX1 15 "CertHerd$IssuerTable" "secondSigners" "[I", Cond.methodLink RX1 44 yX1_isRoot, Cond.instanceMethod yX1_isRoot, Cond.selects RX1 yX1_isRoot yX1_isRoot, Cond.code yX1_isRoot cX1_isRoot 2 (some .boolean), Cond.static yX2_contains, Cond.code yX2_contains cX2_contains 2 (some .boolean), Cond.methodLink RX2 199 yX0_namesHeld, Cond.instanceMethod yX0_namesHeld, Cond.selects RX0 yX0_namesHeld yX0_namesHeld, Cond.initialized RX0, Cond.code yX0_namesHeld cX0_namesHeld 6 (some .int), Cond.fieldLink RX0 33 "CertHerd$CertificateTable" "count" "I", Cond.fieldLink RX0 18 "CertHerd$CertificateTable" "firstDays" "[I", Cond.fieldLink RX0 11 "CertHerd$CertificateTable" "issuerNumbers" "[I", Cond.fieldLink RX0 15 "CertHerd$CertificateTable" "subjects" "[I", Cond.methodLink RX0 41 yX0_endOf, Cond.instanceMethod yX0_endOf, Cond.selects RX0 yX0_endOf yX0_endOf, Cond.code yX0_endOf cX0_endOf 2 (some .int), Cond.fieldLink RX0 21 "CertHerd$CertificateTable" "lengths" "[I", Cond.static yX2_namesOf, Cond.code yX2_namesOf cX2_namesOf 1 (some .int)]
def wsX2_namesLostWithout : List Cond := .code yX2_namesLostWithout cX2_namesLostWithout 3 (some .int) :: ((wsX2_namesLostWithout_r1 ++ wsX2_namesLostWithout_r2) ++ wsX20 ++ wsX10 ++ wsX00)
def wsX2_breaks_r1 : List Cond := [Cond.methodLink RX2 34 yX2_checkIssuer, Cond.instanceMethod yX2_checkIssuer, Cond.selects RX2 yX2_checkIssuer yX2_checkIssuer, Cond.initialized RX2, Cond.code yX2_checkIssuer cX2_checkIssuer 2 none, Cond.classLink RX2 130 "java/lang/IndexOutOfBoundsException", Cond.initialized "java/lang/IndexOutOfBoundsException", Cond.fieldLink RX2 10 "CertHerd" "issuerTable" "LCertHerd$IssuerTable;", Cond.fieldLink RX2 107 "CertHerd$IssuerTable" "count" "I", Cond.methodLink RX2 38 yX2_checkDay, Cond.static yX2_checkDay, Cond.code yX2_checkDay cX2_checkDay 1 none, Cond.classLink RX2 41 "java/lang/IllegalArgumentException", Cond.initialized "java/lang/IllegalArgumentException", Cond.methodLink RX2 154 yX2_namesLostWithout, Cond.instanceMethod yX2_namesLostWithout, Cond.selects RX2 yX2_namesLostWithout yX2_namesLostWithout, Cond.code yX2_namesLostWithout cX2_namesLostWithout 3 (some .int), Cond.methodLink RX2 151 yX2_namesCovered, Cond.instanceMethod yX2_namesCovered, Cond.selects RX2 yX2_namesCovered yX2_namesCovered, Cond.code yX2_namesCovered cX2_namesCovered 3 (some .int), Cond.fieldLink RX2 19 "CertHerd" "certificateTable" "LCertHerd$CertificateTable;", Cond.methodLink RX2 141 yX1_goodOn]
def wsX2_breaks_r2 : List Cond := [Cond.instanceMethod yX1_goodOn, Cond.selects RX1 yX1_goodOn yX1_goodOn, Cond.initialized RX1, Cond.code yX1_goodOn cX1_goodOn 5 (some .int), Cond.fieldLink RX1 36 "CertHerd$IssuerTable" "count" "I", Cond.methodLink RX1 57 yX1_standsOn, Cond.instanceMethod yX1_standsOn, Cond.selects RX1 yX1_standsOn yX1_standsOn, Cond.code yX1_standsOn cX1_standsOn 4 (some .boolean), Cond.fieldLink RX1 27 "CertHerd$IssuerTable" "distrustDays" "[I", Cond.fieldLink RX1 18 "CertHerd$IssuerTable" "firstDays" "[I", Cond.fieldLink RX1 21 "CertHerd$IssuerTable" "endDays" "[I", Cond.methodLink RX1 61 yX1_isHeldBy, Cond.instanceMethod yX1_isHeldBy, Cond.selects RX1 yX1_isHeldBy yX1_isHeldBy, Cond.code yX1_isHeldBy cX1_isHeldBy 3 (some .boolean), Cond.fieldLink RX1 11 "CertHerd$IssuerTable" "firstSigners" "[I", Cond.fieldLink RX1 15 "CertHerd$IssuerTable" "secondSigners" "[I", Cond.methodLink RX1 44 yX1_isRoot, Cond.instanceMethod yX1_isRoot, Cond.selects RX1 yX1_isRoot yX1_isRoot, Cond.code yX1_isRoot cX1_isRoot 2 (some .boolean), Cond.static yX2_contains, Cond.code yX2_contains cX2_contains 2 (some .boolean)]
def wsX2_breaks_r3 : List Cond := [Cond.methodLink RX2 199 yX0_namesHeld, Cond.instanceMethod yX0_namesHeld, Cond.selects RX0 yX0_namesHeld yX0_namesHeld, Cond.initialized RX0, Cond.code yX0_namesHeld cX0_namesHeld 6 (some .int), Cond.fieldLink RX0 33 "CertHerd$CertificateTable" "count" "I", Cond.fieldLink RX0 18 "CertHerd$CertificateTable" "firstDays" "[I", Cond.fieldLink RX0 11 "CertHerd$CertificateTable" "issuerNumbers" "[I", Cond.fieldLink RX0 15 "CertHerd$CertificateTable" "subjects" "[I", Cond.methodLink RX0 41 yX0_endOf, Cond.instanceMethod yX0_endOf, Cond.selects RX0 yX0_endOf yX0_endOf, Cond.code yX0_endOf cX0_endOf 2 (some .int), Cond.fieldLink RX0 21 "CertHerd$CertificateTable" "lengths" "[I", Cond.static yX2_namesOf, Cond.code yX2_namesOf cX2_namesOf 1 (some .int)]
def wsX2_breaks : List Cond := .code yX2_breaks cX2_breaks 3 (some .int) :: ((wsX2_breaks_r1 ++ (wsX2_breaks_r2 ++ wsX2_breaks_r3)) ++ wsX20 ++ wsX10 ++ wsX00 ++ (vx_atS RX2 134 "java/lang/IndexOutOfBoundsException" ["java/lang/RuntimeException", "java/lang/Exception"]).filter goodWord ++ (vx_atS RX2 45 "java/lang/IllegalArgumentException" ["java/lang/RuntimeException", "java/lang/Exception"]).filter goodWord)
def wsJ6_bitCount_0f7a4 : List Cond := .code yJ6_bitCount_0f7a4 cJ6_bitCount_0f7a4 1 (some .int) :: ([.constant RJ6 265 (1431655765), .constant RJ6 266 (858993459), .constant RJ6 267 (252645135)])
def wsX2_weakest_r1 : List Cond := [Cond.fieldLink RX2 10 "CertHerd" "issuerTable" "LCertHerd$IssuerTable;", Cond.fieldLink RX2 107 "CertHerd$IssuerTable" "count" "I", Cond.methodLink RX2 38 yX2_checkDay, Cond.static yX2_checkDay, Cond.initialized RX2, Cond.code yX2_checkDay cX2_checkDay 1 none, Cond.classLink RX2 41 "java/lang/IllegalArgumentException", Cond.initialized "java/lang/IllegalArgumentException", Cond.methodLink RX2 154 yX2_namesLostWithout, Cond.instanceMethod yX2_namesLostWithout, Cond.selects RX2 yX2_namesLostWithout yX2_namesLostWithout, Cond.code yX2_namesLostWithout cX2_namesLostWithout 3 (some .int), Cond.methodLink RX2 151 yX2_namesCovered, Cond.instanceMethod yX2_namesCovered, Cond.selects RX2 yX2_namesCovered yX2_namesCovered, Cond.code yX2_namesCovered cX2_namesCovered 3 (some .int), Cond.fieldLink RX2 19 "CertHerd" "certificateTable" "LCertHerd$CertificateTable;", Cond.methodLink RX2 141 yX1_goodOn, Cond.instanceMethod yX1_goodOn, Cond.selects RX1 yX1_goodOn yX1_goodOn, Cond.initialized RX1, Cond.code yX1_goodOn cX1_goodOn 5 (some .int), Cond.fieldLink RX1 36 "CertHerd$IssuerTable" "count" "I", Cond.methodLink RX1 57 yX1_standsOn]
def wsX2_weakest_r2 : List Cond := [Cond.instanceMethod yX1_standsOn, Cond.selects RX1 yX1_standsOn yX1_standsOn, Cond.code yX1_standsOn cX1_standsOn 4 (some .boolean), Cond.fieldLink RX1 27 "CertHerd$IssuerTable" "distrustDays" "[I", Cond.fieldLink RX1 18 "CertHerd$IssuerTable" "firstDays" "[I", Cond.fieldLink RX1 21 "CertHerd$IssuerTable" "endDays" "[I", Cond.methodLink RX1 61 yX1_isHeldBy, Cond.instanceMethod yX1_isHeldBy, Cond.selects RX1 yX1_isHeldBy yX1_isHeldBy, Cond.code yX1_isHeldBy cX1_isHeldBy 3 (some .boolean), Cond.fieldLink RX1 11 "CertHerd$IssuerTable" "firstSigners" "[I", Cond.fieldLink RX1 15 "CertHerd$IssuerTable" "secondSigners" "[I", Cond.methodLink RX1 44 yX1_isRoot, Cond.instanceMethod yX1_isRoot, Cond.selects RX1 yX1_isRoot yX1_isRoot, Cond.code yX1_isRoot cX1_isRoot 2 (some .boolean), Cond.static yX2_contains, Cond.code yX2_contains cX2_contains 2 (some .boolean), Cond.methodLink RX2 199 yX0_namesHeld, Cond.instanceMethod yX0_namesHeld, Cond.selects RX0 yX0_namesHeld yX0_namesHeld, Cond.initialized RX0, Cond.code yX0_namesHeld cX0_namesHeld 6 (some .int), Cond.fieldLink RX0 33 "CertHerd$CertificateTable" "count" "I"]
def wsX2_weakest_r3 : List Cond := [Cond.fieldLink RX0 18 "CertHerd$CertificateTable" "firstDays" "[I", Cond.fieldLink RX0 11 "CertHerd$CertificateTable" "issuerNumbers" "[I", Cond.fieldLink RX0 15 "CertHerd$CertificateTable" "subjects" "[I", Cond.methodLink RX0 41 yX0_endOf, Cond.instanceMethod yX0_endOf, Cond.selects RX0 yX0_endOf yX0_endOf, Cond.code yX0_endOf cX0_endOf 2 (some .int), Cond.fieldLink RX0 21 "CertHerd$CertificateTable" "lengths" "[I", Cond.static yX2_namesOf, Cond.code yX2_namesOf cX2_namesOf 1 (some .int), Cond.methodLink RX2 157 yJ6_bitCount_0f7a4, Cond.static yJ6_bitCount_0f7a4, Cond.initialized RJ6, Cond.code yJ6_bitCount_0f7a4 cJ6_bitCount_0f7a4 1 (some .int), Cond.constant RJ6 265 (1431655765), Cond.constant RJ6 266 (858993459), Cond.constant RJ6 267 (252645135)]
def wsX2_weakest : List Cond := .code yX2_weakest cX2_weakest 6 (some .int) :: ((wsX2_weakest_r1 ++ (wsX2_weakest_r2 ++ wsX2_weakest_r3)) ++ wsX20 ++ wsX10 ++ wsX00 ++ (vx_atS RX2 45 "java/lang/IllegalArgumentException" ["java/lang/RuntimeException", "java/lang/Exception"]).filter goodWord)
def wsX3_init : List Cond := .code yX3_init cX3_init 1 none :: ([.methodLink RX3 1 objectInit, .instanceMethod objectInit, .code objectInit ⟨#[0xb1]⟩ 1 none, .fieldLink RX3 7 "CertHerdModel" "seed" "I", .arrayClass .int, .fieldLink RX3 13 "CertHerdModel" "froms" "[I", .fieldLink RX3 17 "CertHerdModel" "tos" "[I", .fieldLink RX3 20 "CertHerdModel" "limits" "[I", .fieldLink RX3 23 "CertHerdModel" "firstSigners" "[I", .fieldLink RX3 26 "CertHerdModel" "secondSigners" "[I", .fieldLink RX3 29 "CertHerdModel" "distrusted" "[I", .fieldLink RX3 32 "CertHerdModel" "pins" "[I", .arrayClass .boolean, .fieldLink RX3 35 "CertHerdModel" "areGood" "[Z", .fieldLink RX3 39 "CertHerdModel" "endDays" "[I", .fieldLink RX3 42 "CertHerdModel" "chainMany" "[I", .fieldLink RX3 45 "CertHerdModel" "subjects" "[I", .fieldLink RX3 48 "CertHerdModel" "issuers" "[I", .fieldLink RX3 51 "CertHerdModel" "firsts" "[I", .fieldLink RX3 54 "CertHerdModel" "lengths" "[I", .fieldLink RX3 57 "CertHerdModel" "offsets" "[I", .fieldLink RX3 60 "CertHerdModel" "renewals" "[I", .fieldLink RX3 63 "CertHerdModel" "wasSeen" "[Z", .fieldLink RX3 66 "CertHerdModel" "thrown" "I"] ++ wsX30)
def wsX3_thrown : List Cond := .code yX3_thrown cX3_thrown 1 (some .int) :: ([.fieldLink RX3 66 "CertHerdModel" "thrown" "I"] ++ wsX30)
def wsX3_fails : List Cond := .code yX3_fails cX3_fails 2 (some .int) :: ([.fieldLink RX3 66 "CertHerdModel" "thrown" "I"] ++ wsX30)
def wsX3_in : List Cond := .code yX3_in cX3_in 3 (some .boolean) :: ([])
def wsX3_isIssuer : List Cond := .code yX3_isIssuer cX3_isIssuer 2 (some .boolean) :: ([.fieldLink RX3 69 "CertHerdModel" "issuerMany" "I", .methodLink RX3 72 yX3_in, .static yX3_in, .initialized RX3, .code yX3_in cX3_in 3 (some .boolean)] ++ wsX30)
def wsX3_isCert : List Cond := .code yX3_isCert cX3_isCert 2 (some .boolean) :: ([.fieldLink RX3 76 "CertHerdModel" "certMany" "I", .methodLink RX3 72 yX3_in, .static yX3_in, .initialized RX3, .code yX3_in cX3_in 3 (some .boolean)] ++ wsX30)
def wsX3_isName : List Cond := .code yX3_isName cX3_isName 1 (some .boolean) :: ([.methodLink RX3 72 yX3_in, .static yX3_in, .initialized RX3, .code yX3_in cX3_in 3 (some .boolean)])
def wsX3_isDay : List Cond := .code yX3_isDay cX3_isDay 1 (some .boolean) :: ([.methodLink RX3 72 yX3_in, .static yX3_in, .initialized RX3, .code yX3_in cX3_in 3 (some .boolean)])
def wsX3_addIssuer : List Cond := .code yX3_addIssuer cX3_addIssuer 6 (some .int) :: ([.fieldLink RX3 69 "CertHerdModel" "issuerMany" "I", .fieldLink RX3 66 "CertHerdModel" "thrown" "I", .fieldLink RX3 13 "CertHerdModel" "froms" "[I", .fieldLink RX3 17 "CertHerdModel" "tos" "[I", .fieldLink RX3 20 "CertHerdModel" "limits" "[I", .fieldLink RX3 23 "CertHerdModel" "firstSigners" "[I", .fieldLink RX3 26 "CertHerdModel" "secondSigners" "[I", .fieldLink RX3 29 "CertHerdModel" "distrusted" "[I", .methodLink RX3 72 yX3_in, .static yX3_in, .initialized RX3, .code yX3_in cX3_in 3 (some .boolean), .methodLink RX3 79 yX3_isIssuer, .instanceMethod yX3_isIssuer, .selects RX3 yX3_isIssuer yX3_isIssuer, .code yX3_isIssuer cX3_isIssuer 2 (some .boolean)] ++ wsX30)
def wsX3_ends : List Cond := .code yX3_ends cX3_ends 6 (some .int) :: ([.fieldLink RX3 23 "CertHerdModel" "firstSigners" "[I", .fieldLink RX3 26 "CertHerdModel" "secondSigners" "[I", .fieldLink RX3 39 "CertHerdModel" "endDays" "[I", .fieldLink RX3 17 "CertHerdModel" "tos" "[I"] ++ wsX30)
def wsX3_cross : List Cond := .code yX3_cross cX3_cross 4 (some .int) :: ([.fieldLink RX3 66 "CertHerdModel" "thrown" "I", .fieldLink RX3 23 "CertHerdModel" "firstSigners" "[I", .fieldLink RX3 26 "CertHerdModel" "secondSigners" "[I", .methodLink RX3 79 yX3_isIssuer, .instanceMethod yX3_isIssuer, .selects RX3 yX3_isIssuer yX3_isIssuer, .initialized RX3, .code yX3_isIssuer cX3_isIssuer 2 (some .boolean), .fieldLink RX3 69 "CertHerdModel" "issuerMany" "I", .methodLink RX3 72 yX3_in, .static yX3_in, .code yX3_in cX3_in 3 (some .boolean), .methodLink RX3 83 yX3_fails, .instanceMethod yX3_fails, .selects RX3 yX3_fails yX3_fails, .code yX3_fails cX3_fails 2 (some .int), .methodLink RX3 87 yX3_ends, .instanceMethod yX3_ends, .selects RX3 yX3_ends yX3_ends, .code yX3_ends cX3_ends 6 (some .int), .fieldLink RX3 39 "CertHerdModel" "endDays" "[I", .fieldLink RX3 17 "CertHerdModel" "tos" "[I"] ++ wsX30)
def wsX3_distrust : List Cond := .code yX3_distrust cX3_distrust 4 (some .int) :: ([.fieldLink RX3 66 "CertHerdModel" "thrown" "I", .fieldLink RX3 29 "CertHerdModel" "distrusted" "[I", .methodLink RX3 79 yX3_isIssuer, .instanceMethod yX3_isIssuer, .selects RX3 yX3_isIssuer yX3_isIssuer, .initialized RX3, .code yX3_isIssuer cX3_isIssuer 2 (some .boolean), .fieldLink RX3 69 "CertHerdModel" "issuerMany" "I", .methodLink RX3 72 yX3_in, .static yX3_in, .code yX3_in cX3_in 3 (some .boolean), .methodLink RX3 90 yX3_isDay, .static yX3_isDay, .code yX3_isDay cX3_isDay 1 (some .boolean)] ++ wsX30)
def wsX3_pin : List Cond := .code yX3_pin cX3_pin 4 (some .int) :: ([.fieldLink RX3 66 "CertHerdModel" "thrown" "I", .fieldLink RX3 32 "CertHerdModel" "pins" "[I", .methodLink RX3 93 yX3_isName, .static yX3_isName, .initialized RX3, .code yX3_isName cX3_isName 1 (some .boolean), .methodLink RX3 72 yX3_in, .static yX3_in, .code yX3_in cX3_in 3 (some .boolean)] ++ wsX30)
def wsX3_setSeed : List Cond := .code yX3_setSeed cX3_setSeed 2 none :: ([.fieldLink RX3 66 "CertHerdModel" "thrown" "I", .fieldLink RX3 7 "CertHerdModel" "seed" "I"] ++ wsX30)
def wsX3_holds : List Cond := .code yX3_holds cX3_holds 8 (some .boolean) :: ([.fieldLink RX3 13 "CertHerdModel" "froms" "[I", .fieldLink RX3 17 "CertHerdModel" "tos" "[I", .fieldLink RX3 29 "CertHerdModel" "distrusted" "[I", .fieldLink RX3 23 "CertHerdModel" "firstSigners" "[I", .fieldLink RX3 26 "CertHerdModel" "secondSigners" "[I", .fieldLink RX3 35 "CertHerdModel" "areGood" "[Z", .methodLink RX3 72 yX3_in, .static yX3_in, .initialized RX3, .code yX3_in cX3_in 3 (some .boolean)] ++ wsX30)
def wsX3_ways : List Cond := .code yX3_ways cX3_ways 5 (some .int) :: ([.fieldLink RX3 23 "CertHerdModel" "firstSigners" "[I", .fieldLink RX3 26 "CertHerdModel" "secondSigners" "[I", .fieldLink RX3 42 "CertHerdModel" "chainMany" "[I"] ++ wsX30)
def wsX3_covers : List Cond := .code yX3_covers cX3_covers 2 (some .boolean) :: ([])
def wsX3_issued : List Cond := .code yX3_issued cX3_issued 4 (some .int) :: ([.fieldLink RX3 76 "CertHerdModel" "certMany" "I", .fieldLink RX3 48 "CertHerdModel" "issuers" "[I", .fieldLink RX3 51 "CertHerdModel" "firsts" "[I", .fieldLink RX3 96 "CertHerdModel" "today" "I"] ++ wsX30)
def wsX3_canIssue_r1 : List Cond := [Cond.fieldLink RX3 96 "CertHerdModel" "today" "I", Cond.fieldLink RX3 20 "CertHerdModel" "limits" "[I", Cond.fieldLink RX3 76 "CertHerdModel" "certMany" "I", Cond.fieldLink RX3 32 "CertHerdModel" "pins" "[I", Cond.methodLink RX3 99 yX3_holds, Cond.instanceMethod yX3_holds, Cond.selects RX3 yX3_holds yX3_holds, Cond.initialized RX3, Cond.code yX3_holds cX3_holds 8 (some .boolean), Cond.fieldLink RX3 13 "CertHerdModel" "froms" "[I", Cond.fieldLink RX3 17 "CertHerdModel" "tos" "[I", Cond.fieldLink RX3 29 "CertHerdModel" "distrusted" "[I", Cond.fieldLink RX3 23 "CertHerdModel" "firstSigners" "[I", Cond.fieldLink RX3 26 "CertHerdModel" "secondSigners" "[I", Cond.fieldLink RX3 35 "CertHerdModel" "areGood" "[Z", Cond.methodLink RX3 72 yX3_in, Cond.static yX3_in, Cond.code yX3_in cX3_in 3 (some .boolean), Cond.methodLink RX3 102 yX3_issued, Cond.instanceMethod yX3_issued, Cond.selects RX3 yX3_issued yX3_issued, Cond.code yX3_issued cX3_issued 4 (some .int), Cond.fieldLink RX3 48 "CertHerdModel" "issuers" "[I", Cond.fieldLink RX3 51 "CertHerdModel" "firsts" "[I"]
def wsX3_canIssue_r2 : List Cond := [Cond.methodLink RX3 105 yX3_covers, Cond.static yX3_covers, Cond.code yX3_covers cX3_covers 2 (some .boolean)]
def wsX3_canIssue : List Cond := .code yX3_canIssue cX3_canIssue 5 (some .boolean) :: ((wsX3_canIssue_r1 ++ wsX3_canIssue_r2) ++ wsX30)
def wsX3_makes : List Cond := .code yX3_makes cX3_makes 4 (some .int) :: ([.fieldLink RX3 7 "CertHerdModel" "seed" "I", .constant RX3 109 (1103515245), .fieldLink RX3 45 "CertHerdModel" "subjects" "[I", .fieldLink RX3 76 "CertHerdModel" "certMany" "I", .fieldLink RX3 48 "CertHerdModel" "issuers" "[I", .fieldLink RX3 51 "CertHerdModel" "firsts" "[I", .fieldLink RX3 96 "CertHerdModel" "today" "I", .fieldLink RX3 54 "CertHerdModel" "lengths" "[I", .fieldLink RX3 57 "CertHerdModel" "offsets" "[I", .fieldLink RX3 60 "CertHerdModel" "renewals" "[I"] ++ wsX30)
def wsX3_issue_r1 : List Cond := [Cond.fieldLink RX3 66 "CertHerdModel" "thrown" "I", Cond.methodLink RX3 79 yX3_isIssuer, Cond.instanceMethod yX3_isIssuer, Cond.selects RX3 yX3_isIssuer yX3_isIssuer, Cond.initialized RX3, Cond.code yX3_isIssuer cX3_isIssuer 2 (some .boolean), Cond.fieldLink RX3 69 "CertHerdModel" "issuerMany" "I", Cond.methodLink RX3 72 yX3_in, Cond.static yX3_in, Cond.code yX3_in cX3_in 3 (some .boolean), Cond.methodLink RX3 110 yX3_canIssue, Cond.instanceMethod yX3_canIssue, Cond.selects RX3 yX3_canIssue yX3_canIssue, Cond.code yX3_canIssue cX3_canIssue 5 (some .boolean), Cond.fieldLink RX3 96 "CertHerdModel" "today" "I", Cond.fieldLink RX3 20 "CertHerdModel" "limits" "[I", Cond.fieldLink RX3 76 "CertHerdModel" "certMany" "I", Cond.fieldLink RX3 32 "CertHerdModel" "pins" "[I", Cond.methodLink RX3 99 yX3_holds, Cond.instanceMethod yX3_holds, Cond.selects RX3 yX3_holds yX3_holds, Cond.code yX3_holds cX3_holds 8 (some .boolean), Cond.fieldLink RX3 13 "CertHerdModel" "froms" "[I", Cond.fieldLink RX3 17 "CertHerdModel" "tos" "[I"]
def wsX3_issue_r2 : List Cond := [Cond.fieldLink RX3 29 "CertHerdModel" "distrusted" "[I", Cond.fieldLink RX3 23 "CertHerdModel" "firstSigners" "[I", Cond.fieldLink RX3 26 "CertHerdModel" "secondSigners" "[I", Cond.fieldLink RX3 35 "CertHerdModel" "areGood" "[Z", Cond.methodLink RX3 102 yX3_issued, Cond.instanceMethod yX3_issued, Cond.selects RX3 yX3_issued yX3_issued, Cond.code yX3_issued cX3_issued 4 (some .int), Cond.fieldLink RX3 48 "CertHerdModel" "issuers" "[I", Cond.fieldLink RX3 51 "CertHerdModel" "firsts" "[I", Cond.methodLink RX3 105 yX3_covers, Cond.static yX3_covers, Cond.code yX3_covers cX3_covers 2 (some .boolean), Cond.methodLink RX3 113 yX3_makes, Cond.instanceMethod yX3_makes, Cond.selects RX3 yX3_makes yX3_makes, Cond.code yX3_makes cX3_makes 4 (some .int), Cond.fieldLink RX3 7 "CertHerdModel" "seed" "I", Cond.constant RX3 109 (1103515245), Cond.fieldLink RX3 45 "CertHerdModel" "subjects" "[I", Cond.fieldLink RX3 54 "CertHerdModel" "lengths" "[I", Cond.fieldLink RX3 57 "CertHerdModel" "offsets" "[I", Cond.fieldLink RX3 60 "CertHerdModel" "renewals" "[I"]
def wsX3_issue : List Cond := .code yX3_issue cX3_issue 4 (some .int) :: ((wsX3_issue_r1 ++ wsX3_issue_r2) ++ wsX30)
def wsX3_last : List Cond := .code yX3_last cX3_last 2 (some .int) :: ([.fieldLink RX3 51 "CertHerdModel" "firsts" "[I", .fieldLink RX3 54 "CertHerdModel" "lengths" "[I"] ++ wsX30)
def wsX3_due : List Cond := .code yX3_due cX3_due 2 (some .int) :: ([.fieldLink RX3 51 "CertHerdModel" "firsts" "[I", .fieldLink RX3 54 "CertHerdModel" "lengths" "[I", .fieldLink RX3 57 "CertHerdModel" "offsets" "[I"] ++ wsX30)
def wsX3_waits : List Cond := .code yX3_waits cX3_waits 2 (some .boolean) :: ([.fieldLink RX3 96 "CertHerdModel" "today" "I", .fieldLink RX3 60 "CertHerdModel" "renewals" "[I", .methodLink RX3 117 yX3_due, .instanceMethod yX3_due, .selects RX3 yX3_due yX3_due, .initialized RX3, .code yX3_due cX3_due 2 (some .int), .fieldLink RX3 51 "CertHerdModel" "firsts" "[I", .fieldLink RX3 54 "CertHerdModel" "lengths" "[I", .fieldLink RX3 57 "CertHerdModel" "offsets" "[I", .methodLink RX3 120 yX3_last, .instanceMethod yX3_last, .selects RX3 yX3_last yX3_last, .code yX3_last cX3_last 2 (some .int)] ++ wsX30)
def wsX3_nextWaiting : List Cond := .code yX3_nextWaiting cX3_nextWaiting 4 (some .int) :: ([.fieldLink RX3 63 "CertHerdModel" "wasSeen" "[Z", .methodLink RX3 123 yX3_waits, .instanceMethod yX3_waits, .selects RX3 yX3_waits yX3_waits, .initialized RX3, .code yX3_waits cX3_waits 2 (some .boolean), .fieldLink RX3 96 "CertHerdModel" "today" "I", .fieldLink RX3 60 "CertHerdModel" "renewals" "[I", .methodLink RX3 117 yX3_due, .instanceMethod yX3_due, .selects RX3 yX3_due yX3_due, .code yX3_due cX3_due 2 (some .int), .fieldLink RX3 51 "CertHerdModel" "firsts" "[I", .fieldLink RX3 54 "CertHerdModel" "lengths" "[I", .fieldLink RX3 57 "CertHerdModel" "offsets" "[I", .methodLink RX3 120 yX3_last, .instanceMethod yX3_last, .selects RX3 yX3_last yX3_last, .code yX3_last cX3_last 2 (some .int)] ++ wsX30)
def wsX3_sees : List Cond := .code yX3_sees cX3_sees 3 none :: ([.fieldLink RX3 63 "CertHerdModel" "wasSeen" "[Z"] ++ wsX30)
def wsX3_day_r1 : List Cond := [Cond.fieldLink RX3 76 "CertHerdModel" "certMany" "I", Cond.fieldLink RX3 96 "CertHerdModel" "today" "I", Cond.fieldLink RX3 63 "CertHerdModel" "wasSeen" "[Z", Cond.fieldLink RX3 48 "CertHerdModel" "issuers" "[I", Cond.fieldLink RX3 45 "CertHerdModel" "subjects" "[I", Cond.fieldLink RX3 60 "CertHerdModel" "renewals" "[I", Cond.fieldLink RX3 54 "CertHerdModel" "lengths" "[I", Cond.methodLink RX3 126 yX3_sees, Cond.instanceMethod yX3_sees, Cond.selects RX3 yX3_sees yX3_sees, Cond.initialized RX3, Cond.code yX3_sees cX3_sees 3 none, Cond.methodLink RX3 130 yX3_nextWaiting, Cond.instanceMethod yX3_nextWaiting, Cond.selects RX3 yX3_nextWaiting yX3_nextWaiting, Cond.code yX3_nextWaiting cX3_nextWaiting 4 (some .int), Cond.methodLink RX3 123 yX3_waits, Cond.instanceMethod yX3_waits, Cond.selects RX3 yX3_waits yX3_waits, Cond.code yX3_waits cX3_waits 2 (some .boolean), Cond.methodLink RX3 117 yX3_due, Cond.instanceMethod yX3_due, Cond.selects RX3 yX3_due yX3_due, Cond.code yX3_due cX3_due 2 (some .int)]
def wsX3_day_r2 : List Cond := [Cond.fieldLink RX3 51 "CertHerdModel" "firsts" "[I", Cond.fieldLink RX3 57 "CertHerdModel" "offsets" "[I", Cond.methodLink RX3 120 yX3_last, Cond.instanceMethod yX3_last, Cond.selects RX3 yX3_last yX3_last, Cond.code yX3_last cX3_last 2 (some .int), Cond.methodLink RX3 110 yX3_canIssue, Cond.instanceMethod yX3_canIssue, Cond.selects RX3 yX3_canIssue yX3_canIssue, Cond.code yX3_canIssue cX3_canIssue 5 (some .boolean), Cond.fieldLink RX3 20 "CertHerdModel" "limits" "[I", Cond.fieldLink RX3 32 "CertHerdModel" "pins" "[I", Cond.methodLink RX3 99 yX3_holds, Cond.instanceMethod yX3_holds, Cond.selects RX3 yX3_holds yX3_holds, Cond.code yX3_holds cX3_holds 8 (some .boolean), Cond.fieldLink RX3 13 "CertHerdModel" "froms" "[I", Cond.fieldLink RX3 17 "CertHerdModel" "tos" "[I", Cond.fieldLink RX3 29 "CertHerdModel" "distrusted" "[I", Cond.fieldLink RX3 23 "CertHerdModel" "firstSigners" "[I", Cond.fieldLink RX3 26 "CertHerdModel" "secondSigners" "[I", Cond.fieldLink RX3 35 "CertHerdModel" "areGood" "[Z", Cond.methodLink RX3 72 yX3_in, Cond.static yX3_in]
def wsX3_day_r3 : List Cond := [Cond.code yX3_in cX3_in 3 (some .boolean), Cond.methodLink RX3 102 yX3_issued, Cond.instanceMethod yX3_issued, Cond.selects RX3 yX3_issued yX3_issued, Cond.code yX3_issued cX3_issued 4 (some .int), Cond.methodLink RX3 105 yX3_covers, Cond.static yX3_covers, Cond.code yX3_covers cX3_covers 2 (some .boolean), Cond.methodLink RX3 113 yX3_makes, Cond.instanceMethod yX3_makes, Cond.selects RX3 yX3_makes yX3_makes, Cond.code yX3_makes cX3_makes 4 (some .int), Cond.fieldLink RX3 7 "CertHerdModel" "seed" "I", Cond.constant RX3 109 (1103515245)]
def wsX3_day : List Cond := .code yX3_day cX3_day 4 (some .int) :: ((wsX3_day_r1 ++ (wsX3_day_r2 ++ wsX3_day_r3)) ++ wsX30)
def wsX3_pass_r1 : List Cond := [Cond.fieldLink RX3 96 "CertHerdModel" "today" "I", Cond.fieldLink RX3 66 "CertHerdModel" "thrown" "I", Cond.methodLink RX3 72 yX3_in, Cond.static yX3_in, Cond.initialized RX3, Cond.code yX3_in cX3_in 3 (some .boolean), Cond.methodLink RX3 133 yX3_day, Cond.instanceMethod yX3_day, Cond.selects RX3 yX3_day yX3_day, Cond.code yX3_day cX3_day 4 (some .int), Cond.fieldLink RX3 76 "CertHerdModel" "certMany" "I", Cond.fieldLink RX3 63 "CertHerdModel" "wasSeen" "[Z", Cond.fieldLink RX3 48 "CertHerdModel" "issuers" "[I", Cond.fieldLink RX3 45 "CertHerdModel" "subjects" "[I", Cond.fieldLink RX3 60 "CertHerdModel" "renewals" "[I", Cond.fieldLink RX3 54 "CertHerdModel" "lengths" "[I", Cond.methodLink RX3 126 yX3_sees, Cond.instanceMethod yX3_sees, Cond.selects RX3 yX3_sees yX3_sees, Cond.code yX3_sees cX3_sees 3 none, Cond.methodLink RX3 130 yX3_nextWaiting, Cond.instanceMethod yX3_nextWaiting, Cond.selects RX3 yX3_nextWaiting yX3_nextWaiting, Cond.code yX3_nextWaiting cX3_nextWaiting 4 (some .int)]
def wsX3_pass_r2 : List Cond := [Cond.methodLink RX3 123 yX3_waits, Cond.instanceMethod yX3_waits, Cond.selects RX3 yX3_waits yX3_waits, Cond.code yX3_waits cX3_waits 2 (some .boolean), Cond.methodLink RX3 117 yX3_due, Cond.instanceMethod yX3_due, Cond.selects RX3 yX3_due yX3_due, Cond.code yX3_due cX3_due 2 (some .int), Cond.fieldLink RX3 51 "CertHerdModel" "firsts" "[I", Cond.fieldLink RX3 57 "CertHerdModel" "offsets" "[I", Cond.methodLink RX3 120 yX3_last, Cond.instanceMethod yX3_last, Cond.selects RX3 yX3_last yX3_last, Cond.code yX3_last cX3_last 2 (some .int), Cond.methodLink RX3 110 yX3_canIssue, Cond.instanceMethod yX3_canIssue, Cond.selects RX3 yX3_canIssue yX3_canIssue, Cond.code yX3_canIssue cX3_canIssue 5 (some .boolean), Cond.fieldLink RX3 20 "CertHerdModel" "limits" "[I", Cond.fieldLink RX3 32 "CertHerdModel" "pins" "[I", Cond.methodLink RX3 99 yX3_holds, Cond.instanceMethod yX3_holds, Cond.selects RX3 yX3_holds yX3_holds, Cond.code yX3_holds cX3_holds 8 (some .boolean)]
def wsX3_pass_r3 : List Cond := [Cond.fieldLink RX3 13 "CertHerdModel" "froms" "[I", Cond.fieldLink RX3 17 "CertHerdModel" "tos" "[I", Cond.fieldLink RX3 29 "CertHerdModel" "distrusted" "[I", Cond.fieldLink RX3 23 "CertHerdModel" "firstSigners" "[I", Cond.fieldLink RX3 26 "CertHerdModel" "secondSigners" "[I", Cond.fieldLink RX3 35 "CertHerdModel" "areGood" "[Z", Cond.methodLink RX3 102 yX3_issued, Cond.instanceMethod yX3_issued, Cond.selects RX3 yX3_issued yX3_issued, Cond.code yX3_issued cX3_issued 4 (some .int), Cond.methodLink RX3 105 yX3_covers, Cond.static yX3_covers, Cond.code yX3_covers cX3_covers 2 (some .boolean), Cond.methodLink RX3 113 yX3_makes, Cond.instanceMethod yX3_makes, Cond.selects RX3 yX3_makes yX3_makes, Cond.code yX3_makes cX3_makes 4 (some .int), Cond.fieldLink RX3 7 "CertHerdModel" "seed" "I", Cond.constant RX3 109 (1103515245)]
def wsX3_pass : List Cond := .code yX3_pass cX3_pass 4 (some .int) :: ((wsX3_pass_r1 ++ (wsX3_pass_r2 ++ wsX3_pass_r3)) ++ wsX30)
def wsX3_today : List Cond := .code yX3_today cX3_today 1 (some .int) :: ([.fieldLink RX3 66 "CertHerdModel" "thrown" "I", .fieldLink RX3 96 "CertHerdModel" "today" "I"] ++ wsX30)
def wsX3_issuers : List Cond := .code yX3_issuers cX3_issuers 1 (some .int) :: ([.fieldLink RX3 66 "CertHerdModel" "thrown" "I", .fieldLink RX3 69 "CertHerdModel" "issuerMany" "I"] ++ wsX30)
def wsX3_certificates : List Cond := .code yX3_certificates cX3_certificates 1 (some .int) :: ([.fieldLink RX3 66 "CertHerdModel" "thrown" "I", .fieldLink RX3 76 "CertHerdModel" "certMany" "I"] ++ wsX30)
def wsX3_issuerOf : List Cond := .code yX3_issuerOf cX3_issuerOf 2 (some .int) :: ([.fieldLink RX3 66 "CertHerdModel" "thrown" "I", .fieldLink RX3 48 "CertHerdModel" "issuers" "[I", .methodLink RX3 137 yX3_isCert, .instanceMethod yX3_isCert, .selects RX3 yX3_isCert yX3_isCert, .initialized RX3, .code yX3_isCert cX3_isCert 2 (some .boolean), .fieldLink RX3 76 "CertHerdModel" "certMany" "I", .methodLink RX3 72 yX3_in, .static yX3_in, .code yX3_in cX3_in 3 (some .boolean), .methodLink RX3 83 yX3_fails, .instanceMethod yX3_fails, .selects RX3 yX3_fails yX3_fails, .code yX3_fails cX3_fails 2 (some .int)] ++ wsX30)
def wsX3_lastDay : List Cond := .code yX3_lastDay cX3_lastDay 2 (some .int) :: ([.fieldLink RX3 66 "CertHerdModel" "thrown" "I", .methodLink RX3 137 yX3_isCert, .instanceMethod yX3_isCert, .selects RX3 yX3_isCert yX3_isCert, .initialized RX3, .code yX3_isCert cX3_isCert 2 (some .boolean), .fieldLink RX3 76 "CertHerdModel" "certMany" "I", .methodLink RX3 72 yX3_in, .static yX3_in, .code yX3_in cX3_in 3 (some .boolean), .methodLink RX3 120 yX3_last, .instanceMethod yX3_last, .selects RX3 yX3_last yX3_last, .code yX3_last cX3_last 2 (some .int), .fieldLink RX3 51 "CertHerdModel" "firsts" "[I", .fieldLink RX3 54 "CertHerdModel" "lengths" "[I", .methodLink RX3 83 yX3_fails, .instanceMethod yX3_fails, .selects RX3 yX3_fails yX3_fails, .code yX3_fails cX3_fails 2 (some .int)] ++ wsX30)
def wsX3_dueOn : List Cond := .code yX3_dueOn cX3_dueOn 2 (some .int) :: ([.fieldLink RX3 66 "CertHerdModel" "thrown" "I", .methodLink RX3 137 yX3_isCert, .instanceMethod yX3_isCert, .selects RX3 yX3_isCert yX3_isCert, .initialized RX3, .code yX3_isCert cX3_isCert 2 (some .boolean), .fieldLink RX3 76 "CertHerdModel" "certMany" "I", .methodLink RX3 72 yX3_in, .static yX3_in, .code yX3_in cX3_in 3 (some .boolean), .methodLink RX3 117 yX3_due, .instanceMethod yX3_due, .selects RX3 yX3_due yX3_due, .code yX3_due cX3_due 2 (some .int), .fieldLink RX3 51 "CertHerdModel" "firsts" "[I", .fieldLink RX3 54 "CertHerdModel" "lengths" "[I", .fieldLink RX3 57 "CertHerdModel" "offsets" "[I", .methodLink RX3 83 yX3_fails, .instanceMethod yX3_fails, .selects RX3 yX3_fails yX3_fails, .code yX3_fails cX3_fails 2 (some .int)] ++ wsX30)
def wsX3_renewal : List Cond := .code yX3_renewal cX3_renewal 2 (some .int) :: ([.fieldLink RX3 66 "CertHerdModel" "thrown" "I", .fieldLink RX3 60 "CertHerdModel" "renewals" "[I", .methodLink RX3 137 yX3_isCert, .instanceMethod yX3_isCert, .selects RX3 yX3_isCert yX3_isCert, .initialized RX3, .code yX3_isCert cX3_isCert 2 (some .boolean), .fieldLink RX3 76 "CertHerdModel" "certMany" "I", .methodLink RX3 72 yX3_in, .static yX3_in, .code yX3_in cX3_in 3 (some .boolean), .methodLink RX3 83 yX3_fails, .instanceMethod yX3_fails, .selects RX3 yX3_fails yX3_fails, .code yX3_fails cX3_fails 2 (some .int)] ++ wsX30)
def wsX3_waiting : List Cond := .code yX3_waiting cX3_waiting 3 (some .int) :: ([.fieldLink RX3 66 "CertHerdModel" "thrown" "I", .fieldLink RX3 76 "CertHerdModel" "certMany" "I", .methodLink RX3 123 yX3_waits, .instanceMethod yX3_waits, .selects RX3 yX3_waits yX3_waits, .initialized RX3, .code yX3_waits cX3_waits 2 (some .boolean), .fieldLink RX3 96 "CertHerdModel" "today" "I", .fieldLink RX3 60 "CertHerdModel" "renewals" "[I", .methodLink RX3 117 yX3_due, .instanceMethod yX3_due, .selects RX3 yX3_due yX3_due, .code yX3_due cX3_due 2 (some .int), .fieldLink RX3 51 "CertHerdModel" "firsts" "[I", .fieldLink RX3 54 "CertHerdModel" "lengths" "[I", .fieldLink RX3 57 "CertHerdModel" "offsets" "[I", .methodLink RX3 120 yX3_last, .instanceMethod yX3_last, .selects RX3 yX3_last yX3_last, .code yX3_last cX3_last 2 (some .int)] ++ wsX30)
def wsX3_waitingAt_r1 : List Cond := [Cond.fieldLink RX3 66 "CertHerdModel" "thrown" "I", Cond.fieldLink RX3 76 "CertHerdModel" "certMany" "I", Cond.fieldLink RX3 63 "CertHerdModel" "wasSeen" "[Z", Cond.methodLink RX3 126 yX3_sees, Cond.instanceMethod yX3_sees, Cond.selects RX3 yX3_sees yX3_sees, Cond.initialized RX3, Cond.code yX3_sees cX3_sees 3 none, Cond.methodLink RX3 130 yX3_nextWaiting, Cond.instanceMethod yX3_nextWaiting, Cond.selects RX3 yX3_nextWaiting yX3_nextWaiting, Cond.code yX3_nextWaiting cX3_nextWaiting 4 (some .int), Cond.methodLink RX3 123 yX3_waits, Cond.instanceMethod yX3_waits, Cond.selects RX3 yX3_waits yX3_waits, Cond.code yX3_waits cX3_waits 2 (some .boolean), Cond.fieldLink RX3 96 "CertHerdModel" "today" "I", Cond.fieldLink RX3 60 "CertHerdModel" "renewals" "[I", Cond.methodLink RX3 117 yX3_due, Cond.instanceMethod yX3_due, Cond.selects RX3 yX3_due yX3_due, Cond.code yX3_due cX3_due 2 (some .int), Cond.fieldLink RX3 51 "CertHerdModel" "firsts" "[I", Cond.fieldLink RX3 54 "CertHerdModel" "lengths" "[I"]
def wsX3_waitingAt_r2 : List Cond := [Cond.fieldLink RX3 57 "CertHerdModel" "offsets" "[I", Cond.methodLink RX3 120 yX3_last, Cond.instanceMethod yX3_last, Cond.selects RX3 yX3_last yX3_last, Cond.code yX3_last cX3_last 2 (some .int), Cond.methodLink RX3 83 yX3_fails, Cond.instanceMethod yX3_fails, Cond.selects RX3 yX3_fails yX3_fails, Cond.code yX3_fails cX3_fails 2 (some .int)]
def wsX3_waitingAt : List Cond := .code yX3_waitingAt cX3_waitingAt 4 (some .int) :: ((wsX3_waitingAt_r1 ++ wsX3_waitingAt_r2) ++ wsX30)
def wsX3_room : List Cond := .code yX3_room cX3_room 2 (some .int) :: ([.fieldLink RX3 66 "CertHerdModel" "thrown" "I", .fieldLink RX3 20 "CertHerdModel" "limits" "[I", .methodLink RX3 79 yX3_isIssuer, .instanceMethod yX3_isIssuer, .selects RX3 yX3_isIssuer yX3_isIssuer, .initialized RX3, .code yX3_isIssuer cX3_isIssuer 2 (some .boolean), .fieldLink RX3 69 "CertHerdModel" "issuerMany" "I", .methodLink RX3 72 yX3_in, .static yX3_in, .code yX3_in cX3_in 3 (some .boolean), .methodLink RX3 102 yX3_issued, .instanceMethod yX3_issued, .selects RX3 yX3_issued yX3_issued, .code yX3_issued cX3_issued 4 (some .int), .fieldLink RX3 76 "CertHerdModel" "certMany" "I", .fieldLink RX3 48 "CertHerdModel" "issuers" "[I", .fieldLink RX3 51 "CertHerdModel" "firsts" "[I", .fieldLink RX3 96 "CertHerdModel" "today" "I", .methodLink RX3 83 yX3_fails, .instanceMethod yX3_fails, .selects RX3 yX3_fails yX3_fails, .code yX3_fails cX3_fails 2 (some .int)] ++ wsX30)
def wsX3_isGood : List Cond := .code yX3_isGood cX3_isGood 3 (some .boolean) :: ([.fieldLink RX3 66 "CertHerdModel" "thrown" "I", .methodLink RX3 79 yX3_isIssuer, .instanceMethod yX3_isIssuer, .selects RX3 yX3_isIssuer yX3_isIssuer, .initialized RX3, .code yX3_isIssuer cX3_isIssuer 2 (some .boolean), .fieldLink RX3 69 "CertHerdModel" "issuerMany" "I", .methodLink RX3 72 yX3_in, .static yX3_in, .code yX3_in cX3_in 3 (some .boolean), .methodLink RX3 90 yX3_isDay, .static yX3_isDay, .code yX3_isDay cX3_isDay 1 (some .boolean), .methodLink RX3 99 yX3_holds, .instanceMethod yX3_holds, .selects RX3 yX3_holds yX3_holds, .code yX3_holds cX3_holds 8 (some .boolean), .fieldLink RX3 13 "CertHerdModel" "froms" "[I", .fieldLink RX3 17 "CertHerdModel" "tos" "[I", .fieldLink RX3 29 "CertHerdModel" "distrusted" "[I", .fieldLink RX3 23 "CertHerdModel" "firstSigners" "[I", .fieldLink RX3 26 "CertHerdModel" "secondSigners" "[I", .fieldLink RX3 35 "CertHerdModel" "areGood" "[Z"] ++ wsX30)
def wsX3_chainEnd : List Cond := .code yX3_chainEnd cX3_chainEnd 2 (some .int) :: ([.fieldLink RX3 66 "CertHerdModel" "thrown" "I", .methodLink RX3 79 yX3_isIssuer, .instanceMethod yX3_isIssuer, .selects RX3 yX3_isIssuer yX3_isIssuer, .initialized RX3, .code yX3_isIssuer cX3_isIssuer 2 (some .boolean), .fieldLink RX3 69 "CertHerdModel" "issuerMany" "I", .methodLink RX3 72 yX3_in, .static yX3_in, .code yX3_in cX3_in 3 (some .boolean), .methodLink RX3 87 yX3_ends, .instanceMethod yX3_ends, .selects RX3 yX3_ends yX3_ends, .code yX3_ends cX3_ends 6 (some .int), .fieldLink RX3 23 "CertHerdModel" "firstSigners" "[I", .fieldLink RX3 26 "CertHerdModel" "secondSigners" "[I", .fieldLink RX3 39 "CertHerdModel" "endDays" "[I", .fieldLink RX3 17 "CertHerdModel" "tos" "[I", .methodLink RX3 83 yX3_fails, .instanceMethod yX3_fails, .selects RX3 yX3_fails yX3_fails, .code yX3_fails cX3_fails 2 (some .int)] ++ wsX30)
def wsX3_chains : List Cond := .code yX3_chains cX3_chains 2 (some .int) :: ([.fieldLink RX3 66 "CertHerdModel" "thrown" "I", .methodLink RX3 79 yX3_isIssuer, .instanceMethod yX3_isIssuer, .selects RX3 yX3_isIssuer yX3_isIssuer, .initialized RX3, .code yX3_isIssuer cX3_isIssuer 2 (some .boolean), .fieldLink RX3 69 "CertHerdModel" "issuerMany" "I", .methodLink RX3 72 yX3_in, .static yX3_in, .code yX3_in cX3_in 3 (some .boolean), .methodLink RX3 140 yX3_ways, .instanceMethod yX3_ways, .selects RX3 yX3_ways yX3_ways, .code yX3_ways cX3_ways 5 (some .int), .fieldLink RX3 23 "CertHerdModel" "firstSigners" "[I", .fieldLink RX3 26 "CertHerdModel" "secondSigners" "[I", .fieldLink RX3 42 "CertHerdModel" "chainMany" "[I", .methodLink RX3 83 yX3_fails, .instanceMethod yX3_fails, .selects RX3 yX3_fails yX3_fails, .code yX3_fails cX3_fails 2 (some .int)] ++ wsX30)
def wsX3_names_r1 : List Cond := [Cond.fieldLink RX3 76 "CertHerdModel" "certMany" "I", Cond.fieldLink RX3 51 "CertHerdModel" "firsts" "[I", Cond.fieldLink RX3 48 "CertHerdModel" "issuers" "[I", Cond.fieldLink RX3 45 "CertHerdModel" "subjects" "[I", Cond.methodLink RX3 120 yX3_last, Cond.instanceMethod yX3_last, Cond.selects RX3 yX3_last yX3_last, Cond.initialized RX3, Cond.code yX3_last cX3_last 2 (some .int), Cond.fieldLink RX3 54 "CertHerdModel" "lengths" "[I", Cond.methodLink RX3 72 yX3_in, Cond.static yX3_in, Cond.code yX3_in cX3_in 3 (some .boolean), Cond.methodLink RX3 99 yX3_holds, Cond.instanceMethod yX3_holds, Cond.selects RX3 yX3_holds yX3_holds, Cond.code yX3_holds cX3_holds 8 (some .boolean), Cond.fieldLink RX3 13 "CertHerdModel" "froms" "[I", Cond.fieldLink RX3 17 "CertHerdModel" "tos" "[I", Cond.fieldLink RX3 29 "CertHerdModel" "distrusted" "[I", Cond.fieldLink RX3 23 "CertHerdModel" "firstSigners" "[I", Cond.fieldLink RX3 26 "CertHerdModel" "secondSigners" "[I", Cond.fieldLink RX3 35 "CertHerdModel" "areGood" "[Z", Cond.methodLink RX3 105 yX3_covers]
def wsX3_names_r2 : List Cond := [Cond.static yX3_covers, Cond.code yX3_covers cX3_covers 2 (some .boolean)]
def wsX3_names : List Cond := .code yX3_names cX3_names 7 (some .int) :: ((wsX3_names_r1 ++ wsX3_names_r2) ++ wsX30)
def wsX3_isCovered_r1 : List Cond := [Cond.fieldLink RX3 66 "CertHerdModel" "thrown" "I", Cond.methodLink RX3 93 yX3_isName, Cond.static yX3_isName, Cond.initialized RX3, Cond.code yX3_isName cX3_isName 1 (some .boolean), Cond.methodLink RX3 72 yX3_in, Cond.static yX3_in, Cond.code yX3_in cX3_in 3 (some .boolean), Cond.methodLink RX3 90 yX3_isDay, Cond.static yX3_isDay, Cond.code yX3_isDay cX3_isDay 1 (some .boolean), Cond.methodLink RX3 143 yX3_names, Cond.instanceMethod yX3_names, Cond.selects RX3 yX3_names yX3_names, Cond.code yX3_names cX3_names 7 (some .int), Cond.fieldLink RX3 76 "CertHerdModel" "certMany" "I", Cond.fieldLink RX3 51 "CertHerdModel" "firsts" "[I", Cond.fieldLink RX3 48 "CertHerdModel" "issuers" "[I", Cond.fieldLink RX3 45 "CertHerdModel" "subjects" "[I", Cond.methodLink RX3 120 yX3_last, Cond.instanceMethod yX3_last, Cond.selects RX3 yX3_last yX3_last, Cond.code yX3_last cX3_last 2 (some .int), Cond.fieldLink RX3 54 "CertHerdModel" "lengths" "[I"]
def wsX3_isCovered_r2 : List Cond := [Cond.methodLink RX3 99 yX3_holds, Cond.instanceMethod yX3_holds, Cond.selects RX3 yX3_holds yX3_holds, Cond.code yX3_holds cX3_holds 8 (some .boolean), Cond.fieldLink RX3 13 "CertHerdModel" "froms" "[I", Cond.fieldLink RX3 17 "CertHerdModel" "tos" "[I", Cond.fieldLink RX3 29 "CertHerdModel" "distrusted" "[I", Cond.fieldLink RX3 23 "CertHerdModel" "firstSigners" "[I", Cond.fieldLink RX3 26 "CertHerdModel" "secondSigners" "[I", Cond.fieldLink RX3 35 "CertHerdModel" "areGood" "[Z", Cond.methodLink RX3 105 yX3_covers, Cond.static yX3_covers, Cond.code yX3_covers cX3_covers 2 (some .boolean)]
def wsX3_isCovered : List Cond := .code yX3_isCovered cX3_isCovered 3 (some .boolean) :: ((wsX3_isCovered_r1 ++ wsX3_isCovered_r2) ++ wsX30)
def wsX3_nextGap_r1 : List Cond := [Cond.fieldLink RX3 66 "CertHerdModel" "thrown" "I", Cond.methodLink RX3 93 yX3_isName, Cond.static yX3_isName, Cond.initialized RX3, Cond.code yX3_isName cX3_isName 1 (some .boolean), Cond.methodLink RX3 72 yX3_in, Cond.static yX3_in, Cond.code yX3_in cX3_in 3 (some .boolean), Cond.methodLink RX3 90 yX3_isDay, Cond.static yX3_isDay, Cond.code yX3_isDay cX3_isDay 1 (some .boolean), Cond.methodLink RX3 143 yX3_names, Cond.instanceMethod yX3_names, Cond.selects RX3 yX3_names yX3_names, Cond.code yX3_names cX3_names 7 (some .int), Cond.fieldLink RX3 76 "CertHerdModel" "certMany" "I", Cond.fieldLink RX3 51 "CertHerdModel" "firsts" "[I", Cond.fieldLink RX3 48 "CertHerdModel" "issuers" "[I", Cond.fieldLink RX3 45 "CertHerdModel" "subjects" "[I", Cond.methodLink RX3 120 yX3_last, Cond.instanceMethod yX3_last, Cond.selects RX3 yX3_last yX3_last, Cond.code yX3_last cX3_last 2 (some .int), Cond.fieldLink RX3 54 "CertHerdModel" "lengths" "[I"]
def wsX3_nextGap_r2 : List Cond := [Cond.methodLink RX3 99 yX3_holds, Cond.instanceMethod yX3_holds, Cond.selects RX3 yX3_holds yX3_holds, Cond.code yX3_holds cX3_holds 8 (some .boolean), Cond.fieldLink RX3 13 "CertHerdModel" "froms" "[I", Cond.fieldLink RX3 17 "CertHerdModel" "tos" "[I", Cond.fieldLink RX3 29 "CertHerdModel" "distrusted" "[I", Cond.fieldLink RX3 23 "CertHerdModel" "firstSigners" "[I", Cond.fieldLink RX3 26 "CertHerdModel" "secondSigners" "[I", Cond.fieldLink RX3 35 "CertHerdModel" "areGood" "[Z", Cond.methodLink RX3 105 yX3_covers, Cond.static yX3_covers, Cond.code yX3_covers cX3_covers 2 (some .boolean)]
def wsX3_nextGap : List Cond := .code yX3_nextGap cX3_nextGap 4 (some .int) :: ((wsX3_nextGap_r1 ++ wsX3_nextGap_r2) ++ wsX30)
def wsX3_covered_r1 : List Cond := [Cond.fieldLink RX3 66 "CertHerdModel" "thrown" "I", Cond.methodLink RX3 90 yX3_isDay, Cond.static yX3_isDay, Cond.initialized RX3, Cond.code yX3_isDay cX3_isDay 1 (some .boolean), Cond.methodLink RX3 72 yX3_in, Cond.static yX3_in, Cond.code yX3_in cX3_in 3 (some .boolean), Cond.methodLink RX3 143 yX3_names, Cond.instanceMethod yX3_names, Cond.selects RX3 yX3_names yX3_names, Cond.code yX3_names cX3_names 7 (some .int), Cond.fieldLink RX3 76 "CertHerdModel" "certMany" "I", Cond.fieldLink RX3 51 "CertHerdModel" "firsts" "[I", Cond.fieldLink RX3 48 "CertHerdModel" "issuers" "[I", Cond.fieldLink RX3 45 "CertHerdModel" "subjects" "[I", Cond.methodLink RX3 120 yX3_last, Cond.instanceMethod yX3_last, Cond.selects RX3 yX3_last yX3_last, Cond.code yX3_last cX3_last 2 (some .int), Cond.fieldLink RX3 54 "CertHerdModel" "lengths" "[I", Cond.methodLink RX3 99 yX3_holds, Cond.instanceMethod yX3_holds, Cond.selects RX3 yX3_holds yX3_holds]
def wsX3_covered_r2 : List Cond := [Cond.code yX3_holds cX3_holds 8 (some .boolean), Cond.fieldLink RX3 13 "CertHerdModel" "froms" "[I", Cond.fieldLink RX3 17 "CertHerdModel" "tos" "[I", Cond.fieldLink RX3 29 "CertHerdModel" "distrusted" "[I", Cond.fieldLink RX3 23 "CertHerdModel" "firstSigners" "[I", Cond.fieldLink RX3 26 "CertHerdModel" "secondSigners" "[I", Cond.fieldLink RX3 35 "CertHerdModel" "areGood" "[Z", Cond.methodLink RX3 105 yX3_covers, Cond.static yX3_covers, Cond.code yX3_covers cX3_covers 2 (some .boolean)]
def wsX3_covered : List Cond := .code yX3_covered cX3_covered 2 (some .int) :: ((wsX3_covered_r1 ++ wsX3_covered_r2) ++ wsX30)
def wsX3_breaks_r1 : List Cond := [Cond.fieldLink RX3 66 "CertHerdModel" "thrown" "I", Cond.methodLink RX3 79 yX3_isIssuer, Cond.instanceMethod yX3_isIssuer, Cond.selects RX3 yX3_isIssuer yX3_isIssuer, Cond.initialized RX3, Cond.code yX3_isIssuer cX3_isIssuer 2 (some .boolean), Cond.fieldLink RX3 69 "CertHerdModel" "issuerMany" "I", Cond.methodLink RX3 72 yX3_in, Cond.static yX3_in, Cond.code yX3_in cX3_in 3 (some .boolean), Cond.methodLink RX3 90 yX3_isDay, Cond.static yX3_isDay, Cond.code yX3_isDay cX3_isDay 1 (some .boolean), Cond.methodLink RX3 143 yX3_names, Cond.instanceMethod yX3_names, Cond.selects RX3 yX3_names yX3_names, Cond.code yX3_names cX3_names 7 (some .int), Cond.fieldLink RX3 76 "CertHerdModel" "certMany" "I", Cond.fieldLink RX3 51 "CertHerdModel" "firsts" "[I", Cond.fieldLink RX3 48 "CertHerdModel" "issuers" "[I", Cond.fieldLink RX3 45 "CertHerdModel" "subjects" "[I", Cond.methodLink RX3 120 yX3_last, Cond.instanceMethod yX3_last, Cond.selects RX3 yX3_last yX3_last]
def wsX3_breaks_r2 : List Cond := [Cond.code yX3_last cX3_last 2 (some .int), Cond.fieldLink RX3 54 "CertHerdModel" "lengths" "[I", Cond.methodLink RX3 99 yX3_holds, Cond.instanceMethod yX3_holds, Cond.selects RX3 yX3_holds yX3_holds, Cond.code yX3_holds cX3_holds 8 (some .boolean), Cond.fieldLink RX3 13 "CertHerdModel" "froms" "[I", Cond.fieldLink RX3 17 "CertHerdModel" "tos" "[I", Cond.fieldLink RX3 29 "CertHerdModel" "distrusted" "[I", Cond.fieldLink RX3 23 "CertHerdModel" "firstSigners" "[I", Cond.fieldLink RX3 26 "CertHerdModel" "secondSigners" "[I", Cond.fieldLink RX3 35 "CertHerdModel" "areGood" "[Z", Cond.methodLink RX3 105 yX3_covers, Cond.static yX3_covers, Cond.code yX3_covers cX3_covers 2 (some .boolean)]
def wsX3_breaks : List Cond := .code yX3_breaks cX3_breaks 3 (some .int) :: ((wsX3_breaks_r1 ++ wsX3_breaks_r2) ++ wsX30)
def wsX3_weakest_r1 : List Cond := [Cond.fieldLink RX3 66 "CertHerdModel" "thrown" "I", Cond.fieldLink RX3 69 "CertHerdModel" "issuerMany" "I", Cond.methodLink RX3 90 yX3_isDay, Cond.static yX3_isDay, Cond.initialized RX3, Cond.code yX3_isDay cX3_isDay 1 (some .boolean), Cond.methodLink RX3 72 yX3_in, Cond.static yX3_in, Cond.code yX3_in cX3_in 3 (some .boolean), Cond.methodLink RX3 143 yX3_names, Cond.instanceMethod yX3_names, Cond.selects RX3 yX3_names yX3_names, Cond.code yX3_names cX3_names 7 (some .int), Cond.fieldLink RX3 76 "CertHerdModel" "certMany" "I", Cond.fieldLink RX3 51 "CertHerdModel" "firsts" "[I", Cond.fieldLink RX3 48 "CertHerdModel" "issuers" "[I", Cond.fieldLink RX3 45 "CertHerdModel" "subjects" "[I", Cond.methodLink RX3 120 yX3_last, Cond.instanceMethod yX3_last, Cond.selects RX3 yX3_last yX3_last, Cond.code yX3_last cX3_last 2 (some .int), Cond.fieldLink RX3 54 "CertHerdModel" "lengths" "[I", Cond.methodLink RX3 99 yX3_holds, Cond.instanceMethod yX3_holds]
def wsX3_weakest_r2 : List Cond := [Cond.selects RX3 yX3_holds yX3_holds, Cond.code yX3_holds cX3_holds 8 (some .boolean), Cond.fieldLink RX3 13 "CertHerdModel" "froms" "[I", Cond.fieldLink RX3 17 "CertHerdModel" "tos" "[I", Cond.fieldLink RX3 29 "CertHerdModel" "distrusted" "[I", Cond.fieldLink RX3 23 "CertHerdModel" "firstSigners" "[I", Cond.fieldLink RX3 26 "CertHerdModel" "secondSigners" "[I", Cond.fieldLink RX3 35 "CertHerdModel" "areGood" "[Z", Cond.methodLink RX3 105 yX3_covers, Cond.static yX3_covers, Cond.code yX3_covers cX3_covers 2 (some .boolean)]
def wsX3_weakest : List Cond := .code yX3_weakest cX3_weakest 8 (some .int) :: ((wsX3_weakest_r1 ++ wsX3_weakest_r2) ++ wsX30)
def wsJ9_max_7cf53 : List Cond := .code yJ9_max_7cf53 cJ9_max_7cf53 2 (some .int) :: ([])
def wsJ9_min_7cf53 : List Cond := .code yJ9_min_7cf53 cJ9_min_7cf53 2 (some .int) :: ([])
def wsL_addIssuer_r1 : List Cond := [Cond.classLink RL 13 "java/lang/IndexOutOfBoundsException", Cond.classLink RL 15 "java/lang/IllegalArgumentException", Cond.classLink RL 17 "java/lang/IllegalStateException", Cond.methodLink RL 7 yX2_addIssuer, Cond.instanceMethod yX2_addIssuer, Cond.selects RX2 yX2_addIssuer yX2_addIssuer, Cond.initialized RX2, Cond.code yX2_addIssuer cX2_addIssuer 5 (some .int), Cond.classLink RX2 41 "java/lang/IllegalArgumentException", Cond.initialized "java/lang/IllegalArgumentException", Cond.classLink RX2 54 "java/lang/IllegalStateException", Cond.initialized "java/lang/IllegalStateException", Cond.fieldLink RX2 10 "CertHerd" "issuerTable" "LCertHerd$IssuerTable;", Cond.methodLink RX2 34 yX2_checkIssuer, Cond.instanceMethod yX2_checkIssuer, Cond.selects RX2 yX2_checkIssuer yX2_checkIssuer, Cond.code yX2_checkIssuer cX2_checkIssuer 2 none, Cond.classLink RX2 130 "java/lang/IndexOutOfBoundsException", Cond.initialized "java/lang/IndexOutOfBoundsException", Cond.fieldLink RX2 107 "CertHerd$IssuerTable" "count" "I", Cond.methodLink RX2 38 yX2_checkDay, Cond.static yX2_checkDay, Cond.code yX2_checkDay cX2_checkDay 1 none, Cond.methodLink RX2 50 yX1_isFull]
def wsL_addIssuer_r2 : List Cond := [Cond.instanceMethod yX1_isFull, Cond.selects RX1 yX1_isFull yX1_isFull, Cond.initialized RX1, Cond.code yX1_isFull cX1_isFull 1 (some .boolean), Cond.fieldLink RX1 36 "CertHerd$IssuerTable" "count" "I", Cond.methodLink RX2 59 yX1_append, Cond.instanceMethod yX1_append, Cond.selects RX1 yX1_append yX1_append, Cond.code yX1_append cX1_append 6 (some .int), Cond.fieldLink RX1 11 "CertHerd$IssuerTable" "firstSigners" "[I", Cond.fieldLink RX1 15 "CertHerd$IssuerTable" "secondSigners" "[I", Cond.fieldLink RX1 18 "CertHerd$IssuerTable" "firstDays" "[I", Cond.fieldLink RX1 21 "CertHerd$IssuerTable" "endDays" "[I", Cond.fieldLink RX1 24 "CertHerd$IssuerTable" "limits" "[I", Cond.fieldLink RX1 27 "CertHerd$IssuerTable" "distrustDays" "[I", Cond.methodLink RX1 40 yX1_updateChains, Cond.instanceMethod yX1_updateChains, Cond.selects RX1 yX1_updateChains yX1_updateChains, Cond.code yX1_updateChains cX1_updateChains 5 none, Cond.fieldLink RX1 30 "CertHerd$IssuerTable" "chainEnds" "[I", Cond.fieldLink RX1 33 "CertHerd$IssuerTable" "chainCounts" "[I", Cond.methodLink RX1 48 Lib.Math.max.name, Cond.static Lib.Math.max.name, Cond.initialized "java/lang/Math"]
def wsL_addIssuer_r3 : List Cond := [Cond.code Lib.Math.max.name Lib.Math.max.code 2 (some .int), Cond.methodLink RX1 54 Lib.Math.min.name, Cond.static Lib.Math.min.name, Cond.code Lib.Math.min.name Lib.Math.min.code 2 (some .int), Cond.methodLink RX1 44 yX1_isRoot, Cond.instanceMethod yX1_isRoot, Cond.selects RX1 yX1_isRoot yX1_isRoot, Cond.code yX1_isRoot cX1_isRoot 2 (some .boolean)]
def wsL_addIssuer : List Cond := .codeWith yL_addIssuer cL_addIssuer 7 (some .int) [(0, 14, 17, 13), (0, 14, 21, 15), (0, 14, 25, 17)] :: ((wsL_addIssuer_r1 ++ (wsL_addIssuer_r2 ++ wsL_addIssuer_r3)) ++ wsX20 ++ wsX10 ++ (vx_atS RX2 45 "java/lang/IllegalArgumentException" ["java/lang/RuntimeException", "java/lang/Exception"]).filter goodWord ++ (vx_atS RX2 58 "java/lang/IllegalStateException" ["java/lang/RuntimeException", "java/lang/Exception"]).filter goodWord ++ (vx_atS RX2 134 "java/lang/IndexOutOfBoundsException" ["java/lang/RuntimeException", "java/lang/Exception"]).filter goodWord)
def wsL_cross_r1 : List Cond := [Cond.classLink RL 13 "java/lang/IndexOutOfBoundsException", Cond.classLink RL 15 "java/lang/IllegalArgumentException", Cond.classLink RL 17 "java/lang/IllegalStateException", Cond.methodLink RL 19 yX2_cross, Cond.instanceMethod yX2_cross, Cond.selects RX2 yX2_cross yX2_cross, Cond.initialized RX2, Cond.code yX2_cross cX2_cross 3 (some .int), Cond.classLink RX2 41 "java/lang/IllegalArgumentException", Cond.initialized "java/lang/IllegalArgumentException", Cond.classLink RX2 54 "java/lang/IllegalStateException", Cond.initialized "java/lang/IllegalStateException", Cond.fieldLink RX2 10 "CertHerd" "issuerTable" "LCertHerd$IssuerTable;", Cond.fieldLink RX2 75 "CertHerd$IssuerTable" "chainEnds" "[I", Cond.methodLink RX2 34 yX2_checkIssuer, Cond.instanceMethod yX2_checkIssuer, Cond.selects RX2 yX2_checkIssuer yX2_checkIssuer, Cond.code yX2_checkIssuer cX2_checkIssuer 2 none, Cond.classLink RX2 130 "java/lang/IndexOutOfBoundsException", Cond.initialized "java/lang/IndexOutOfBoundsException", Cond.fieldLink RX2 107 "CertHerd$IssuerTable" "count" "I", Cond.methodLink RX2 65 yX1_canBeSignedAlsoBy, Cond.instanceMethod yX1_canBeSignedAlsoBy, Cond.selects RX1 yX1_canBeSignedAlsoBy yX1_canBeSignedAlsoBy]
def wsL_cross_r2 : List Cond := [Cond.initialized RX1, Cond.code yX1_canBeSignedAlsoBy cX1_canBeSignedAlsoBy 3 (some .boolean), Cond.fieldLink RX1 15 "CertHerd$IssuerTable" "secondSigners" "[I", Cond.fieldLink RX1 11 "CertHerd$IssuerTable" "firstSigners" "[I", Cond.methodLink RX1 44 yX1_isRoot, Cond.instanceMethod yX1_isRoot, Cond.selects RX1 yX1_isRoot yX1_isRoot, Cond.code yX1_isRoot cX1_isRoot 2 (some .boolean), Cond.methodLink RX2 71 yX1_signAlsoBy, Cond.instanceMethod yX1_signAlsoBy, Cond.selects RX1 yX1_signAlsoBy yX1_signAlsoBy, Cond.code yX1_signAlsoBy cX1_signAlsoBy 3 none, Cond.methodLink RX1 40 yX1_updateChains, Cond.instanceMethod yX1_updateChains, Cond.selects RX1 yX1_updateChains yX1_updateChains, Cond.code yX1_updateChains cX1_updateChains 5 none, Cond.fieldLink RX1 36 "CertHerd$IssuerTable" "count" "I", Cond.fieldLink RX1 30 "CertHerd$IssuerTable" "chainEnds" "[I", Cond.fieldLink RX1 33 "CertHerd$IssuerTable" "chainCounts" "[I", Cond.methodLink RX1 48 Lib.Math.max.name, Cond.static Lib.Math.max.name, Cond.initialized "java/lang/Math", Cond.code Lib.Math.max.name Lib.Math.max.code 2 (some .int), Cond.fieldLink RX1 21 "CertHerd$IssuerTable" "endDays" "[I"]
def wsL_cross_r3 : List Cond := [Cond.methodLink RX1 54 Lib.Math.min.name, Cond.static Lib.Math.min.name, Cond.code Lib.Math.min.name Lib.Math.min.code 2 (some .int)]
def wsL_cross : List Cond := .codeWith yL_cross cL_cross 5 (some .int) [(0, 10, 13, 13), (0, 10, 17, 15), (0, 10, 21, 17)] :: ((wsL_cross_r1 ++ (wsL_cross_r2 ++ wsL_cross_r3)) ++ wsX20 ++ wsX10 ++ (vx_atS RX2 45 "java/lang/IllegalArgumentException" ["java/lang/RuntimeException", "java/lang/Exception"]).filter goodWord ++ (vx_atS RX2 58 "java/lang/IllegalStateException" ["java/lang/RuntimeException", "java/lang/Exception"]).filter goodWord ++ (vx_atS RX2 134 "java/lang/IndexOutOfBoundsException" ["java/lang/RuntimeException", "java/lang/Exception"]).filter goodWord)
def wsL_distrust : List Cond := .codeWith yL_distrust cL_distrust 5 (some .int) [(0, 10, 13, 13), (0, 10, 17, 15)] :: ([.classLink RL 13 "java/lang/IndexOutOfBoundsException", .classLink RL 15 "java/lang/IllegalArgumentException", .methodLink RL 23 yX2_distrust, .instanceMethod yX2_distrust, .selects RX2 yX2_distrust yX2_distrust, .initialized RX2, .code yX2_distrust cX2_distrust 4 (some .int), .fieldLink RX2 10 "CertHerd" "issuerTable" "LCertHerd$IssuerTable;", .fieldLink RX2 78 "CertHerd$IssuerTable" "distrustDays" "[I", .methodLink RX2 34 yX2_checkIssuer, .instanceMethod yX2_checkIssuer, .selects RX2 yX2_checkIssuer yX2_checkIssuer, .code yX2_checkIssuer cX2_checkIssuer 2 none, .classLink RX2 130 "java/lang/IndexOutOfBoundsException", .initialized "java/lang/IndexOutOfBoundsException", .fieldLink RX2 107 "CertHerd$IssuerTable" "count" "I", .methodLink RX2 38 yX2_checkDay, .static yX2_checkDay, .code yX2_checkDay cX2_checkDay 1 none, .classLink RX2 41 "java/lang/IllegalArgumentException", .initialized "java/lang/IllegalArgumentException"] ++ wsX20 ++ wsX10 ++ (vx_atS RX2 134 "java/lang/IndexOutOfBoundsException" ["java/lang/RuntimeException", "java/lang/Exception"]).filter goodWord ++ (vx_atS RX2 45 "java/lang/IllegalArgumentException" ["java/lang/RuntimeException", "java/lang/Exception"]).filter goodWord)
def wsL_pin : List Cond := .codeWith yL_pin cL_pin 5 (some .int) [(0, 10, 13, 13), (0, 10, 17, 15)] :: ([.classLink RL 13 "java/lang/IndexOutOfBoundsException", .classLink RL 15 "java/lang/IllegalArgumentException", .methodLink RL 26 yX2_pin, .instanceMethod yX2_pin, .selects RX2 yX2_pin yX2_pin, .initialized RX2, .code yX2_pin cX2_pin 4 (some .int), .classLink RX2 41 "java/lang/IllegalArgumentException", .initialized "java/lang/IllegalArgumentException", .fieldLink RX2 23 "CertHerd" "pinsOfName" "[I", .methodLink RX2 81 yX2_checkName, .static yX2_checkName, .code yX2_checkName cX2_checkName 1 none, .classLink RX2 130 "java/lang/IndexOutOfBoundsException", .initialized "java/lang/IndexOutOfBoundsException"] ++ wsX20 ++ (vx_atS RX2 45 "java/lang/IllegalArgumentException" ["java/lang/RuntimeException", "java/lang/Exception"]).filter goodWord ++ (vx_atS RX2 134 "java/lang/IndexOutOfBoundsException" ["java/lang/RuntimeException", "java/lang/Exception"]).filter goodWord)
def wsL_issue_r1 : List Cond := [Cond.classLink RL 13 "java/lang/IndexOutOfBoundsException", Cond.classLink RL 15 "java/lang/IllegalArgumentException", Cond.classLink RL 17 "java/lang/IllegalStateException", Cond.methodLink RL 29 yX2_issue, Cond.instanceMethod yX2_issue, Cond.selects RX2 yX2_issue yX2_issue, Cond.initialized RX2, Cond.code yX2_issue cX2_issue 4 (some .int), Cond.classLink RX2 41 "java/lang/IllegalArgumentException", Cond.initialized "java/lang/IllegalArgumentException", Cond.classLink RX2 54 "java/lang/IllegalStateException", Cond.initialized "java/lang/IllegalStateException", Cond.methodLink RX2 34 yX2_checkIssuer, Cond.instanceMethod yX2_checkIssuer, Cond.selects RX2 yX2_checkIssuer yX2_checkIssuer, Cond.code yX2_checkIssuer cX2_checkIssuer 2 none, Cond.classLink RX2 130 "java/lang/IndexOutOfBoundsException", Cond.initialized "java/lang/IndexOutOfBoundsException", Cond.fieldLink RX2 10 "CertHerd" "issuerTable" "LCertHerd$IssuerTable;", Cond.fieldLink RX2 107 "CertHerd$IssuerTable" "count" "I", Cond.methodLink RX2 90 yX2_canIssue, Cond.instanceMethod yX2_canIssue, Cond.selects RX2 yX2_canIssue yX2_canIssue, Cond.code yX2_canIssue cX2_canIssue 3 (some .boolean)]
def wsL_issue_r2 : List Cond := [Cond.fieldLink RX2 19 "CertHerd" "certificateTable" "LCertHerd$CertificateTable;", Cond.fieldLink RX2 31 "CertHerd" "dayNow" "I", Cond.methodLink RX2 170 yX0_isFull, Cond.instanceMethod yX0_isFull, Cond.selects RX0 yX0_isFull yX0_isFull, Cond.initialized RX0, Cond.code yX0_isFull cX0_isFull 1 (some .boolean), Cond.fieldLink RX0 33 "CertHerd$CertificateTable" "count" "I", Cond.methodLink RX2 138 yX2_roomThisWeek, Cond.instanceMethod yX2_roomThisWeek, Cond.selects RX2 yX2_roomThisWeek yX2_roomThisWeek, Cond.code yX2_roomThisWeek cX2_roomThisWeek 2 (some .int), Cond.fieldLink RX2 177 "CertHerd$IssuerTable" "limits" "[I", Cond.methodLink RX2 180 yX2_weekOf, Cond.static yX2_weekOf, Cond.code yX2_weekOf cX2_weekOf 1 (some .int), Cond.methodLink RX2 183 yX0_issuedInWeek, Cond.instanceMethod yX0_issuedInWeek, Cond.selects RX0 yX0_issuedInWeek yX0_issuedInWeek, Cond.code yX0_issuedInWeek cX0_issuedInWeek 5 (some .int), Cond.fieldLink RX0 11 "CertHerd$CertificateTable" "issuerNumbers" "[I", Cond.fieldLink RX0 18 "CertHerd$CertificateTable" "firstDays" "[I", Cond.methodLink RX2 171 yX2_mayIssueFor, Cond.instanceMethod yX2_mayIssueFor]
def wsL_issue_r3 : List Cond := [Cond.selects RX2 yX2_mayIssueFor yX2_mayIssueFor, Cond.code yX2_mayIssueFor cX2_mayIssueFor 6 (some .boolean), Cond.fieldLink RX2 23 "CertHerd" "pinsOfName" "[I", Cond.methodLink RX2 174 yX2_namesOf, Cond.static yX2_namesOf, Cond.code yX2_namesOf cX2_namesOf 1 (some .int), Cond.methodLink RX2 145 yX2_contains, Cond.static yX2_contains, Cond.code yX2_contains cX2_contains 2 (some .boolean), Cond.methodLink RX2 141 yX1_goodOn, Cond.instanceMethod yX1_goodOn, Cond.selects RX1 yX1_goodOn yX1_goodOn, Cond.initialized RX1, Cond.code yX1_goodOn cX1_goodOn 5 (some .int), Cond.fieldLink RX1 36 "CertHerd$IssuerTable" "count" "I", Cond.methodLink RX1 57 yX1_standsOn, Cond.instanceMethod yX1_standsOn, Cond.selects RX1 yX1_standsOn yX1_standsOn, Cond.code yX1_standsOn cX1_standsOn 4 (some .boolean), Cond.fieldLink RX1 27 "CertHerd$IssuerTable" "distrustDays" "[I", Cond.fieldLink RX1 18 "CertHerd$IssuerTable" "firstDays" "[I", Cond.fieldLink RX1 21 "CertHerd$IssuerTable" "endDays" "[I", Cond.methodLink RX1 61 yX1_isHeldBy, Cond.instanceMethod yX1_isHeldBy]
def wsL_issue_r4 : List Cond := [Cond.selects RX1 yX1_isHeldBy yX1_isHeldBy, Cond.code yX1_isHeldBy cX1_isHeldBy 3 (some .boolean), Cond.fieldLink RX1 11 "CertHerd$IssuerTable" "firstSigners" "[I", Cond.fieldLink RX1 15 "CertHerd$IssuerTable" "secondSigners" "[I", Cond.methodLink RX1 44 yX1_isRoot, Cond.instanceMethod yX1_isRoot, Cond.selects RX1 yX1_isRoot yX1_isRoot, Cond.code yX1_isRoot cX1_isRoot 2 (some .boolean), Cond.methodLink RX2 95 yX2_makeCertificate, Cond.instanceMethod yX2_makeCertificate, Cond.selects RX2 yX2_makeCertificate yX2_makeCertificate, Cond.code yX2_makeCertificate cX2_makeCertificate 4 (some .int), Cond.methodLink RX2 186 yX2_drawOffset, Cond.instanceMethod yX2_drawOffset, Cond.selects RX2 yX2_drawOffset yX2_drawOffset, Cond.code yX2_drawOffset cX2_drawOffset 2 (some .int), Cond.fieldLink RX2 27 "CertHerd" "seedNow" "I", Cond.constant RX2 192 (1103515245), Cond.methodLink RX2 189 yX0_append, Cond.instanceMethod yX0_append, Cond.selects RX0 yX0_append yX0_append, Cond.code yX0_append cX0_append 7 (some .int), Cond.fieldLink RX0 15 "CertHerd$CertificateTable" "subjects" "[I", Cond.fieldLink RX0 21 "CertHerd$CertificateTable" "lengths" "[I"]
def wsL_issue_r5 : List Cond := [Cond.fieldLink RX0 24 "CertHerd$CertificateTable" "offsets" "[I", Cond.fieldLink RX0 27 "CertHerd$CertificateTable" "renewals" "[I"]
def wsL_issue : List Cond := .codeWith yL_issue cL_issue 6 (some .int) [(0, 12, 15, 13), (0, 12, 19, 15), (0, 12, 23, 17)] :: ((wsL_issue_r1 ++ (wsL_issue_r2 ++ (wsL_issue_r3 ++ (wsL_issue_r4 ++ wsL_issue_r5)))) ++ wsX20 ++ wsX10 ++ wsX00 ++ (vx_atS RX2 45 "java/lang/IllegalArgumentException" ["java/lang/RuntimeException", "java/lang/Exception"]).filter goodWord ++ (vx_atS RX2 58 "java/lang/IllegalStateException" ["java/lang/RuntimeException", "java/lang/Exception"]).filter goodWord ++ (vx_atS RX2 134 "java/lang/IndexOutOfBoundsException" ["java/lang/RuntimeException", "java/lang/Exception"]).filter goodWord)
def wsL_pass_r1 : List Cond := [Cond.classLink RL 15 "java/lang/IllegalArgumentException", Cond.classLink RL 17 "java/lang/IllegalStateException", Cond.methodLink RL 33 yX2_pass, Cond.instanceMethod yX2_pass, Cond.selects RX2 yX2_pass yX2_pass, Cond.initialized RX2, Cond.code yX2_pass cX2_pass 4 (some .int), Cond.classLink RX2 41 "java/lang/IllegalArgumentException", Cond.initialized "java/lang/IllegalArgumentException", Cond.classLink RX2 54 "java/lang/IllegalStateException", Cond.initialized "java/lang/IllegalStateException", Cond.fieldLink RX2 31 "CertHerd" "dayNow" "I", Cond.methodLink RX2 103 yX2_renewDueCertificates, Cond.instanceMethod yX2_renewDueCertificates, Cond.selects RX2 yX2_renewDueCertificates yX2_renewDueCertificates, Cond.code yX2_renewDueCertificates cX2_renewDueCertificates 7 (some .int), Cond.fieldLink RX2 19 "CertHerd" "certificateTable" "LCertHerd$CertificateTable;", Cond.fieldLink RX2 135 "CertHerd$CertificateTable" "queue" "[I", Cond.fieldLink RX2 114 "CertHerd$CertificateTable" "issuerNumbers" "[I", Cond.fieldLink RX2 193 "CertHerd$CertificateTable" "subjects" "[I", Cond.fieldLink RX2 124 "CertHerd$CertificateTable" "renewals" "[I", Cond.fieldLink RX2 196 "CertHerd$CertificateTable" "lengths" "[I", Cond.methodLink RX2 127 yX0_fillQueue, Cond.instanceMethod yX0_fillQueue]
def wsL_pass_r2 : List Cond := [Cond.selects RX0 yX0_fillQueue yX0_fillQueue, Cond.initialized RX0, Cond.code yX0_fillQueue cX0_fillQueue 4 (some .int), Cond.fieldLink RX0 33 "CertHerd$CertificateTable" "count" "I", Cond.methodLink RX0 47 yX0_isWaiting, Cond.instanceMethod yX0_isWaiting, Cond.selects RX0 yX0_isWaiting yX0_isWaiting, Cond.code yX0_isWaiting cX0_isWaiting 3 (some .boolean), Cond.fieldLink RX0 27 "CertHerd$CertificateTable" "renewals" "[I", Cond.methodLink RX0 37 yX0_dueDayOf, Cond.instanceMethod yX0_dueDayOf, Cond.selects RX0 yX0_dueDayOf yX0_dueDayOf, Cond.code yX0_dueDayOf cX0_dueDayOf 2 (some .int), Cond.fieldLink RX0 18 "CertHerd$CertificateTable" "firstDays" "[I", Cond.fieldLink RX0 21 "CertHerd$CertificateTable" "lengths" "[I", Cond.fieldLink RX0 24 "CertHerd$CertificateTable" "offsets" "[I", Cond.methodLink RX0 41 yX0_endOf, Cond.instanceMethod yX0_endOf, Cond.selects RX0 yX0_endOf yX0_endOf, Cond.code yX0_endOf cX0_endOf 2 (some .int), Cond.methodLink RX0 51 yX0_insert, Cond.instanceMethod yX0_insert, Cond.selects RX0 yX0_insert yX0_insert, Cond.code yX0_insert cX0_insert 4 none]
def wsL_pass_r3 : List Cond := [Cond.fieldLink RX0 30 "CertHerd$CertificateTable" "queue" "[I", Cond.methodLink RX2 90 yX2_canIssue, Cond.instanceMethod yX2_canIssue, Cond.selects RX2 yX2_canIssue yX2_canIssue, Cond.code yX2_canIssue cX2_canIssue 3 (some .boolean), Cond.fieldLink RX2 10 "CertHerd" "issuerTable" "LCertHerd$IssuerTable;", Cond.methodLink RX2 170 yX0_isFull, Cond.instanceMethod yX0_isFull, Cond.selects RX0 yX0_isFull yX0_isFull, Cond.code yX0_isFull cX0_isFull 1 (some .boolean), Cond.methodLink RX2 138 yX2_roomThisWeek, Cond.instanceMethod yX2_roomThisWeek, Cond.selects RX2 yX2_roomThisWeek yX2_roomThisWeek, Cond.code yX2_roomThisWeek cX2_roomThisWeek 2 (some .int), Cond.fieldLink RX2 177 "CertHerd$IssuerTable" "limits" "[I", Cond.methodLink RX2 180 yX2_weekOf, Cond.static yX2_weekOf, Cond.code yX2_weekOf cX2_weekOf 1 (some .int), Cond.methodLink RX2 183 yX0_issuedInWeek, Cond.instanceMethod yX0_issuedInWeek, Cond.selects RX0 yX0_issuedInWeek yX0_issuedInWeek, Cond.code yX0_issuedInWeek cX0_issuedInWeek 5 (some .int), Cond.fieldLink RX0 11 "CertHerd$CertificateTable" "issuerNumbers" "[I", Cond.methodLink RX2 171 yX2_mayIssueFor]
def wsL_pass_r4 : List Cond := [Cond.instanceMethod yX2_mayIssueFor, Cond.selects RX2 yX2_mayIssueFor yX2_mayIssueFor, Cond.code yX2_mayIssueFor cX2_mayIssueFor 6 (some .boolean), Cond.fieldLink RX2 23 "CertHerd" "pinsOfName" "[I", Cond.methodLink RX2 174 yX2_namesOf, Cond.static yX2_namesOf, Cond.code yX2_namesOf cX2_namesOf 1 (some .int), Cond.methodLink RX2 145 yX2_contains, Cond.static yX2_contains, Cond.code yX2_contains cX2_contains 2 (some .boolean), Cond.methodLink RX2 141 yX1_goodOn, Cond.instanceMethod yX1_goodOn, Cond.selects RX1 yX1_goodOn yX1_goodOn, Cond.initialized RX1, Cond.code yX1_goodOn cX1_goodOn 5 (some .int), Cond.fieldLink RX1 36 "CertHerd$IssuerTable" "count" "I", Cond.methodLink RX1 57 yX1_standsOn, Cond.instanceMethod yX1_standsOn, Cond.selects RX1 yX1_standsOn yX1_standsOn, Cond.code yX1_standsOn cX1_standsOn 4 (some .boolean), Cond.fieldLink RX1 27 "CertHerd$IssuerTable" "distrustDays" "[I", Cond.fieldLink RX1 18 "CertHerd$IssuerTable" "firstDays" "[I", Cond.fieldLink RX1 21 "CertHerd$IssuerTable" "endDays" "[I", Cond.methodLink RX1 61 yX1_isHeldBy]
def wsL_pass_r5 : List Cond := [Cond.instanceMethod yX1_isHeldBy, Cond.selects RX1 yX1_isHeldBy yX1_isHeldBy, Cond.code yX1_isHeldBy cX1_isHeldBy 3 (some .boolean), Cond.fieldLink RX1 11 "CertHerd$IssuerTable" "firstSigners" "[I", Cond.fieldLink RX1 15 "CertHerd$IssuerTable" "secondSigners" "[I", Cond.methodLink RX1 44 yX1_isRoot, Cond.instanceMethod yX1_isRoot, Cond.selects RX1 yX1_isRoot yX1_isRoot, Cond.code yX1_isRoot cX1_isRoot 2 (some .boolean), Cond.methodLink RX2 95 yX2_makeCertificate, Cond.instanceMethod yX2_makeCertificate, Cond.selects RX2 yX2_makeCertificate yX2_makeCertificate, Cond.code yX2_makeCertificate cX2_makeCertificate 4 (some .int), Cond.methodLink RX2 186 yX2_drawOffset, Cond.instanceMethod yX2_drawOffset, Cond.selects RX2 yX2_drawOffset yX2_drawOffset, Cond.code yX2_drawOffset cX2_drawOffset 2 (some .int), Cond.fieldLink RX2 27 "CertHerd" "seedNow" "I", Cond.constant RX2 192 (1103515245), Cond.methodLink RX2 189 yX0_append, Cond.instanceMethod yX0_append, Cond.selects RX0 yX0_append yX0_append, Cond.code yX0_append cX0_append 7 (some .int), Cond.fieldLink RX0 15 "CertHerd$CertificateTable" "subjects" "[I"]
def wsL_pass : List Cond := .codeWith yL_pass cL_pass 4 (some .int) [(0, 9, 12, 15), (0, 9, 15, 17)] :: ((wsL_pass_r1 ++ (wsL_pass_r2 ++ (wsL_pass_r3 ++ (wsL_pass_r4 ++ wsL_pass_r5)))) ++ wsX20 ++ wsX00 ++ wsX10 ++ (vx_atS RX2 45 "java/lang/IllegalArgumentException" ["java/lang/RuntimeException", "java/lang/Exception"]).filter goodWord ++ (vx_atS RX2 58 "java/lang/IllegalStateException" ["java/lang/RuntimeException", "java/lang/Exception"]).filter goodWord)
def wsL_issuerOf : List Cond := .codeWith yL_issuerOf cL_issuerOf 4 (some .int) [(0, 9, 12, 13)] :: ([.classLink RL 13 "java/lang/IndexOutOfBoundsException", .methodLink RL 37 yX2_issuerOf, .instanceMethod yX2_issuerOf, .selects RX2 yX2_issuerOf yX2_issuerOf, .initialized RX2, .code yX2_issuerOf cX2_issuerOf 2 (some .int), .fieldLink RX2 19 "CertHerd" "certificateTable" "LCertHerd$CertificateTable;", .fieldLink RX2 114 "CertHerd$CertificateTable" "issuerNumbers" "[I", .methodLink RX2 111 yX2_checkCertificate, .instanceMethod yX2_checkCertificate, .selects RX2 yX2_checkCertificate yX2_checkCertificate, .code yX2_checkCertificate cX2_checkCertificate 2 none, .classLink RX2 130 "java/lang/IndexOutOfBoundsException", .initialized "java/lang/IndexOutOfBoundsException", .fieldLink RX2 110 "CertHerd$CertificateTable" "count" "I"] ++ wsX20 ++ wsX00 ++ (vx_atS RX2 134 "java/lang/IndexOutOfBoundsException" ["java/lang/RuntimeException", "java/lang/Exception"]).filter goodWord)
def wsL_lastDay : List Cond := .codeWith yL_lastDay cL_lastDay 4 (some .int) [(0, 9, 12, 13)] :: ([.classLink RL 13 "java/lang/IndexOutOfBoundsException", .methodLink RL 40 yX2_lastDay, .instanceMethod yX2_lastDay, .selects RX2 yX2_lastDay yX2_lastDay, .initialized RX2, .code yX2_lastDay cX2_lastDay 2 (some .int), .fieldLink RX2 19 "CertHerd" "certificateTable" "LCertHerd$CertificateTable;", .methodLink RX2 111 yX2_checkCertificate, .instanceMethod yX2_checkCertificate, .selects RX2 yX2_checkCertificate yX2_checkCertificate, .code yX2_checkCertificate cX2_checkCertificate 2 none, .classLink RX2 130 "java/lang/IndexOutOfBoundsException", .initialized "java/lang/IndexOutOfBoundsException", .fieldLink RX2 110 "CertHerd$CertificateTable" "count" "I", .methodLink RX2 117 yX0_endOf, .instanceMethod yX0_endOf, .selects RX0 yX0_endOf yX0_endOf, .initialized RX0, .code yX0_endOf cX0_endOf 2 (some .int), .fieldLink RX0 18 "CertHerd$CertificateTable" "firstDays" "[I", .fieldLink RX0 21 "CertHerd$CertificateTable" "lengths" "[I"] ++ wsX20 ++ wsX00 ++ (vx_atS RX2 134 "java/lang/IndexOutOfBoundsException" ["java/lang/RuntimeException", "java/lang/Exception"]).filter goodWord)
def wsL_dueOn : List Cond := .codeWith yL_dueOn cL_dueOn 4 (some .int) [(0, 9, 12, 13)] :: ([.classLink RL 13 "java/lang/IndexOutOfBoundsException", .methodLink RL 43 yX2_dueOn, .instanceMethod yX2_dueOn, .selects RX2 yX2_dueOn yX2_dueOn, .initialized RX2, .code yX2_dueOn cX2_dueOn 2 (some .int), .fieldLink RX2 19 "CertHerd" "certificateTable" "LCertHerd$CertificateTable;", .methodLink RX2 111 yX2_checkCertificate, .instanceMethod yX2_checkCertificate, .selects RX2 yX2_checkCertificate yX2_checkCertificate, .code yX2_checkCertificate cX2_checkCertificate 2 none, .classLink RX2 130 "java/lang/IndexOutOfBoundsException", .initialized "java/lang/IndexOutOfBoundsException", .fieldLink RX2 110 "CertHerd$CertificateTable" "count" "I", .methodLink RX2 121 yX0_dueDayOf, .instanceMethod yX0_dueDayOf, .selects RX0 yX0_dueDayOf yX0_dueDayOf, .initialized RX0, .code yX0_dueDayOf cX0_dueDayOf 2 (some .int), .fieldLink RX0 18 "CertHerd$CertificateTable" "firstDays" "[I", .fieldLink RX0 21 "CertHerd$CertificateTable" "lengths" "[I", .fieldLink RX0 24 "CertHerd$CertificateTable" "offsets" "[I"] ++ wsX20 ++ wsX00 ++ (vx_atS RX2 134 "java/lang/IndexOutOfBoundsException" ["java/lang/RuntimeException", "java/lang/Exception"]).filter goodWord)
def wsL_renewal : List Cond := .codeWith yL_renewal cL_renewal 4 (some .int) [(0, 9, 12, 13)] :: ([.classLink RL 13 "java/lang/IndexOutOfBoundsException", .methodLink RL 46 yX2_renewal, .instanceMethod yX2_renewal, .selects RX2 yX2_renewal yX2_renewal, .initialized RX2, .code yX2_renewal cX2_renewal 2 (some .int), .fieldLink RX2 19 "CertHerd" "certificateTable" "LCertHerd$CertificateTable;", .fieldLink RX2 124 "CertHerd$CertificateTable" "renewals" "[I", .methodLink RX2 111 yX2_checkCertificate, .instanceMethod yX2_checkCertificate, .selects RX2 yX2_checkCertificate yX2_checkCertificate, .code yX2_checkCertificate cX2_checkCertificate 2 none, .classLink RX2 130 "java/lang/IndexOutOfBoundsException", .initialized "java/lang/IndexOutOfBoundsException", .fieldLink RX2 110 "CertHerd$CertificateTable" "count" "I"] ++ wsX20 ++ wsX00 ++ (vx_atS RX2 134 "java/lang/IndexOutOfBoundsException" ["java/lang/RuntimeException", "java/lang/Exception"]).filter goodWord)
def wsL_waitingAt_r1 : List Cond := [Cond.classLink RL 13 "java/lang/IndexOutOfBoundsException", Cond.methodLink RL 49 yX2_waitingAt, Cond.instanceMethod yX2_waitingAt, Cond.selects RX2 yX2_waitingAt yX2_waitingAt, Cond.initialized RX2, Cond.code yX2_waitingAt cX2_waitingAt 3 (some .int), Cond.classLink RX2 130 "java/lang/IndexOutOfBoundsException", Cond.initialized "java/lang/IndexOutOfBoundsException", Cond.fieldLink RX2 19 "CertHerd" "certificateTable" "LCertHerd$CertificateTable;", Cond.fieldLink RX2 31 "CertHerd" "dayNow" "I", Cond.fieldLink RX2 135 "CertHerd$CertificateTable" "queue" "[I", Cond.methodLink RX2 127 yX0_fillQueue, Cond.instanceMethod yX0_fillQueue, Cond.selects RX0 yX0_fillQueue yX0_fillQueue, Cond.initialized RX0, Cond.code yX0_fillQueue cX0_fillQueue 4 (some .int), Cond.fieldLink RX0 33 "CertHerd$CertificateTable" "count" "I", Cond.methodLink RX0 47 yX0_isWaiting, Cond.instanceMethod yX0_isWaiting, Cond.selects RX0 yX0_isWaiting yX0_isWaiting, Cond.code yX0_isWaiting cX0_isWaiting 3 (some .boolean), Cond.fieldLink RX0 27 "CertHerd$CertificateTable" "renewals" "[I", Cond.methodLink RX0 37 yX0_dueDayOf, Cond.instanceMethod yX0_dueDayOf]
def wsL_waitingAt_r2 : List Cond := [Cond.selects RX0 yX0_dueDayOf yX0_dueDayOf, Cond.code yX0_dueDayOf cX0_dueDayOf 2 (some .int), Cond.fieldLink RX0 18 "CertHerd$CertificateTable" "firstDays" "[I", Cond.fieldLink RX0 21 "CertHerd$CertificateTable" "lengths" "[I", Cond.fieldLink RX0 24 "CertHerd$CertificateTable" "offsets" "[I", Cond.methodLink RX0 41 yX0_endOf, Cond.instanceMethod yX0_endOf, Cond.selects RX0 yX0_endOf yX0_endOf, Cond.code yX0_endOf cX0_endOf 2 (some .int), Cond.methodLink RX0 51 yX0_insert, Cond.instanceMethod yX0_insert, Cond.selects RX0 yX0_insert yX0_insert, Cond.code yX0_insert cX0_insert 4 none, Cond.fieldLink RX0 30 "CertHerd$CertificateTable" "queue" "[I"]
def wsL_waitingAt : List Cond := .codeWith yL_waitingAt cL_waitingAt 4 (some .int) [(0, 9, 12, 13)] :: ((wsL_waitingAt_r1 ++ wsL_waitingAt_r2) ++ wsX20 ++ wsX00 ++ (vx_atS RX2 134 "java/lang/IndexOutOfBoundsException" ["java/lang/RuntimeException", "java/lang/Exception"]).filter goodWord)
def wsL_room_r1 : List Cond := [Cond.classLink RL 13 "java/lang/IndexOutOfBoundsException", Cond.methodLink RL 52 yX2_room, Cond.instanceMethod yX2_room, Cond.selects RX2 yX2_room yX2_room, Cond.initialized RX2, Cond.code yX2_room cX2_room 2 (some .int), Cond.methodLink RX2 34 yX2_checkIssuer, Cond.instanceMethod yX2_checkIssuer, Cond.selects RX2 yX2_checkIssuer yX2_checkIssuer, Cond.code yX2_checkIssuer cX2_checkIssuer 2 none, Cond.classLink RX2 130 "java/lang/IndexOutOfBoundsException", Cond.initialized "java/lang/IndexOutOfBoundsException", Cond.fieldLink RX2 10 "CertHerd" "issuerTable" "LCertHerd$IssuerTable;", Cond.fieldLink RX2 107 "CertHerd$IssuerTable" "count" "I", Cond.methodLink RX2 138 yX2_roomThisWeek, Cond.instanceMethod yX2_roomThisWeek, Cond.selects RX2 yX2_roomThisWeek yX2_roomThisWeek, Cond.code yX2_roomThisWeek cX2_roomThisWeek 2 (some .int), Cond.fieldLink RX2 177 "CertHerd$IssuerTable" "limits" "[I", Cond.fieldLink RX2 19 "CertHerd" "certificateTable" "LCertHerd$CertificateTable;", Cond.fieldLink RX2 31 "CertHerd" "dayNow" "I", Cond.methodLink RX2 180 yX2_weekOf, Cond.static yX2_weekOf, Cond.code yX2_weekOf cX2_weekOf 1 (some .int)]
def wsL_room_r2 : List Cond := [Cond.methodLink RX2 183 yX0_issuedInWeek, Cond.instanceMethod yX0_issuedInWeek, Cond.selects RX0 yX0_issuedInWeek yX0_issuedInWeek, Cond.initialized RX0, Cond.code yX0_issuedInWeek cX0_issuedInWeek 5 (some .int), Cond.fieldLink RX0 33 "CertHerd$CertificateTable" "count" "I", Cond.fieldLink RX0 11 "CertHerd$CertificateTable" "issuerNumbers" "[I", Cond.fieldLink RX0 18 "CertHerd$CertificateTable" "firstDays" "[I"]
def wsL_room : List Cond := .codeWith yL_room cL_room 4 (some .int) [(0, 9, 12, 13)] :: ((wsL_room_r1 ++ wsL_room_r2) ++ wsX20 ++ wsX10 ++ wsX00 ++ (vx_atS RX2 134 "java/lang/IndexOutOfBoundsException" ["java/lang/RuntimeException", "java/lang/Exception"]).filter goodWord)
def wsL_isGood_r1 : List Cond := [Cond.classLink RL 13 "java/lang/IndexOutOfBoundsException", Cond.classLink RL 15 "java/lang/IllegalArgumentException", Cond.methodLink RL 55 yX2_isGood, Cond.instanceMethod yX2_isGood, Cond.selects RX2 yX2_isGood yX2_isGood, Cond.initialized RX2, Cond.code yX2_isGood cX2_isGood 3 (some .boolean), Cond.fieldLink RX2 10 "CertHerd" "issuerTable" "LCertHerd$IssuerTable;", Cond.methodLink RX2 34 yX2_checkIssuer, Cond.instanceMethod yX2_checkIssuer, Cond.selects RX2 yX2_checkIssuer yX2_checkIssuer, Cond.code yX2_checkIssuer cX2_checkIssuer 2 none, Cond.classLink RX2 130 "java/lang/IndexOutOfBoundsException", Cond.initialized "java/lang/IndexOutOfBoundsException", Cond.fieldLink RX2 107 "CertHerd$IssuerTable" "count" "I", Cond.methodLink RX2 38 yX2_checkDay, Cond.static yX2_checkDay, Cond.code yX2_checkDay cX2_checkDay 1 none, Cond.classLink RX2 41 "java/lang/IllegalArgumentException", Cond.initialized "java/lang/IllegalArgumentException", Cond.methodLink RX2 141 yX1_goodOn, Cond.instanceMethod yX1_goodOn, Cond.selects RX1 yX1_goodOn yX1_goodOn, Cond.initialized RX1]
def wsL_isGood_r2 : List Cond := [Cond.code yX1_goodOn cX1_goodOn 5 (some .int), Cond.fieldLink RX1 36 "CertHerd$IssuerTable" "count" "I", Cond.methodLink RX1 57 yX1_standsOn, Cond.instanceMethod yX1_standsOn, Cond.selects RX1 yX1_standsOn yX1_standsOn, Cond.code yX1_standsOn cX1_standsOn 4 (some .boolean), Cond.fieldLink RX1 27 "CertHerd$IssuerTable" "distrustDays" "[I", Cond.fieldLink RX1 18 "CertHerd$IssuerTable" "firstDays" "[I", Cond.fieldLink RX1 21 "CertHerd$IssuerTable" "endDays" "[I", Cond.methodLink RX1 61 yX1_isHeldBy, Cond.instanceMethod yX1_isHeldBy, Cond.selects RX1 yX1_isHeldBy yX1_isHeldBy, Cond.code yX1_isHeldBy cX1_isHeldBy 3 (some .boolean), Cond.fieldLink RX1 11 "CertHerd$IssuerTable" "firstSigners" "[I", Cond.fieldLink RX1 15 "CertHerd$IssuerTable" "secondSigners" "[I", Cond.methodLink RX1 44 yX1_isRoot, Cond.instanceMethod yX1_isRoot, Cond.selects RX1 yX1_isRoot yX1_isRoot, Cond.code yX1_isRoot cX1_isRoot 2 (some .boolean), Cond.static yX2_contains, Cond.code yX2_contains cX2_contains 2 (some .boolean), Cond.methodLink RX2 145 yX2_contains]
def wsL_isGood : List Cond := .codeWith yL_isGood cL_isGood 5 (some .int) [(0, 17, 20, 13), (0, 17, 24, 15)] :: ((wsL_isGood_r1 ++ wsL_isGood_r2) ++ wsX20 ++ wsX10 ++ (vx_atS RX2 134 "java/lang/IndexOutOfBoundsException" ["java/lang/RuntimeException", "java/lang/Exception"]).filter goodWord ++ (vx_atS RX2 45 "java/lang/IllegalArgumentException" ["java/lang/RuntimeException", "java/lang/Exception"]).filter goodWord)
def wsL_chainEnd : List Cond := .codeWith yL_chainEnd cL_chainEnd 4 (some .int) [(0, 9, 12, 13)] :: ([.classLink RL 13 "java/lang/IndexOutOfBoundsException", .methodLink RL 59 yX2_chainEnd, .instanceMethod yX2_chainEnd, .selects RX2 yX2_chainEnd yX2_chainEnd, .initialized RX2, .code yX2_chainEnd cX2_chainEnd 2 (some .int), .fieldLink RX2 10 "CertHerd" "issuerTable" "LCertHerd$IssuerTable;", .fieldLink RX2 75 "CertHerd$IssuerTable" "chainEnds" "[I", .methodLink RX2 34 yX2_checkIssuer, .instanceMethod yX2_checkIssuer, .selects RX2 yX2_checkIssuer yX2_checkIssuer, .code yX2_checkIssuer cX2_checkIssuer 2 none, .classLink RX2 130 "java/lang/IndexOutOfBoundsException", .initialized "java/lang/IndexOutOfBoundsException", .fieldLink RX2 107 "CertHerd$IssuerTable" "count" "I"] ++ wsX20 ++ wsX10 ++ (vx_atS RX2 134 "java/lang/IndexOutOfBoundsException" ["java/lang/RuntimeException", "java/lang/Exception"]).filter goodWord)
def wsL_chains : List Cond := .codeWith yL_chains cL_chains 4 (some .int) [(0, 9, 12, 13)] :: ([.classLink RL 13 "java/lang/IndexOutOfBoundsException", .methodLink RL 62 yX2_chains, .instanceMethod yX2_chains, .selects RX2 yX2_chains yX2_chains, .initialized RX2, .code yX2_chains cX2_chains 2 (some .int), .fieldLink RX2 10 "CertHerd" "issuerTable" "LCertHerd$IssuerTable;", .fieldLink RX2 148 "CertHerd$IssuerTable" "chainCounts" "[I", .methodLink RX2 34 yX2_checkIssuer, .instanceMethod yX2_checkIssuer, .selects RX2 yX2_checkIssuer yX2_checkIssuer, .code yX2_checkIssuer cX2_checkIssuer 2 none, .classLink RX2 130 "java/lang/IndexOutOfBoundsException", .initialized "java/lang/IndexOutOfBoundsException", .fieldLink RX2 107 "CertHerd$IssuerTable" "count" "I"] ++ wsX20 ++ wsX10 ++ (vx_atS RX2 134 "java/lang/IndexOutOfBoundsException" ["java/lang/RuntimeException", "java/lang/Exception"]).filter goodWord)
def wsL_isCovered_r1 : List Cond := [Cond.classLink RL 13 "java/lang/IndexOutOfBoundsException", Cond.classLink RL 15 "java/lang/IllegalArgumentException", Cond.methodLink RL 65 yX2_isCovered, Cond.instanceMethod yX2_isCovered, Cond.selects RX2 yX2_isCovered yX2_isCovered, Cond.initialized RX2, Cond.code yX2_isCovered cX2_isCovered 3 (some .boolean), Cond.methodLink RX2 81 yX2_checkName, Cond.static yX2_checkName, Cond.code yX2_checkName cX2_checkName 1 none, Cond.classLink RX2 130 "java/lang/IndexOutOfBoundsException", Cond.initialized "java/lang/IndexOutOfBoundsException", Cond.methodLink RX2 38 yX2_checkDay, Cond.static yX2_checkDay, Cond.code yX2_checkDay cX2_checkDay 1 none, Cond.classLink RX2 41 "java/lang/IllegalArgumentException", Cond.initialized "java/lang/IllegalArgumentException", Cond.methodLink RX2 151 yX2_namesCovered, Cond.instanceMethod yX2_namesCovered, Cond.selects RX2 yX2_namesCovered yX2_namesCovered, Cond.code yX2_namesCovered cX2_namesCovered 3 (some .int), Cond.fieldLink RX2 19 "CertHerd" "certificateTable" "LCertHerd$CertificateTable;", Cond.fieldLink RX2 10 "CertHerd" "issuerTable" "LCertHerd$IssuerTable;", Cond.methodLink RX2 141 yX1_goodOn]
def wsL_isCovered_r2 : List Cond := [Cond.instanceMethod yX1_goodOn, Cond.selects RX1 yX1_goodOn yX1_goodOn, Cond.initialized RX1, Cond.code yX1_goodOn cX1_goodOn 5 (some .int), Cond.fieldLink RX1 36 "CertHerd$IssuerTable" "count" "I", Cond.methodLink RX1 57 yX1_standsOn, Cond.instanceMethod yX1_standsOn, Cond.selects RX1 yX1_standsOn yX1_standsOn, Cond.code yX1_standsOn cX1_standsOn 4 (some .boolean), Cond.fieldLink RX1 27 "CertHerd$IssuerTable" "distrustDays" "[I", Cond.fieldLink RX1 18 "CertHerd$IssuerTable" "firstDays" "[I", Cond.fieldLink RX1 21 "CertHerd$IssuerTable" "endDays" "[I", Cond.methodLink RX1 61 yX1_isHeldBy, Cond.instanceMethod yX1_isHeldBy, Cond.selects RX1 yX1_isHeldBy yX1_isHeldBy, Cond.code yX1_isHeldBy cX1_isHeldBy 3 (some .boolean), Cond.fieldLink RX1 11 "CertHerd$IssuerTable" "firstSigners" "[I", Cond.fieldLink RX1 15 "CertHerd$IssuerTable" "secondSigners" "[I", Cond.methodLink RX1 44 yX1_isRoot, Cond.instanceMethod yX1_isRoot, Cond.selects RX1 yX1_isRoot yX1_isRoot, Cond.code yX1_isRoot cX1_isRoot 2 (some .boolean), Cond.static yX2_contains, Cond.code yX2_contains cX2_contains 2 (some .boolean)]
def wsL_isCovered_r3 : List Cond := [Cond.methodLink RX2 199 yX0_namesHeld, Cond.instanceMethod yX0_namesHeld, Cond.selects RX0 yX0_namesHeld yX0_namesHeld, Cond.initialized RX0, Cond.code yX0_namesHeld cX0_namesHeld 6 (some .int), Cond.fieldLink RX0 33 "CertHerd$CertificateTable" "count" "I", Cond.fieldLink RX0 18 "CertHerd$CertificateTable" "firstDays" "[I", Cond.fieldLink RX0 11 "CertHerd$CertificateTable" "issuerNumbers" "[I", Cond.fieldLink RX0 15 "CertHerd$CertificateTable" "subjects" "[I", Cond.methodLink RX0 41 yX0_endOf, Cond.instanceMethod yX0_endOf, Cond.selects RX0 yX0_endOf yX0_endOf, Cond.code yX0_endOf cX0_endOf 2 (some .int), Cond.fieldLink RX0 21 "CertHerd$CertificateTable" "lengths" "[I", Cond.static yX2_namesOf, Cond.code yX2_namesOf cX2_namesOf 1 (some .int), Cond.methodLink RX2 145 yX2_contains]
def wsL_isCovered : List Cond := .codeWith yL_isCovered cL_isCovered 5 (some .int) [(0, 17, 20, 13), (0, 17, 24, 15)] :: ((wsL_isCovered_r1 ++ (wsL_isCovered_r2 ++ wsL_isCovered_r3)) ++ wsX20 ++ wsX10 ++ wsX00 ++ (vx_atS RX2 134 "java/lang/IndexOutOfBoundsException" ["java/lang/RuntimeException", "java/lang/Exception"]).filter goodWord ++ (vx_atS RX2 45 "java/lang/IllegalArgumentException" ["java/lang/RuntimeException", "java/lang/Exception"]).filter goodWord)
def wsL_nextGap_r1 : List Cond := [Cond.classLink RL 13 "java/lang/IndexOutOfBoundsException", Cond.classLink RL 15 "java/lang/IllegalArgumentException", Cond.methodLink RL 68 yX2_nextGap, Cond.instanceMethod yX2_nextGap, Cond.selects RX2 yX2_nextGap yX2_nextGap, Cond.initialized RX2, Cond.code yX2_nextGap cX2_nextGap 4 (some .int), Cond.methodLink RX2 81 yX2_checkName, Cond.static yX2_checkName, Cond.code yX2_checkName cX2_checkName 1 none, Cond.classLink RX2 130 "java/lang/IndexOutOfBoundsException", Cond.initialized "java/lang/IndexOutOfBoundsException", Cond.methodLink RX2 38 yX2_checkDay, Cond.static yX2_checkDay, Cond.code yX2_checkDay cX2_checkDay 1 none, Cond.classLink RX2 41 "java/lang/IllegalArgumentException", Cond.initialized "java/lang/IllegalArgumentException", Cond.methodLink RX2 151 yX2_namesCovered, Cond.instanceMethod yX2_namesCovered, Cond.selects RX2 yX2_namesCovered yX2_namesCovered, Cond.code yX2_namesCovered cX2_namesCovered 3 (some .int), Cond.fieldLink RX2 19 "CertHerd" "certificateTable" "LCertHerd$CertificateTable;", Cond.fieldLink RX2 10 "CertHerd" "issuerTable" "LCertHerd$IssuerTable;", Cond.methodLink RX2 141 yX1_goodOn]
def wsL_nextGap_r2 : List Cond := [Cond.instanceMethod yX1_goodOn, Cond.selects RX1 yX1_goodOn yX1_goodOn, Cond.initialized RX1, Cond.code yX1_goodOn cX1_goodOn 5 (some .int), Cond.fieldLink RX1 36 "CertHerd$IssuerTable" "count" "I", Cond.methodLink RX1 57 yX1_standsOn, Cond.instanceMethod yX1_standsOn, Cond.selects RX1 yX1_standsOn yX1_standsOn, Cond.code yX1_standsOn cX1_standsOn 4 (some .boolean), Cond.fieldLink RX1 27 "CertHerd$IssuerTable" "distrustDays" "[I", Cond.fieldLink RX1 18 "CertHerd$IssuerTable" "firstDays" "[I", Cond.fieldLink RX1 21 "CertHerd$IssuerTable" "endDays" "[I", Cond.methodLink RX1 61 yX1_isHeldBy, Cond.instanceMethod yX1_isHeldBy, Cond.selects RX1 yX1_isHeldBy yX1_isHeldBy, Cond.code yX1_isHeldBy cX1_isHeldBy 3 (some .boolean), Cond.fieldLink RX1 11 "CertHerd$IssuerTable" "firstSigners" "[I", Cond.fieldLink RX1 15 "CertHerd$IssuerTable" "secondSigners" "[I", Cond.methodLink RX1 44 yX1_isRoot, Cond.instanceMethod yX1_isRoot, Cond.selects RX1 yX1_isRoot yX1_isRoot, Cond.code yX1_isRoot cX1_isRoot 2 (some .boolean), Cond.static yX2_contains, Cond.code yX2_contains cX2_contains 2 (some .boolean)]
def wsL_nextGap_r3 : List Cond := [Cond.methodLink RX2 199 yX0_namesHeld, Cond.instanceMethod yX0_namesHeld, Cond.selects RX0 yX0_namesHeld yX0_namesHeld, Cond.initialized RX0, Cond.code yX0_namesHeld cX0_namesHeld 6 (some .int), Cond.fieldLink RX0 33 "CertHerd$CertificateTable" "count" "I", Cond.fieldLink RX0 18 "CertHerd$CertificateTable" "firstDays" "[I", Cond.fieldLink RX0 11 "CertHerd$CertificateTable" "issuerNumbers" "[I", Cond.fieldLink RX0 15 "CertHerd$CertificateTable" "subjects" "[I", Cond.methodLink RX0 41 yX0_endOf, Cond.instanceMethod yX0_endOf, Cond.selects RX0 yX0_endOf yX0_endOf, Cond.code yX0_endOf cX0_endOf 2 (some .int), Cond.fieldLink RX0 21 "CertHerd$CertificateTable" "lengths" "[I", Cond.static yX2_namesOf, Cond.code yX2_namesOf cX2_namesOf 1 (some .int), Cond.methodLink RX2 145 yX2_contains]
def wsL_nextGap : List Cond := .codeWith yL_nextGap cL_nextGap 5 (some .int) [(0, 10, 13, 13), (0, 10, 17, 15)] :: ((wsL_nextGap_r1 ++ (wsL_nextGap_r2 ++ wsL_nextGap_r3)) ++ wsX20 ++ wsX10 ++ wsX00 ++ (vx_atS RX2 134 "java/lang/IndexOutOfBoundsException" ["java/lang/RuntimeException", "java/lang/Exception"]).filter goodWord ++ (vx_atS RX2 45 "java/lang/IllegalArgumentException" ["java/lang/RuntimeException", "java/lang/Exception"]).filter goodWord)
def wsL_covered_r1 : List Cond := [Cond.classLink RL 15 "java/lang/IllegalArgumentException", Cond.methodLink RL 71 yX2_covered, Cond.instanceMethod yX2_covered, Cond.selects RX2 yX2_covered yX2_covered, Cond.initialized RX2, Cond.code yX2_covered cX2_covered 2 (some .int), Cond.methodLink RX2 38 yX2_checkDay, Cond.static yX2_checkDay, Cond.code yX2_checkDay cX2_checkDay 1 none, Cond.classLink RX2 41 "java/lang/IllegalArgumentException", Cond.initialized "java/lang/IllegalArgumentException", Cond.methodLink RX2 151 yX2_namesCovered, Cond.instanceMethod yX2_namesCovered, Cond.selects RX2 yX2_namesCovered yX2_namesCovered, Cond.code yX2_namesCovered cX2_namesCovered 3 (some .int), Cond.fieldLink RX2 19 "CertHerd" "certificateTable" "LCertHerd$CertificateTable;", Cond.fieldLink RX2 10 "CertHerd" "issuerTable" "LCertHerd$IssuerTable;", Cond.methodLink RX2 141 yX1_goodOn, Cond.instanceMethod yX1_goodOn, Cond.selects RX1 yX1_goodOn yX1_goodOn, Cond.initialized RX1, Cond.code yX1_goodOn cX1_goodOn 5 (some .int), Cond.fieldLink RX1 36 "CertHerd$IssuerTable" "count" "I", Cond.methodLink RX1 57 yX1_standsOn]
def wsL_covered_r2 : List Cond := [Cond.instanceMethod yX1_standsOn, Cond.selects RX1 yX1_standsOn yX1_standsOn, Cond.code yX1_standsOn cX1_standsOn 4 (some .boolean), Cond.fieldLink RX1 27 "CertHerd$IssuerTable" "distrustDays" "[I", Cond.fieldLink RX1 18 "CertHerd$IssuerTable" "firstDays" "[I", Cond.fieldLink RX1 21 "CertHerd$IssuerTable" "endDays" "[I", Cond.methodLink RX1 61 yX1_isHeldBy, Cond.instanceMethod yX1_isHeldBy, Cond.selects RX1 yX1_isHeldBy yX1_isHeldBy, Cond.code yX1_isHeldBy cX1_isHeldBy 3 (some .boolean), Cond.fieldLink RX1 11 "CertHerd$IssuerTable" "firstSigners" "[I", Cond.fieldLink RX1 15 "CertHerd$IssuerTable" "secondSigners" "[I", Cond.methodLink RX1 44 yX1_isRoot, Cond.instanceMethod yX1_isRoot, Cond.selects RX1 yX1_isRoot yX1_isRoot, Cond.code yX1_isRoot cX1_isRoot 2 (some .boolean), Cond.static yX2_contains, Cond.code yX2_contains cX2_contains 2 (some .boolean), Cond.methodLink RX2 199 yX0_namesHeld, Cond.instanceMethod yX0_namesHeld, Cond.selects RX0 yX0_namesHeld yX0_namesHeld, Cond.initialized RX0, Cond.code yX0_namesHeld cX0_namesHeld 6 (some .int), Cond.fieldLink RX0 33 "CertHerd$CertificateTable" "count" "I"]
def wsL_covered_r3 : List Cond := [Cond.fieldLink RX0 18 "CertHerd$CertificateTable" "firstDays" "[I", Cond.fieldLink RX0 11 "CertHerd$CertificateTable" "issuerNumbers" "[I", Cond.fieldLink RX0 15 "CertHerd$CertificateTable" "subjects" "[I", Cond.methodLink RX0 41 yX0_endOf, Cond.instanceMethod yX0_endOf, Cond.selects RX0 yX0_endOf yX0_endOf, Cond.code yX0_endOf cX0_endOf 2 (some .int), Cond.fieldLink RX0 21 "CertHerd$CertificateTable" "lengths" "[I", Cond.static yX2_namesOf, Cond.code yX2_namesOf cX2_namesOf 1 (some .int)]
def wsL_covered : List Cond := .codeWith yL_covered cL_covered 4 (some .int) [(0, 9, 12, 15)] :: ((wsL_covered_r1 ++ (wsL_covered_r2 ++ wsL_covered_r3)) ++ wsX20 ++ wsX10 ++ wsX00 ++ (vx_atS RX2 45 "java/lang/IllegalArgumentException" ["java/lang/RuntimeException", "java/lang/Exception"]).filter goodWord)
def wsL_breaks_r1 : List Cond := [Cond.classLink RL 13 "java/lang/IndexOutOfBoundsException", Cond.classLink RL 15 "java/lang/IllegalArgumentException", Cond.methodLink RL 74 yX2_breaks, Cond.instanceMethod yX2_breaks, Cond.selects RX2 yX2_breaks yX2_breaks, Cond.initialized RX2, Cond.code yX2_breaks cX2_breaks 3 (some .int), Cond.methodLink RX2 34 yX2_checkIssuer, Cond.instanceMethod yX2_checkIssuer, Cond.selects RX2 yX2_checkIssuer yX2_checkIssuer, Cond.code yX2_checkIssuer cX2_checkIssuer 2 none, Cond.classLink RX2 130 "java/lang/IndexOutOfBoundsException", Cond.initialized "java/lang/IndexOutOfBoundsException", Cond.fieldLink RX2 10 "CertHerd" "issuerTable" "LCertHerd$IssuerTable;", Cond.fieldLink RX2 107 "CertHerd$IssuerTable" "count" "I", Cond.methodLink RX2 38 yX2_checkDay, Cond.static yX2_checkDay, Cond.code yX2_checkDay cX2_checkDay 1 none, Cond.classLink RX2 41 "java/lang/IllegalArgumentException", Cond.initialized "java/lang/IllegalArgumentException", Cond.methodLink RX2 154 yX2_namesLostWithout, Cond.instanceMethod yX2_namesLostWithout, Cond.selects RX2 yX2_namesLostWithout yX2_namesLostWithout, Cond.code yX2_namesLostWithout cX2_namesLostWithout 3 (some .int)]
def wsL_breaks_r2 : List Cond := [Cond.methodLink RX2 151 yX2_namesCovered, Cond.instanceMethod yX2_namesCovered, Cond.selects RX2 yX2_namesCovered yX2_namesCovered, Cond.code yX2_namesCovered cX2_namesCovered 3 (some .int), Cond.fieldLink RX2 19 "CertHerd" "certificateTable" "LCertHerd$CertificateTable;", Cond.methodLink RX2 141 yX1_goodOn, Cond.instanceMethod yX1_goodOn, Cond.selects RX1 yX1_goodOn yX1_goodOn, Cond.initialized RX1, Cond.code yX1_goodOn cX1_goodOn 5 (some .int), Cond.fieldLink RX1 36 "CertHerd$IssuerTable" "count" "I", Cond.methodLink RX1 57 yX1_standsOn, Cond.instanceMethod yX1_standsOn, Cond.selects RX1 yX1_standsOn yX1_standsOn, Cond.code yX1_standsOn cX1_standsOn 4 (some .boolean), Cond.fieldLink RX1 27 "CertHerd$IssuerTable" "distrustDays" "[I", Cond.fieldLink RX1 18 "CertHerd$IssuerTable" "firstDays" "[I", Cond.fieldLink RX1 21 "CertHerd$IssuerTable" "endDays" "[I", Cond.methodLink RX1 61 yX1_isHeldBy, Cond.instanceMethod yX1_isHeldBy, Cond.selects RX1 yX1_isHeldBy yX1_isHeldBy, Cond.code yX1_isHeldBy cX1_isHeldBy 3 (some .boolean), Cond.fieldLink RX1 11 "CertHerd$IssuerTable" "firstSigners" "[I", Cond.fieldLink RX1 15 "CertHerd$IssuerTable" "secondSigners" "[I"]
def wsL_breaks_r3 : List Cond := [Cond.methodLink RX1 44 yX1_isRoot, Cond.instanceMethod yX1_isRoot, Cond.selects RX1 yX1_isRoot yX1_isRoot, Cond.code yX1_isRoot cX1_isRoot 2 (some .boolean), Cond.static yX2_contains, Cond.code yX2_contains cX2_contains 2 (some .boolean), Cond.methodLink RX2 199 yX0_namesHeld, Cond.instanceMethod yX0_namesHeld, Cond.selects RX0 yX0_namesHeld yX0_namesHeld, Cond.initialized RX0, Cond.code yX0_namesHeld cX0_namesHeld 6 (some .int), Cond.fieldLink RX0 33 "CertHerd$CertificateTable" "count" "I", Cond.fieldLink RX0 18 "CertHerd$CertificateTable" "firstDays" "[I", Cond.fieldLink RX0 11 "CertHerd$CertificateTable" "issuerNumbers" "[I", Cond.fieldLink RX0 15 "CertHerd$CertificateTable" "subjects" "[I", Cond.methodLink RX0 41 yX0_endOf, Cond.instanceMethod yX0_endOf, Cond.selects RX0 yX0_endOf yX0_endOf, Cond.code yX0_endOf cX0_endOf 2 (some .int), Cond.fieldLink RX0 21 "CertHerd$CertificateTable" "lengths" "[I", Cond.static yX2_namesOf, Cond.code yX2_namesOf cX2_namesOf 1 (some .int)]
def wsL_breaks : List Cond := .codeWith yL_breaks cL_breaks 5 (some .int) [(0, 10, 13, 13), (0, 10, 17, 15)] :: ((wsL_breaks_r1 ++ (wsL_breaks_r2 ++ wsL_breaks_r3)) ++ wsX20 ++ wsX10 ++ wsX00 ++ (vx_atS RX2 134 "java/lang/IndexOutOfBoundsException" ["java/lang/RuntimeException", "java/lang/Exception"]).filter goodWord ++ (vx_atS RX2 45 "java/lang/IllegalArgumentException" ["java/lang/RuntimeException", "java/lang/Exception"]).filter goodWord)
def wsL_weakest_r1 : List Cond := [Cond.classLink RL 15 "java/lang/IllegalArgumentException", Cond.methodLink RL 77 yX2_weakest, Cond.instanceMethod yX2_weakest, Cond.selects RX2 yX2_weakest yX2_weakest, Cond.initialized RX2, Cond.code yX2_weakest cX2_weakest 6 (some .int), Cond.fieldLink RX2 10 "CertHerd" "issuerTable" "LCertHerd$IssuerTable;", Cond.fieldLink RX2 107 "CertHerd$IssuerTable" "count" "I", Cond.methodLink RX2 38 yX2_checkDay, Cond.static yX2_checkDay, Cond.code yX2_checkDay cX2_checkDay 1 none, Cond.classLink RX2 41 "java/lang/IllegalArgumentException", Cond.initialized "java/lang/IllegalArgumentException", Cond.methodLink RX2 154 yX2_namesLostWithout, Cond.instanceMethod yX2_namesLostWithout, Cond.selects RX2 yX2_namesLostWithout yX2_namesLostWithout, Cond.code yX2_namesLostWithout cX2_namesLostWithout 3 (some .int), Cond.methodLink RX2 151 yX2_namesCovered, Cond.instanceMethod yX2_namesCovered, Cond.selects RX2 yX2_namesCovered yX2_namesCovered, Cond.code yX2_namesCovered cX2_namesCovered 3 (some .int), Cond.fieldLink RX2 19 "CertHerd" "certificateTable" "LCertHerd$CertificateTable;", Cond.methodLink RX2 141 yX1_goodOn, Cond.instanceMethod yX1_goodOn]
def wsL_weakest_r2 : List Cond := [Cond.selects RX1 yX1_goodOn yX1_goodOn, Cond.initialized RX1, Cond.code yX1_goodOn cX1_goodOn 5 (some .int), Cond.fieldLink RX1 36 "CertHerd$IssuerTable" "count" "I", Cond.methodLink RX1 57 yX1_standsOn, Cond.instanceMethod yX1_standsOn, Cond.selects RX1 yX1_standsOn yX1_standsOn, Cond.code yX1_standsOn cX1_standsOn 4 (some .boolean), Cond.fieldLink RX1 27 "CertHerd$IssuerTable" "distrustDays" "[I", Cond.fieldLink RX1 18 "CertHerd$IssuerTable" "firstDays" "[I", Cond.fieldLink RX1 21 "CertHerd$IssuerTable" "endDays" "[I", Cond.methodLink RX1 61 yX1_isHeldBy, Cond.instanceMethod yX1_isHeldBy, Cond.selects RX1 yX1_isHeldBy yX1_isHeldBy, Cond.code yX1_isHeldBy cX1_isHeldBy 3 (some .boolean), Cond.fieldLink RX1 11 "CertHerd$IssuerTable" "firstSigners" "[I", Cond.fieldLink RX1 15 "CertHerd$IssuerTable" "secondSigners" "[I", Cond.methodLink RX1 44 yX1_isRoot, Cond.instanceMethod yX1_isRoot, Cond.selects RX1 yX1_isRoot yX1_isRoot, Cond.code yX1_isRoot cX1_isRoot 2 (some .boolean), Cond.static yX2_contains, Cond.code yX2_contains cX2_contains 2 (some .boolean), Cond.methodLink RX2 199 yX0_namesHeld]
def wsL_weakest_r3 : List Cond := [Cond.instanceMethod yX0_namesHeld, Cond.selects RX0 yX0_namesHeld yX0_namesHeld, Cond.initialized RX0, Cond.code yX0_namesHeld cX0_namesHeld 6 (some .int), Cond.fieldLink RX0 33 "CertHerd$CertificateTable" "count" "I", Cond.fieldLink RX0 18 "CertHerd$CertificateTable" "firstDays" "[I", Cond.fieldLink RX0 11 "CertHerd$CertificateTable" "issuerNumbers" "[I", Cond.fieldLink RX0 15 "CertHerd$CertificateTable" "subjects" "[I", Cond.methodLink RX0 41 yX0_endOf, Cond.instanceMethod yX0_endOf, Cond.selects RX0 yX0_endOf yX0_endOf, Cond.code yX0_endOf cX0_endOf 2 (some .int), Cond.fieldLink RX0 21 "CertHerd$CertificateTable" "lengths" "[I", Cond.static yX2_namesOf, Cond.code yX2_namesOf cX2_namesOf 1 (some .int), Cond.methodLink RX2 157 yJ6_bitCount_0f7a4, Cond.static yJ6_bitCount_0f7a4, Cond.initialized RJ6, Cond.code yJ6_bitCount_0f7a4 cJ6_bitCount_0f7a4 1 (some .int), Cond.constant RJ6 265 (1431655765), Cond.constant RJ6 266 (858993459), Cond.constant RJ6 267 (252645135)]
def wsL_weakest : List Cond := .codeWith yL_weakest cL_weakest 4 (some .int) [(0, 9, 12, 15)] :: ((wsL_weakest_r1 ++ (wsL_weakest_r2 ++ wsL_weakest_r3)) ++ wsX20 ++ wsX10 ++ wsX00 ++ (vx_atS RX2 45 "java/lang/IllegalArgumentException" ["java/lang/RuntimeException", "java/lang/Exception"]).filter goodWord)
def wsL_law0_r1 : List Cond := [Cond.classLink RL 8 RX2, Cond.instantiable RX2 5, Cond.initialized RX2, Cond.classLink RL 81 RX3, Cond.instantiable RX3 22, Cond.initialized RX3, Cond.arrayClass .long, Cond.methodLink RL 80 yX2_init, Cond.instanceMethod yX2_init, Cond.code yX2_init cX2_init 1 none, Cond.methodLink RX2 1 objectInit, Cond.instanceMethod objectInit, Cond.code objectInit ⟨#[0xb1]⟩ 1 none, Cond.classLink RX2 7 RX1, Cond.instantiable RX1 9, Cond.initialized RX1, Cond.fieldLink RX2 10 "CertHerd" "issuerTable" "LCertHerd$IssuerTable;", Cond.classLink RX2 16 RX0, Cond.instantiable RX0 8, Cond.initialized RX0, Cond.fieldLink RX2 19 "CertHerd" "certificateTable" "LCertHerd$CertificateTable;", Cond.arrayClass .int, Cond.fieldLink RX2 23 "CertHerd" "pinsOfName" "[I", Cond.fieldLink RX2 27 "CertHerd" "seedNow" "I"]
def wsL_law0_r2 : List Cond := [Cond.fieldLink RX2 31 "CertHerd" "dayNow" "I", Cond.instanceMethod yX1_init, Cond.code yX1_init cX1_init 1 none, Cond.methodLink RX1 3 objectInit, Cond.fieldLink RX1 11 "CertHerd$IssuerTable" "firstSigners" "[I", Cond.fieldLink RX1 15 "CertHerd$IssuerTable" "secondSigners" "[I", Cond.fieldLink RX1 18 "CertHerd$IssuerTable" "firstDays" "[I", Cond.fieldLink RX1 21 "CertHerd$IssuerTable" "endDays" "[I", Cond.fieldLink RX1 24 "CertHerd$IssuerTable" "limits" "[I", Cond.fieldLink RX1 27 "CertHerd$IssuerTable" "distrustDays" "[I", Cond.fieldLink RX1 30 "CertHerd$IssuerTable" "chainEnds" "[I", Cond.fieldLink RX1 33 "CertHerd$IssuerTable" "chainCounts" "[I", Cond.fieldLink RX1 36 "CertHerd$IssuerTable" "count" "I", Cond.instanceMethod yX0_init, Cond.code yX0_init cX0_init 1 none, Cond.methodLink RX0 3 objectInit, Cond.fieldLink RX0 11 "CertHerd$CertificateTable" "issuerNumbers" "[I", Cond.fieldLink RX0 15 "CertHerd$CertificateTable" "subjects" "[I", Cond.fieldLink RX0 18 "CertHerd$CertificateTable" "firstDays" "[I", Cond.fieldLink RX0 21 "CertHerd$CertificateTable" "lengths" "[I", Cond.fieldLink RX0 24 "CertHerd$CertificateTable" "offsets" "[I", Cond.fieldLink RX0 27 "CertHerd$CertificateTable" "renewals" "[I", Cond.fieldLink RX0 30 "CertHerd$CertificateTable" "queue" "[I", Cond.fieldLink RX0 33 "CertHerd$CertificateTable" "count" "I"]
def wsL_law0_r3 : List Cond := [Cond.methodLink RL 83 yX3_init, Cond.instanceMethod yX3_init, Cond.code yX3_init cX3_init 1 none, Cond.methodLink RX3 1 objectInit, Cond.fieldLink RX3 7 "CertHerdModel" "seed" "I", Cond.fieldLink RX3 13 "CertHerdModel" "froms" "[I", Cond.fieldLink RX3 17 "CertHerdModel" "tos" "[I", Cond.fieldLink RX3 20 "CertHerdModel" "limits" "[I", Cond.fieldLink RX3 23 "CertHerdModel" "firstSigners" "[I", Cond.fieldLink RX3 26 "CertHerdModel" "secondSigners" "[I", Cond.fieldLink RX3 29 "CertHerdModel" "distrusted" "[I", Cond.fieldLink RX3 32 "CertHerdModel" "pins" "[I", Cond.arrayClass .boolean, Cond.fieldLink RX3 35 "CertHerdModel" "areGood" "[Z", Cond.fieldLink RX3 39 "CertHerdModel" "endDays" "[I", Cond.fieldLink RX3 42 "CertHerdModel" "chainMany" "[I", Cond.fieldLink RX3 45 "CertHerdModel" "subjects" "[I", Cond.fieldLink RX3 48 "CertHerdModel" "issuers" "[I", Cond.fieldLink RX3 51 "CertHerdModel" "firsts" "[I", Cond.fieldLink RX3 54 "CertHerdModel" "lengths" "[I", Cond.fieldLink RX3 57 "CertHerdModel" "offsets" "[I", Cond.fieldLink RX3 60 "CertHerdModel" "renewals" "[I", Cond.fieldLink RX3 63 "CertHerdModel" "wasSeen" "[Z", Cond.fieldLink RX3 66 "CertHerdModel" "thrown" "I"]
def wsL_law0_r4 : List Cond := [Cond.methodLink RL 84 yL_addIssuer, Cond.static yL_addIssuer, Cond.initialized RL, Cond.codeWith yL_addIssuer cL_addIssuer 7 (some .int) [(0, 14, 17, 13), (0, 14, 21, 15), (0, 14, 25, 17)], Cond.classLink RL 13 "java/lang/IndexOutOfBoundsException", Cond.classLink RL 15 "java/lang/IllegalArgumentException", Cond.classLink RL 17 "java/lang/IllegalStateException", Cond.methodLink RL 7 yX2_addIssuer, Cond.instanceMethod yX2_addIssuer, Cond.selects RX2 yX2_addIssuer yX2_addIssuer, Cond.code yX2_addIssuer cX2_addIssuer 5 (some .int), Cond.classLink RX2 41 "java/lang/IllegalArgumentException", Cond.initialized "java/lang/IllegalArgumentException", Cond.classLink RX2 54 "java/lang/IllegalStateException", Cond.initialized "java/lang/IllegalStateException", Cond.methodLink RX2 34 yX2_checkIssuer, Cond.instanceMethod yX2_checkIssuer, Cond.selects RX2 yX2_checkIssuer yX2_checkIssuer, Cond.code yX2_checkIssuer cX2_checkIssuer 2 none, Cond.classLink RX2 130 "java/lang/IndexOutOfBoundsException", Cond.initialized "java/lang/IndexOutOfBoundsException", Cond.fieldLink RX2 107 "CertHerd$IssuerTable" "count" "I", Cond.methodLink RX2 38 yX2_checkDay, Cond.static yX2_checkDay]
def wsL_law0_r5 : List Cond := [Cond.code yX2_checkDay cX2_checkDay 1 none, Cond.methodLink RX2 50 yX1_isFull, Cond.instanceMethod yX1_isFull, Cond.selects RX1 yX1_isFull yX1_isFull, Cond.code yX1_isFull cX1_isFull 1 (some .boolean), Cond.methodLink RX2 59 yX1_append, Cond.instanceMethod yX1_append, Cond.selects RX1 yX1_append yX1_append, Cond.code yX1_append cX1_append 6 (some .int), Cond.methodLink RX1 40 yX1_updateChains, Cond.instanceMethod yX1_updateChains, Cond.selects RX1 yX1_updateChains yX1_updateChains, Cond.code yX1_updateChains cX1_updateChains 5 none, Cond.methodLink RX1 48 Lib.Math.max.name, Cond.static Lib.Math.max.name, Cond.initialized "java/lang/Math", Cond.code Lib.Math.max.name Lib.Math.max.code 2 (some .int), Cond.methodLink RX1 54 Lib.Math.min.name, Cond.static Lib.Math.min.name, Cond.code Lib.Math.min.name Lib.Math.min.code 2 (some .int), Cond.methodLink RX1 44 yX1_isRoot, Cond.instanceMethod yX1_isRoot, Cond.selects RX1 yX1_isRoot yX1_isRoot, Cond.code yX1_isRoot cX1_isRoot 2 (some .boolean)]
def wsL_law0_r6 : List Cond := [Cond.methodLink RL 89 yX3_addIssuer, Cond.instanceMethod yX3_addIssuer, Cond.selects RX3 yX3_addIssuer yX3_addIssuer, Cond.code yX3_addIssuer cX3_addIssuer 6 (some .int), Cond.fieldLink RX3 69 "CertHerdModel" "issuerMany" "I", Cond.methodLink RX3 72 yX3_in, Cond.static yX3_in, Cond.code yX3_in cX3_in 3 (some .boolean), Cond.methodLink RX3 79 yX3_isIssuer, Cond.instanceMethod yX3_isIssuer, Cond.selects RX3 yX3_isIssuer yX3_isIssuer, Cond.code yX3_isIssuer cX3_isIssuer 2 (some .boolean), Cond.methodLink RL 90 yX3_thrown, Cond.instanceMethod yX3_thrown, Cond.selects RX3 yX3_thrown yX3_thrown, Cond.code yX3_thrown cX3_thrown 1 (some .int), Cond.methodLink RL 94 yL_cross, Cond.static yL_cross, Cond.codeWith yL_cross cL_cross 5 (some .int) [(0, 10, 13, 13), (0, 10, 17, 15), (0, 10, 21, 17)], Cond.methodLink RL 19 yX2_cross, Cond.instanceMethod yX2_cross, Cond.selects RX2 yX2_cross yX2_cross, Cond.code yX2_cross cX2_cross 3 (some .int), Cond.fieldLink RX2 75 "CertHerd$IssuerTable" "chainEnds" "[I"]
def wsL_law0_r7 : List Cond := [Cond.methodLink RX2 65 yX1_canBeSignedAlsoBy, Cond.instanceMethod yX1_canBeSignedAlsoBy, Cond.selects RX1 yX1_canBeSignedAlsoBy yX1_canBeSignedAlsoBy, Cond.code yX1_canBeSignedAlsoBy cX1_canBeSignedAlsoBy 3 (some .boolean), Cond.methodLink RX2 71 yX1_signAlsoBy, Cond.instanceMethod yX1_signAlsoBy, Cond.selects RX1 yX1_signAlsoBy yX1_signAlsoBy, Cond.code yX1_signAlsoBy cX1_signAlsoBy 3 none, Cond.methodLink RL 97 yX3_cross, Cond.instanceMethod yX3_cross, Cond.selects RX3 yX3_cross yX3_cross, Cond.code yX3_cross cX3_cross 4 (some .int), Cond.methodLink RX3 83 yX3_fails, Cond.instanceMethod yX3_fails, Cond.selects RX3 yX3_fails yX3_fails, Cond.code yX3_fails cX3_fails 2 (some .int), Cond.methodLink RX3 87 yX3_ends, Cond.instanceMethod yX3_ends, Cond.selects RX3 yX3_ends yX3_ends, Cond.code yX3_ends cX3_ends 6 (some .int), Cond.methodLink RL 98 yL_distrust, Cond.static yL_distrust, Cond.codeWith yL_distrust cL_distrust 5 (some .int) [(0, 10, 13, 13), (0, 10, 17, 15)], Cond.methodLink RL 23 yX2_distrust]
def wsL_law0_r8 : List Cond := [Cond.instanceMethod yX2_distrust, Cond.selects RX2 yX2_distrust yX2_distrust, Cond.code yX2_distrust cX2_distrust 4 (some .int), Cond.fieldLink RX2 78 "CertHerd$IssuerTable" "distrustDays" "[I", Cond.methodLink RL 100 yX3_distrust, Cond.instanceMethod yX3_distrust, Cond.selects RX3 yX3_distrust yX3_distrust, Cond.code yX3_distrust cX3_distrust 4 (some .int), Cond.methodLink RX3 90 yX3_isDay, Cond.static yX3_isDay, Cond.code yX3_isDay cX3_isDay 1 (some .boolean), Cond.methodLink RL 101 yL_pin, Cond.static yL_pin, Cond.codeWith yL_pin cL_pin 5 (some .int) [(0, 10, 13, 13), (0, 10, 17, 15)], Cond.methodLink RL 26 yX2_pin, Cond.instanceMethod yX2_pin, Cond.selects RX2 yX2_pin yX2_pin, Cond.code yX2_pin cX2_pin 4 (some .int), Cond.methodLink RX2 81 yX2_checkName, Cond.static yX2_checkName, Cond.code yX2_checkName cX2_checkName 1 none, Cond.methodLink RL 103 yX3_pin, Cond.instanceMethod yX3_pin, Cond.selects RX3 yX3_pin yX3_pin]
def wsL_law0_r9 : List Cond := [Cond.code yX3_pin cX3_pin 4 (some .int), Cond.methodLink RX3 93 yX3_isName, Cond.static yX3_isName, Cond.code yX3_isName cX3_isName 1 (some .boolean), Cond.methodLink RL 104 yX2_setSeed, Cond.instanceMethod yX2_setSeed, Cond.selects RX2 yX2_setSeed yX2_setSeed, Cond.code yX2_setSeed cX2_setSeed 2 none, Cond.methodLink RL 108 yX3_setSeed, Cond.instanceMethod yX3_setSeed, Cond.selects RX3 yX3_setSeed yX3_setSeed, Cond.code yX3_setSeed cX3_setSeed 2 none, Cond.methodLink RL 109 yL_issue, Cond.static yL_issue, Cond.codeWith yL_issue cL_issue 6 (some .int) [(0, 12, 15, 13), (0, 12, 19, 15), (0, 12, 23, 17)], Cond.methodLink RL 29 yX2_issue, Cond.instanceMethod yX2_issue, Cond.selects RX2 yX2_issue yX2_issue, Cond.code yX2_issue cX2_issue 4 (some .int), Cond.methodLink RX2 90 yX2_canIssue, Cond.instanceMethod yX2_canIssue, Cond.selects RX2 yX2_canIssue yX2_canIssue, Cond.code yX2_canIssue cX2_canIssue 3 (some .boolean), Cond.methodLink RX2 170 yX0_isFull]
def wsL_law0_r10 : List Cond := [Cond.instanceMethod yX0_isFull, Cond.selects RX0 yX0_isFull yX0_isFull, Cond.code yX0_isFull cX0_isFull 1 (some .boolean), Cond.methodLink RX2 138 yX2_roomThisWeek, Cond.instanceMethod yX2_roomThisWeek, Cond.selects RX2 yX2_roomThisWeek yX2_roomThisWeek, Cond.code yX2_roomThisWeek cX2_roomThisWeek 2 (some .int), Cond.fieldLink RX2 177 "CertHerd$IssuerTable" "limits" "[I", Cond.methodLink RX2 180 yX2_weekOf, Cond.static yX2_weekOf, Cond.code yX2_weekOf cX2_weekOf 1 (some .int), Cond.methodLink RX2 183 yX0_issuedInWeek, Cond.instanceMethod yX0_issuedInWeek, Cond.selects RX0 yX0_issuedInWeek yX0_issuedInWeek, Cond.code yX0_issuedInWeek cX0_issuedInWeek 5 (some .int), Cond.methodLink RX2 171 yX2_mayIssueFor, Cond.instanceMethod yX2_mayIssueFor, Cond.selects RX2 yX2_mayIssueFor yX2_mayIssueFor, Cond.code yX2_mayIssueFor cX2_mayIssueFor 6 (some .boolean), Cond.methodLink RX2 174 yX2_namesOf, Cond.static yX2_namesOf, Cond.code yX2_namesOf cX2_namesOf 1 (some .int), Cond.methodLink RX2 145 yX2_contains, Cond.static yX2_contains]
def wsL_law0_r11 : List Cond := [Cond.code yX2_contains cX2_contains 2 (some .boolean), Cond.methodLink RX2 141 yX1_goodOn, Cond.instanceMethod yX1_goodOn, Cond.selects RX1 yX1_goodOn yX1_goodOn, Cond.code yX1_goodOn cX1_goodOn 5 (some .int), Cond.methodLink RX1 57 yX1_standsOn, Cond.instanceMethod yX1_standsOn, Cond.selects RX1 yX1_standsOn yX1_standsOn, Cond.code yX1_standsOn cX1_standsOn 4 (some .boolean), Cond.methodLink RX1 61 yX1_isHeldBy, Cond.instanceMethod yX1_isHeldBy, Cond.selects RX1 yX1_isHeldBy yX1_isHeldBy, Cond.code yX1_isHeldBy cX1_isHeldBy 3 (some .boolean), Cond.methodLink RX2 95 yX2_makeCertificate, Cond.instanceMethod yX2_makeCertificate, Cond.selects RX2 yX2_makeCertificate yX2_makeCertificate, Cond.code yX2_makeCertificate cX2_makeCertificate 4 (some .int), Cond.methodLink RX2 186 yX2_drawOffset, Cond.instanceMethod yX2_drawOffset, Cond.selects RX2 yX2_drawOffset yX2_drawOffset, Cond.code yX2_drawOffset cX2_drawOffset 2 (some .int), Cond.constant RX2 192 (1103515245), Cond.methodLink RX2 189 yX0_append, Cond.instanceMethod yX0_append]
def wsL_law0_r12 : List Cond := [Cond.selects RX0 yX0_append yX0_append, Cond.code yX0_append cX0_append 7 (some .int), Cond.methodLink RL 112 yX3_issue, Cond.instanceMethod yX3_issue, Cond.selects RX3 yX3_issue yX3_issue, Cond.code yX3_issue cX3_issue 4 (some .int), Cond.methodLink RX3 110 yX3_canIssue, Cond.instanceMethod yX3_canIssue, Cond.selects RX3 yX3_canIssue yX3_canIssue, Cond.code yX3_canIssue cX3_canIssue 5 (some .boolean), Cond.fieldLink RX3 96 "CertHerdModel" "today" "I", Cond.fieldLink RX3 76 "CertHerdModel" "certMany" "I", Cond.methodLink RX3 99 yX3_holds, Cond.instanceMethod yX3_holds, Cond.selects RX3 yX3_holds yX3_holds, Cond.code yX3_holds cX3_holds 8 (some .boolean), Cond.methodLink RX3 102 yX3_issued, Cond.instanceMethod yX3_issued, Cond.selects RX3 yX3_issued yX3_issued, Cond.code yX3_issued cX3_issued 4 (some .int), Cond.methodLink RX3 105 yX3_covers, Cond.static yX3_covers, Cond.code yX3_covers cX3_covers 2 (some .boolean), Cond.methodLink RX3 113 yX3_makes]
def wsL_law0_r13 : List Cond := [Cond.instanceMethod yX3_makes, Cond.selects RX3 yX3_makes yX3_makes, Cond.code yX3_makes cX3_makes 4 (some .int), Cond.constant RX3 109 (1103515245), Cond.methodLink RL 113 yL_pass, Cond.static yL_pass, Cond.codeWith yL_pass cL_pass 4 (some .int) [(0, 9, 12, 15), (0, 9, 15, 17)], Cond.methodLink RL 33 yX2_pass, Cond.instanceMethod yX2_pass, Cond.selects RX2 yX2_pass yX2_pass, Cond.code yX2_pass cX2_pass 4 (some .int), Cond.methodLink RX2 103 yX2_renewDueCertificates, Cond.instanceMethod yX2_renewDueCertificates, Cond.selects RX2 yX2_renewDueCertificates yX2_renewDueCertificates, Cond.code yX2_renewDueCertificates cX2_renewDueCertificates 7 (some .int), Cond.fieldLink RX2 135 "CertHerd$CertificateTable" "queue" "[I", Cond.fieldLink RX2 114 "CertHerd$CertificateTable" "issuerNumbers" "[I", Cond.fieldLink RX2 193 "CertHerd$CertificateTable" "subjects" "[I", Cond.fieldLink RX2 124 "CertHerd$CertificateTable" "renewals" "[I", Cond.fieldLink RX2 196 "CertHerd$CertificateTable" "lengths" "[I", Cond.methodLink RX2 127 yX0_fillQueue, Cond.instanceMethod yX0_fillQueue, Cond.selects RX0 yX0_fillQueue yX0_fillQueue, Cond.code yX0_fillQueue cX0_fillQueue 4 (some .int)]
def wsL_law0_r14 : List Cond := [Cond.methodLink RX0 47 yX0_isWaiting, Cond.instanceMethod yX0_isWaiting, Cond.selects RX0 yX0_isWaiting yX0_isWaiting, Cond.code yX0_isWaiting cX0_isWaiting 3 (some .boolean), Cond.methodLink RX0 37 yX0_dueDayOf, Cond.instanceMethod yX0_dueDayOf, Cond.selects RX0 yX0_dueDayOf yX0_dueDayOf, Cond.code yX0_dueDayOf cX0_dueDayOf 2 (some .int), Cond.methodLink RX0 41 yX0_endOf, Cond.instanceMethod yX0_endOf, Cond.selects RX0 yX0_endOf yX0_endOf, Cond.code yX0_endOf cX0_endOf 2 (some .int), Cond.methodLink RX0 51 yX0_insert, Cond.instanceMethod yX0_insert, Cond.selects RX0 yX0_insert yX0_insert, Cond.code yX0_insert cX0_insert 4 none, Cond.methodLink RL 116 yX3_pass, Cond.instanceMethod yX3_pass, Cond.selects RX3 yX3_pass yX3_pass, Cond.code yX3_pass cX3_pass 4 (some .int), Cond.methodLink RX3 133 yX3_day, Cond.instanceMethod yX3_day, Cond.selects RX3 yX3_day yX3_day, Cond.code yX3_day cX3_day 4 (some .int)]
def wsL_law0_r15 : List Cond := [Cond.methodLink RX3 126 yX3_sees, Cond.instanceMethod yX3_sees, Cond.selects RX3 yX3_sees yX3_sees, Cond.code yX3_sees cX3_sees 3 none, Cond.methodLink RX3 130 yX3_nextWaiting, Cond.instanceMethod yX3_nextWaiting, Cond.selects RX3 yX3_nextWaiting yX3_nextWaiting, Cond.code yX3_nextWaiting cX3_nextWaiting 4 (some .int), Cond.methodLink RX3 123 yX3_waits, Cond.instanceMethod yX3_waits, Cond.selects RX3 yX3_waits yX3_waits, Cond.code yX3_waits cX3_waits 2 (some .boolean), Cond.methodLink RX3 117 yX3_due, Cond.instanceMethod yX3_due, Cond.selects RX3 yX3_due yX3_due, Cond.code yX3_due cX3_due 2 (some .int), Cond.methodLink RX3 120 yX3_last, Cond.instanceMethod yX3_last, Cond.selects RX3 yX3_last yX3_last, Cond.code yX3_last cX3_last 2 (some .int), Cond.methodLink RL 117 yX2_today, Cond.instanceMethod yX2_today, Cond.selects RX2 yX2_today yX2_today, Cond.code yX2_today cX2_today 1 (some .int)]
def wsL_law0_r16 : List Cond := [Cond.methodLink RL 120 yX3_today, Cond.instanceMethod yX3_today, Cond.selects RX3 yX3_today yX3_today, Cond.code yX3_today cX3_today 1 (some .int), Cond.methodLink RL 121 yX2_issuers, Cond.instanceMethod yX2_issuers, Cond.selects RX2 yX2_issuers yX2_issuers, Cond.code yX2_issuers cX2_issuers 1 (some .int), Cond.methodLink RL 124 yX3_issuers, Cond.instanceMethod yX3_issuers, Cond.selects RX3 yX3_issuers yX3_issuers, Cond.code yX3_issuers cX3_issuers 1 (some .int), Cond.methodLink RL 125 yX2_certificates, Cond.instanceMethod yX2_certificates, Cond.selects RX2 yX2_certificates yX2_certificates, Cond.code yX2_certificates cX2_certificates 1 (some .int), Cond.fieldLink RX2 110 "CertHerd$CertificateTable" "count" "I", Cond.methodLink RL 128 yX3_certificates, Cond.instanceMethod yX3_certificates, Cond.selects RX3 yX3_certificates yX3_certificates, Cond.code yX3_certificates cX3_certificates 1 (some .int), Cond.methodLink RL 129 yL_issuerOf, Cond.static yL_issuerOf, Cond.codeWith yL_issuerOf cL_issuerOf 4 (some .int) [(0, 9, 12, 13)]]
def wsL_law0_r17 : List Cond := [Cond.methodLink RL 37 yX2_issuerOf, Cond.instanceMethod yX2_issuerOf, Cond.selects RX2 yX2_issuerOf yX2_issuerOf, Cond.code yX2_issuerOf cX2_issuerOf 2 (some .int), Cond.methodLink RX2 111 yX2_checkCertificate, Cond.instanceMethod yX2_checkCertificate, Cond.selects RX2 yX2_checkCertificate yX2_checkCertificate, Cond.code yX2_checkCertificate cX2_checkCertificate 2 none, Cond.methodLink RL 131 yX3_issuerOf, Cond.instanceMethod yX3_issuerOf, Cond.selects RX3 yX3_issuerOf yX3_issuerOf, Cond.code yX3_issuerOf cX3_issuerOf 2 (some .int), Cond.methodLink RX3 137 yX3_isCert, Cond.instanceMethod yX3_isCert, Cond.selects RX3 yX3_isCert yX3_isCert, Cond.code yX3_isCert cX3_isCert 2 (some .boolean), Cond.methodLink RL 132 yL_lastDay, Cond.static yL_lastDay, Cond.codeWith yL_lastDay cL_lastDay 4 (some .int) [(0, 9, 12, 13)], Cond.methodLink RL 40 yX2_lastDay, Cond.instanceMethod yX2_lastDay, Cond.selects RX2 yX2_lastDay yX2_lastDay, Cond.code yX2_lastDay cX2_lastDay 2 (some .int), Cond.methodLink RX2 117 yX0_endOf]
def wsL_law0_r18 : List Cond := [Cond.methodLink RL 134 yX3_lastDay, Cond.instanceMethod yX3_lastDay, Cond.selects RX3 yX3_lastDay yX3_lastDay, Cond.code yX3_lastDay cX3_lastDay 2 (some .int), Cond.methodLink RL 135 yL_dueOn, Cond.static yL_dueOn, Cond.codeWith yL_dueOn cL_dueOn 4 (some .int) [(0, 9, 12, 13)], Cond.methodLink RL 43 yX2_dueOn, Cond.instanceMethod yX2_dueOn, Cond.selects RX2 yX2_dueOn yX2_dueOn, Cond.code yX2_dueOn cX2_dueOn 2 (some .int), Cond.methodLink RX2 121 yX0_dueDayOf, Cond.methodLink RL 137 yX3_dueOn, Cond.instanceMethod yX3_dueOn, Cond.selects RX3 yX3_dueOn yX3_dueOn, Cond.code yX3_dueOn cX3_dueOn 2 (some .int), Cond.methodLink RL 138 yL_renewal, Cond.static yL_renewal, Cond.codeWith yL_renewal cL_renewal 4 (some .int) [(0, 9, 12, 13)], Cond.methodLink RL 46 yX2_renewal, Cond.instanceMethod yX2_renewal, Cond.selects RX2 yX2_renewal yX2_renewal, Cond.code yX2_renewal cX2_renewal 2 (some .int), Cond.methodLink RL 140 yX3_renewal]
def wsL_law0_r19 : List Cond := [Cond.instanceMethod yX3_renewal, Cond.selects RX3 yX3_renewal yX3_renewal, Cond.code yX3_renewal cX3_renewal 2 (some .int), Cond.methodLink RL 141 yX2_waiting, Cond.instanceMethod yX2_waiting, Cond.selects RX2 yX2_waiting yX2_waiting, Cond.code yX2_waiting cX2_waiting 1 (some .int), Cond.methodLink RL 144 yX3_waiting, Cond.instanceMethod yX3_waiting, Cond.selects RX3 yX3_waiting yX3_waiting, Cond.code yX3_waiting cX3_waiting 3 (some .int), Cond.methodLink RL 145 yL_waitingAt, Cond.static yL_waitingAt, Cond.codeWith yL_waitingAt cL_waitingAt 4 (some .int) [(0, 9, 12, 13)], Cond.methodLink RL 49 yX2_waitingAt, Cond.instanceMethod yX2_waitingAt, Cond.selects RX2 yX2_waitingAt yX2_waitingAt, Cond.code yX2_waitingAt cX2_waitingAt 3 (some .int), Cond.methodLink RL 147 yX3_waitingAt, Cond.instanceMethod yX3_waitingAt, Cond.selects RX3 yX3_waitingAt yX3_waitingAt, Cond.code yX3_waitingAt cX3_waitingAt 4 (some .int), Cond.methodLink RL 148 yL_room, Cond.static yL_room]
def wsL_law0_r20 : List Cond := [Cond.codeWith yL_room cL_room 4 (some .int) [(0, 9, 12, 13)], Cond.methodLink RL 52 yX2_room, Cond.instanceMethod yX2_room, Cond.selects RX2 yX2_room yX2_room, Cond.code yX2_room cX2_room 2 (some .int), Cond.methodLink RL 150 yX3_room, Cond.instanceMethod yX3_room, Cond.selects RX3 yX3_room yX3_room, Cond.code yX3_room cX3_room 2 (some .int), Cond.methodLink RL 151 yL_isGood, Cond.static yL_isGood, Cond.codeWith yL_isGood cL_isGood 5 (some .int) [(0, 17, 20, 13), (0, 17, 24, 15)], Cond.methodLink RL 55 yX2_isGood, Cond.instanceMethod yX2_isGood, Cond.selects RX2 yX2_isGood yX2_isGood, Cond.code yX2_isGood cX2_isGood 3 (some .boolean), Cond.methodLink RL 153 yX3_isGood, Cond.instanceMethod yX3_isGood, Cond.selects RX3 yX3_isGood yX3_isGood, Cond.code yX3_isGood cX3_isGood 3 (some .boolean), Cond.methodLink RL 154 yL_chainEnd, Cond.static yL_chainEnd, Cond.codeWith yL_chainEnd cL_chainEnd 4 (some .int) [(0, 9, 12, 13)], Cond.methodLink RL 59 yX2_chainEnd]
def wsL_law0_r21 : List Cond := [Cond.instanceMethod yX2_chainEnd, Cond.selects RX2 yX2_chainEnd yX2_chainEnd, Cond.code yX2_chainEnd cX2_chainEnd 2 (some .int), Cond.methodLink RL 156 yX3_chainEnd, Cond.instanceMethod yX3_chainEnd, Cond.selects RX3 yX3_chainEnd yX3_chainEnd, Cond.code yX3_chainEnd cX3_chainEnd 2 (some .int), Cond.methodLink RL 157 yL_chains, Cond.static yL_chains, Cond.codeWith yL_chains cL_chains 4 (some .int) [(0, 9, 12, 13)], Cond.methodLink RL 62 yX2_chains, Cond.instanceMethod yX2_chains, Cond.selects RX2 yX2_chains yX2_chains, Cond.code yX2_chains cX2_chains 2 (some .int), Cond.fieldLink RX2 148 "CertHerd$IssuerTable" "chainCounts" "[I", Cond.methodLink RL 159 yX3_chains, Cond.instanceMethod yX3_chains, Cond.selects RX3 yX3_chains yX3_chains, Cond.code yX3_chains cX3_chains 2 (some .int), Cond.methodLink RX3 140 yX3_ways, Cond.instanceMethod yX3_ways, Cond.selects RX3 yX3_ways yX3_ways, Cond.code yX3_ways cX3_ways 5 (some .int), Cond.methodLink RL 160 yL_isCovered]
def wsL_law0_r22 : List Cond := [Cond.static yL_isCovered, Cond.codeWith yL_isCovered cL_isCovered 5 (some .int) [(0, 17, 20, 13), (0, 17, 24, 15)], Cond.methodLink RL 65 yX2_isCovered, Cond.instanceMethod yX2_isCovered, Cond.selects RX2 yX2_isCovered yX2_isCovered, Cond.code yX2_isCovered cX2_isCovered 3 (some .boolean), Cond.methodLink RX2 151 yX2_namesCovered, Cond.instanceMethod yX2_namesCovered, Cond.selects RX2 yX2_namesCovered yX2_namesCovered, Cond.code yX2_namesCovered cX2_namesCovered 3 (some .int), Cond.methodLink RX2 199 yX0_namesHeld, Cond.instanceMethod yX0_namesHeld, Cond.selects RX0 yX0_namesHeld yX0_namesHeld, Cond.code yX0_namesHeld cX0_namesHeld 6 (some .int), Cond.methodLink RL 162 yX3_isCovered, Cond.instanceMethod yX3_isCovered, Cond.selects RX3 yX3_isCovered yX3_isCovered, Cond.code yX3_isCovered cX3_isCovered 3 (some .boolean), Cond.methodLink RX3 143 yX3_names, Cond.instanceMethod yX3_names, Cond.selects RX3 yX3_names yX3_names, Cond.code yX3_names cX3_names 7 (some .int), Cond.methodLink RL 163 yL_nextGap, Cond.static yL_nextGap]
def wsL_law0_r23 : List Cond := [Cond.codeWith yL_nextGap cL_nextGap 5 (some .int) [(0, 10, 13, 13), (0, 10, 17, 15)], Cond.methodLink RL 68 yX2_nextGap, Cond.instanceMethod yX2_nextGap, Cond.selects RX2 yX2_nextGap yX2_nextGap, Cond.code yX2_nextGap cX2_nextGap 4 (some .int), Cond.methodLink RL 165 yX3_nextGap, Cond.instanceMethod yX3_nextGap, Cond.selects RX3 yX3_nextGap yX3_nextGap, Cond.code yX3_nextGap cX3_nextGap 4 (some .int), Cond.methodLink RL 166 yL_covered, Cond.static yL_covered, Cond.codeWith yL_covered cL_covered 4 (some .int) [(0, 9, 12, 15)], Cond.methodLink RL 71 yX2_covered, Cond.instanceMethod yX2_covered, Cond.selects RX2 yX2_covered yX2_covered, Cond.code yX2_covered cX2_covered 2 (some .int), Cond.methodLink RL 168 yX3_covered, Cond.instanceMethod yX3_covered, Cond.selects RX3 yX3_covered yX3_covered, Cond.code yX3_covered cX3_covered 2 (some .int), Cond.methodLink RL 169 yL_breaks, Cond.static yL_breaks, Cond.codeWith yL_breaks cL_breaks 5 (some .int) [(0, 10, 13, 13), (0, 10, 17, 15)], Cond.methodLink RL 74 yX2_breaks]
def wsL_law0_r24 : List Cond := [Cond.instanceMethod yX2_breaks, Cond.selects RX2 yX2_breaks yX2_breaks, Cond.code yX2_breaks cX2_breaks 3 (some .int), Cond.methodLink RX2 154 yX2_namesLostWithout, Cond.instanceMethod yX2_namesLostWithout, Cond.selects RX2 yX2_namesLostWithout yX2_namesLostWithout, Cond.code yX2_namesLostWithout cX2_namesLostWithout 3 (some .int), Cond.methodLink RL 171 yX3_breaks, Cond.instanceMethod yX3_breaks, Cond.selects RX3 yX3_breaks yX3_breaks, Cond.code yX3_breaks cX3_breaks 3 (some .int), Cond.methodLink RL 172 yL_weakest, Cond.static yL_weakest, Cond.codeWith yL_weakest cL_weakest 4 (some .int) [(0, 9, 12, 15)], Cond.methodLink RL 77 yX2_weakest, Cond.instanceMethod yX2_weakest, Cond.selects RX2 yX2_weakest yX2_weakest, Cond.code yX2_weakest cX2_weakest 6 (some .int), Cond.methodLink RX2 157 yJ6_bitCount_0f7a4, Cond.static yJ6_bitCount_0f7a4, Cond.initialized RJ6, Cond.code yJ6_bitCount_0f7a4 cJ6_bitCount_0f7a4 1 (some .int), Cond.constant RJ6 265 (1431655765), Cond.constant RJ6 266 (858993459)]
def wsL_law0_r25 : List Cond := [Cond.constant RJ6 267 (252645135), Cond.methodLink RL 174 yX3_weakest, Cond.instanceMethod yX3_weakest, Cond.selects RX3 yX3_weakest yX3_weakest, Cond.code yX3_weakest cX3_weakest 8 (some .int)]
def wsL_law0 : List Cond := (wsL_law0_r1 ++ (wsL_law0_r2 ++ (wsL_law0_r3 ++ (wsL_law0_r4 ++ (wsL_law0_r5 ++ (wsL_law0_r6 ++ (wsL_law0_r7 ++ (wsL_law0_r8 ++ (wsL_law0_r9 ++ (wsL_law0_r10 ++ (wsL_law0_r11 ++ (wsL_law0_r12 ++ (wsL_law0_r13 ++ (wsL_law0_r14 ++ (wsL_law0_r15 ++ (wsL_law0_r16 ++ (wsL_law0_r17 ++ (wsL_law0_r18 ++ (wsL_law0_r19 ++ (wsL_law0_r20 ++ (wsL_law0_r21 ++ (wsL_law0_r22 ++ (wsL_law0_r23 ++ (wsL_law0_r24 ++ wsL_law0_r25)))))))))))))))))))))))) ++ wsX20 ++ wsX30 ++ wsX10 ++ wsX00 ++ ([] : List Cond)
def wsL_law : List Cond := wsL_law0 ++ (vx_atS RX2 45 "java/lang/IllegalArgumentException" ["java/lang/RuntimeException", "java/lang/Exception"]).filter goodWord ++ (vx_atS RX2 58 "java/lang/IllegalStateException" ["java/lang/RuntimeException", "java/lang/Exception"]).filter goodWord ++ (vx_atS RX2 134 "java/lang/IndexOutOfBoundsException" ["java/lang/RuntimeException", "java/lang/Exception"]).filter goodWord
theorem inlX0 : ∀ w ∈ wsX00, w ∈ wsL_law := fun _ h => List.mem_append_left _ (List.mem_append_left _ (List.mem_append_left _ (List.mem_append_left _ (List.mem_append_right _ h))))
theorem inlX1 : ∀ w ∈ wsX10, w ∈ wsL_law := fun _ h => List.mem_append_left _ (List.mem_append_left _ (List.mem_append_left _ (List.mem_append_left _ (List.mem_append_left _ (List.mem_append_right _ h)))))
theorem inlX2 : ∀ w ∈ wsX20, w ∈ wsL_law := fun _ h => List.mem_append_left _ (List.mem_append_left _ (List.mem_append_left _ (List.mem_append_left _ (List.mem_append_left _ (List.mem_append_left _ (List.mem_append_left _ (List.mem_append_right _ h)))))))
theorem inlX3 : ∀ w ∈ wsX30, w ∈ wsL_law := fun _ h => List.mem_append_left _ (List.mem_append_left _ (List.mem_append_left _ (List.mem_append_left _ (List.mem_append_left _ (List.mem_append_left _ (List.mem_append_right _ h))))))
abbrev vwCl : List vw_C := [(RX0, TX0, 8), (RX1, TX1, 9), (RX2, TX2, 5), (RX3, TX3, 22)]
end
section
theorem dX0_init_0 : decode cX0_init 0 = .ok (.aload_n 0, 1) := by decide +kernel
theorem dX0_init_1 : decode cX0_init 1 = .ok (.invokespecial 3, 3) := by decide +kernel
theorem dX0_init_4 : decode cX0_init 4 = .ok (.aload_n 0, 1) := by decide +kernel
theorem dX0_init_5 : decode cX0_init 5 = .ok (.bipush 60, 2) := by decide +kernel
theorem dX0_init_7 : decode cX0_init 7 = .ok (.newarray .int, 2) := by decide +kernel
theorem dX0_init_9 : decode cX0_init 9 = .ok (.putfield 11, 3) := by decide +kernel
theorem dX0_init_12 : decode cX0_init 12 = .ok (.aload_n 0, 1) := by decide +kernel
theorem dX0_init_13 : decode cX0_init 13 = .ok (.bipush 60, 2) := by decide +kernel
theorem dX0_init_15 : decode cX0_init 15 = .ok (.newarray .int, 2) := by decide +kernel
theorem dX0_init_17 : decode cX0_init 17 = .ok (.putfield 15, 3) := by decide +kernel
theorem dX0_init_20 : decode cX0_init 20 = .ok (.aload_n 0, 1) := by decide +kernel
theorem dX0_init_21 : decode cX0_init 21 = .ok (.bipush 60, 2) := by decide +kernel
theorem dX0_init_23 : decode cX0_init 23 = .ok (.newarray .int, 2) := by decide +kernel
theorem dX0_init_25 : decode cX0_init 25 = .ok (.putfield 18, 3) := by decide +kernel
theorem dX0_init_28 : decode cX0_init 28 = .ok (.aload_n 0, 1) := by decide +kernel
theorem dX0_init_29 : decode cX0_init 29 = .ok (.bipush 60, 2) := by decide +kernel
theorem dX0_init_31 : decode cX0_init 31 = .ok (.newarray .int, 2) := by decide +kernel
theorem dX0_init_33 : decode cX0_init 33 = .ok (.putfield 21, 3) := by decide +kernel
theorem dX0_init_36 : decode cX0_init 36 = .ok (.aload_n 0, 1) := by decide +kernel
theorem dX0_init_37 : decode cX0_init 37 = .ok (.bipush 60, 2) := by decide +kernel
theorem dX0_init_39 : decode cX0_init 39 = .ok (.newarray .int, 2) := by decide +kernel
theorem dX0_init_41 : decode cX0_init 41 = .ok (.putfield 24, 3) := by decide +kernel
theorem dX0_init_44 : decode cX0_init 44 = .ok (.aload_n 0, 1) := by decide +kernel
theorem dX0_init_45 : decode cX0_init 45 = .ok (.bipush 60, 2) := by decide +kernel
theorem dX0_init_47 : decode cX0_init 47 = .ok (.newarray .int, 2) := by decide +kernel
theorem dX0_init_49 : decode cX0_init 49 = .ok (.putfield 27, 3) := by decide +kernel
theorem dX0_init_52 : decode cX0_init 52 = .ok (.aload_n 0, 1) := by decide +kernel
theorem dX0_init_53 : decode cX0_init 53 = .ok (.bipush 60, 2) := by decide +kernel
theorem dX0_init_55 : decode cX0_init 55 = .ok (.newarray .int, 2) := by decide +kernel
theorem dX0_init_57 : decode cX0_init 57 = .ok (.putfield 30, 3) := by decide +kernel
theorem dX0_init_60 : decode cX0_init 60 = .ok (.aload_n 0, 1) := by decide +kernel
theorem dX0_init_61 : decode cX0_init 61 = .ok (.iconst 0, 1) := by decide +kernel
theorem dX0_init_62 : decode cX0_init 62 = .ok (.putfield 33, 3) := by decide +kernel
theorem dX0_init_65 : decode cX0_init 65 = .ok (.return_, 1) := by decide +kernel
theorem dX0_isFull_0 : decode cX0_isFull 0 = .ok (.aload_n 0, 1) := by decide +kernel
theorem dX0_isFull_1 : decode cX0_isFull 1 = .ok (.getfield 33, 3) := by decide +kernel
theorem dX0_isFull_4 : decode cX0_isFull 4 = .ok (.bipush 60, 2) := by decide +kernel
theorem dX0_isFull_6 : decode cX0_isFull 6 = .ok (.if_icmp .lt 7, 3) := by decide +kernel
theorem dX0_isFull_9 : decode cX0_isFull 9 = .ok (.iconst 1, 1) := by decide +kernel
theorem dX0_isFull_10 : decode cX0_isFull 10 = .ok (.goto 4, 3) := by decide +kernel
theorem dX0_isFull_13 : decode cX0_isFull 13 = .ok (.iconst 0, 1) := by decide +kernel
theorem dX0_isFull_14 : decode cX0_isFull 14 = .ok (.ireturn, 1) := by decide +kernel
theorem dX0_append_0 : decode cX0_append 0 = .ok (.aload_n 0, 1) := by decide +kernel
theorem dX0_append_1 : decode cX0_append 1 = .ok (.getfield 33, 3) := by decide +kernel
theorem dX0_append_4 : decode cX0_append 4 = .ok (.istore 6, 2) := by decide +kernel
theorem dX0_append_6 : decode cX0_append 6 = .ok (.aload_n 0, 1) := by decide +kernel
theorem dX0_append_7 : decode cX0_append 7 = .ok (.getfield 11, 3) := by decide +kernel
theorem dX0_append_10 : decode cX0_append 10 = .ok (.iload 6, 2) := by decide +kernel
theorem dX0_append_12 : decode cX0_append 12 = .ok (.iload_n 1, 1) := by decide +kernel
theorem dX0_append_13 : decode cX0_append 13 = .ok (.iastore, 1) := by decide +kernel
theorem dX0_append_14 : decode cX0_append 14 = .ok (.aload_n 0, 1) := by decide +kernel
theorem dX0_append_15 : decode cX0_append 15 = .ok (.getfield 15, 3) := by decide +kernel
theorem dX0_append_18 : decode cX0_append 18 = .ok (.iload 6, 2) := by decide +kernel
theorem dX0_append_20 : decode cX0_append 20 = .ok (.iload_n 2, 1) := by decide +kernel
theorem dX0_append_21 : decode cX0_append 21 = .ok (.iastore, 1) := by decide +kernel
theorem dX0_append_22 : decode cX0_append 22 = .ok (.aload_n 0, 1) := by decide +kernel
theorem dX0_append_23 : decode cX0_append 23 = .ok (.getfield 18, 3) := by decide +kernel
theorem dX0_append_26 : decode cX0_append 26 = .ok (.iload 6, 2) := by decide +kernel
theorem dX0_append_28 : decode cX0_append 28 = .ok (.iload_n 3, 1) := by decide +kernel
theorem dX0_append_29 : decode cX0_append 29 = .ok (.iastore, 1) := by decide +kernel
theorem dX0_append_30 : decode cX0_append 30 = .ok (.aload_n 0, 1) := by decide +kernel
theorem dX0_append_31 : decode cX0_append 31 = .ok (.getfield 21, 3) := by decide +kernel
theorem dX0_append_34 : decode cX0_append 34 = .ok (.iload 6, 2) := by decide +kernel
theorem dX0_append_36 : decode cX0_append 36 = .ok (.iload 4, 2) := by decide +kernel
theorem dX0_append_38 : decode cX0_append 38 = .ok (.iastore, 1) := by decide +kernel
theorem dX0_append_39 : decode cX0_append 39 = .ok (.aload_n 0, 1) := by decide +kernel
theorem dX0_append_40 : decode cX0_append 40 = .ok (.getfield 24, 3) := by decide +kernel
theorem dX0_append_43 : decode cX0_append 43 = .ok (.iload 6, 2) := by decide +kernel
theorem dX0_append_45 : decode cX0_append 45 = .ok (.iload 5, 2) := by decide +kernel
theorem dX0_append_47 : decode cX0_append 47 = .ok (.iastore, 1) := by decide +kernel
theorem dX0_append_48 : decode cX0_append 48 = .ok (.aload_n 0, 1) := by decide +kernel
theorem dX0_append_49 : decode cX0_append 49 = .ok (.getfield 27, 3) := by decide +kernel
theorem dX0_append_52 : decode cX0_append 52 = .ok (.iload 6, 2) := by decide +kernel
theorem dX0_append_54 : decode cX0_append 54 = .ok (.iconst (-1), 1) := by decide +kernel
theorem dX0_append_55 : decode cX0_append 55 = .ok (.iastore, 1) := by decide +kernel
theorem dX0_append_56 : decode cX0_append 56 = .ok (.aload_n 0, 1) := by decide +kernel
theorem dX0_append_57 : decode cX0_append 57 = .ok (.dup, 1) := by decide +kernel
theorem dX0_append_58 : decode cX0_append 58 = .ok (.getfield 33, 3) := by decide +kernel
theorem dX0_append_61 : decode cX0_append 61 = .ok (.iconst 1, 1) := by decide +kernel
theorem dX0_append_62 : decode cX0_append 62 = .ok (.iadd, 1) := by decide +kernel
theorem dX0_append_63 : decode cX0_append 63 = .ok (.putfield 33, 3) := by decide +kernel
theorem dX0_append_66 : decode cX0_append 66 = .ok (.iload 6, 2) := by decide +kernel
theorem dX0_append_68 : decode cX0_append 68 = .ok (.ireturn, 1) := by decide +kernel
theorem dX0_endOf_0 : decode cX0_endOf 0 = .ok (.aload_n 0, 1) := by decide +kernel
theorem dX0_endOf_1 : decode cX0_endOf 1 = .ok (.getfield 18, 3) := by decide +kernel
theorem dX0_endOf_4 : decode cX0_endOf 4 = .ok (.iload_n 1, 1) := by decide +kernel
theorem dX0_endOf_5 : decode cX0_endOf 5 = .ok (.iaload, 1) := by decide +kernel
theorem dX0_endOf_6 : decode cX0_endOf 6 = .ok (.aload_n 0, 1) := by decide +kernel
theorem dX0_endOf_7 : decode cX0_endOf 7 = .ok (.getfield 21, 3) := by decide +kernel
theorem dX0_endOf_10 : decode cX0_endOf 10 = .ok (.iload_n 1, 1) := by decide +kernel
theorem dX0_endOf_11 : decode cX0_endOf 11 = .ok (.iaload, 1) := by decide +kernel
theorem dX0_endOf_12 : decode cX0_endOf 12 = .ok (.iadd, 1) := by decide +kernel
theorem dX0_endOf_13 : decode cX0_endOf 13 = .ok (.iconst 1, 1) := by decide +kernel
theorem dX0_endOf_14 : decode cX0_endOf 14 = .ok (.isub, 1) := by decide +kernel
theorem dX0_endOf_15 : decode cX0_endOf 15 = .ok (.ireturn, 1) := by decide +kernel
theorem dX0_dueDayOf_0 : decode cX0_dueDayOf 0 = .ok (.aload_n 0, 1) := by decide +kernel
theorem dX0_dueDayOf_1 : decode cX0_dueDayOf 1 = .ok (.getfield 18, 3) := by decide +kernel
theorem dX0_dueDayOf_4 : decode cX0_dueDayOf 4 = .ok (.iload_n 1, 1) := by decide +kernel
theorem dX0_dueDayOf_5 : decode cX0_dueDayOf 5 = .ok (.iaload, 1) := by decide +kernel
theorem dX0_dueDayOf_6 : decode cX0_dueDayOf 6 = .ok (.aload_n 0, 1) := by decide +kernel
theorem dX0_dueDayOf_7 : decode cX0_dueDayOf 7 = .ok (.getfield 21, 3) := by decide +kernel
theorem dX0_dueDayOf_10 : decode cX0_dueDayOf 10 = .ok (.iload_n 1, 1) := by decide +kernel
theorem dX0_dueDayOf_11 : decode cX0_dueDayOf 11 = .ok (.iaload, 1) := by decide +kernel
theorem dX0_dueDayOf_12 : decode cX0_dueDayOf 12 = .ok (.iconst 2, 1) := by decide +kernel
theorem dX0_dueDayOf_13 : decode cX0_dueDayOf 13 = .ok (.imul, 1) := by decide +kernel
theorem dX0_dueDayOf_14 : decode cX0_dueDayOf 14 = .ok (.iconst 3, 1) := by decide +kernel
theorem dX0_dueDayOf_15 : decode cX0_dueDayOf 15 = .ok (.idiv, 1) := by decide +kernel
theorem dX0_dueDayOf_16 : decode cX0_dueDayOf 16 = .ok (.iadd, 1) := by decide +kernel
theorem dX0_dueDayOf_17 : decode cX0_dueDayOf 17 = .ok (.aload_n 0, 1) := by decide +kernel
theorem dX0_dueDayOf_18 : decode cX0_dueDayOf 18 = .ok (.getfield 24, 3) := by decide +kernel
theorem dX0_dueDayOf_21 : decode cX0_dueDayOf 21 = .ok (.iload_n 1, 1) := by decide +kernel
theorem dX0_dueDayOf_22 : decode cX0_dueDayOf 22 = .ok (.iaload, 1) := by decide +kernel
theorem dX0_dueDayOf_23 : decode cX0_dueDayOf 23 = .ok (.iadd, 1) := by decide +kernel
theorem dX0_dueDayOf_24 : decode cX0_dueDayOf 24 = .ok (.ireturn, 1) := by decide +kernel
set_option maxRecDepth 20000 in
theorem ggX0_isWaiting_X0_dueDayOf : GoodIn wsX0_isWaiting wsX0_dueDayOf := goodIn_r _ [6, 7, 8, 9, 14, 15, 16, 17, 18, 19, 20, 21] (by decide +kernel) (by decide +kernel)
set_option maxRecDepth 20000 in
theorem gX0_isWaiting_X0_dueDayOf : GoodIn wsX0_isWaiting (wsV RX0 37 RX0 yX0_dueDayOf wsX0_dueDayOf) := goodIn_app (goodIn_of _ (by decide +kernel)) ggX0_isWaiting_X0_dueDayOf
set_option maxRecDepth 20000 in
theorem ggX0_isWaiting_X0_endOf : GoodIn wsX0_isWaiting wsX0_endOf := goodIn_r _ [13, 7, 8, 14, 15, 16, 17, 18, 19, 20, 21] (by decide +kernel) (by decide +kernel)
set_option maxRecDepth 20000 in
theorem gX0_isWaiting_X0_endOf : GoodIn wsX0_isWaiting (wsV RX0 41 RX0 yX0_endOf wsX0_endOf) := goodIn_app (goodIn_of _ (by decide +kernel)) ggX0_isWaiting_X0_endOf
theorem dX0_isWaiting_0 : decode cX0_isWaiting 0 = .ok (.aload_n 0, 1) := by decide +kernel
theorem dX0_isWaiting_1 : decode cX0_isWaiting 1 = .ok (.iload_n 1, 1) := by decide +kernel
theorem dX0_isWaiting_2 : decode cX0_isWaiting 2 = .ok (.invokevirtual 37, 3) := by decide +kernel
theorem dX0_isWaiting_5 : decode cX0_isWaiting 5 = .ok (.iload_n 2, 1) := by decide +kernel
theorem dX0_isWaiting_6 : decode cX0_isWaiting 6 = .ok (.if_icmp .gt 26, 3) := by decide +kernel
theorem dX0_isWaiting_9 : decode cX0_isWaiting 9 = .ok (.aload_n 0, 1) := by decide +kernel
theorem dX0_isWaiting_10 : decode cX0_isWaiting 10 = .ok (.getfield 27, 3) := by decide +kernel
theorem dX0_isWaiting_13 : decode cX0_isWaiting 13 = .ok (.iload_n 1, 1) := by decide +kernel
theorem dX0_isWaiting_14 : decode cX0_isWaiting 14 = .ok (.iaload, 1) := by decide +kernel
theorem dX0_isWaiting_15 : decode cX0_isWaiting 15 = .ok (.iconst (-1), 1) := by decide +kernel
theorem dX0_isWaiting_16 : decode cX0_isWaiting 16 = .ok (.if_icmp .ne 16, 3) := by decide +kernel
theorem dX0_isWaiting_19 : decode cX0_isWaiting 19 = .ok (.iload_n 2, 1) := by decide +kernel
theorem dX0_isWaiting_20 : decode cX0_isWaiting 20 = .ok (.aload_n 0, 1) := by decide +kernel
theorem dX0_isWaiting_21 : decode cX0_isWaiting 21 = .ok (.iload_n 1, 1) := by decide +kernel
theorem dX0_isWaiting_22 : decode cX0_isWaiting 22 = .ok (.invokevirtual 41, 3) := by decide +kernel
theorem dX0_isWaiting_25 : decode cX0_isWaiting 25 = .ok (.if_icmp .gt 7, 3) := by decide +kernel
theorem dX0_isWaiting_28 : decode cX0_isWaiting 28 = .ok (.iconst 1, 1) := by decide +kernel
theorem dX0_isWaiting_29 : decode cX0_isWaiting 29 = .ok (.goto 4, 3) := by decide +kernel
theorem dX0_isWaiting_32 : decode cX0_isWaiting 32 = .ok (.iconst 0, 1) := by decide +kernel
theorem dX0_isWaiting_33 : decode cX0_isWaiting 33 = .ok (.ireturn, 1) := by decide +kernel
set_option maxRecDepth 20000 in
theorem ggX0_issuedInWeek_X2_weekOf : GoodIn wsX0_issuedInWeek wsX2_weekOf := goodIn_r _ [6] (by decide +kernel) (by decide +kernel)
set_option maxRecDepth 20000 in
theorem gX0_issuedInWeek_X2_weekOf_n44 : GoodIn wsX0_issuedInWeek (wsX2_weekOf) := ggX0_issuedInWeek_X2_weekOf
theorem dX0_issuedInWeek_0 : decode cX0_issuedInWeek 0 = .ok (.iconst 0, 1) := by decide +kernel
theorem dX0_issuedInWeek_1 : decode cX0_issuedInWeek 1 = .ok (.istore_n 3, 1) := by decide +kernel
theorem dX0_issuedInWeek_2 : decode cX0_issuedInWeek 2 = .ok (.iconst 0, 1) := by decide +kernel
theorem dX0_issuedInWeek_3 : decode cX0_issuedInWeek 3 = .ok (.istore 4, 2) := by decide +kernel
theorem dX0_issuedInWeek_5 : decode cX0_issuedInWeek 5 = .ok (.iload 4, 2) := by decide +kernel
theorem dX0_issuedInWeek_7 : decode cX0_issuedInWeek 7 = .ok (.aload_n 0, 1) := by decide +kernel
theorem dX0_issuedInWeek_8 : decode cX0_issuedInWeek 8 = .ok (.getfield 33, 3) := by decide +kernel
theorem dX0_issuedInWeek_11 : decode cX0_issuedInWeek 11 = .ok (.if_icmp .ge 37, 3) := by decide +kernel
theorem dX0_issuedInWeek_14 : decode cX0_issuedInWeek 14 = .ok (.aload_n 0, 1) := by decide +kernel
theorem dX0_issuedInWeek_15 : decode cX0_issuedInWeek 15 = .ok (.getfield 11, 3) := by decide +kernel
theorem dX0_issuedInWeek_18 : decode cX0_issuedInWeek 18 = .ok (.iload 4, 2) := by decide +kernel
theorem dX0_issuedInWeek_20 : decode cX0_issuedInWeek 20 = .ok (.iaload, 1) := by decide +kernel
theorem dX0_issuedInWeek_21 : decode cX0_issuedInWeek 21 = .ok (.iload_n 1, 1) := by decide +kernel
theorem dX0_issuedInWeek_22 : decode cX0_issuedInWeek 22 = .ok (.if_icmp .ne 20, 3) := by decide +kernel
theorem dX0_issuedInWeek_25 : decode cX0_issuedInWeek 25 = .ok (.aload_n 0, 1) := by decide +kernel
theorem dX0_issuedInWeek_26 : decode cX0_issuedInWeek 26 = .ok (.getfield 18, 3) := by decide +kernel
theorem dX0_issuedInWeek_29 : decode cX0_issuedInWeek 29 = .ok (.iload 4, 2) := by decide +kernel
theorem dX0_issuedInWeek_31 : decode cX0_issuedInWeek 31 = .ok (.iaload, 1) := by decide +kernel
theorem dX0_issuedInWeek_32 : decode cX0_issuedInWeek 32 = .ok (.invokestatic 44, 3) := by decide +kernel
theorem dX0_issuedInWeek_35 : decode cX0_issuedInWeek 35 = .ok (.iload_n 2, 1) := by decide +kernel
theorem dX0_issuedInWeek_36 : decode cX0_issuedInWeek 36 = .ok (.if_icmp .ne 6, 3) := by decide +kernel
theorem dX0_issuedInWeek_39 : decode cX0_issuedInWeek 39 = .ok (.iinc 3 1, 3) := by decide +kernel
theorem dX0_issuedInWeek_42 : decode cX0_issuedInWeek 42 = .ok (.iinc 4 1, 3) := by decide +kernel
theorem dX0_issuedInWeek_45 : decode cX0_issuedInWeek 45 = .ok (.goto (-40), 3) := by decide +kernel
theorem dX0_issuedInWeek_48 : decode cX0_issuedInWeek 48 = .ok (.iload_n 3, 1) := by decide +kernel
theorem dX0_issuedInWeek_49 : decode cX0_issuedInWeek 49 = .ok (.ireturn, 1) := by decide +kernel
set_option maxRecDepth 20000 in
theorem ggX0_fillQueue_X0_isWaiting : GoodIn wsX0_fillQueue wsX0_isWaiting := goodIn_r _ [6, 7, 8, 9, 10, 5, 11, 12, 13, 14, 15, 16, 17, 18, 24, 25, 26, 27, 28, 29, 30, 31] (by decide +kernel) (by decide +kernel)
set_option maxRecDepth 20000 in
theorem gX0_fillQueue_X0_isWaiting : GoodIn wsX0_fillQueue (wsV RX0 47 RX0 yX0_isWaiting wsX0_isWaiting) := goodIn_app (goodIn_of _ (by decide +kernel)) ggX0_fillQueue_X0_isWaiting
set_option maxRecDepth 20000 in
theorem ggX0_fillQueue_X0_insert : GoodIn wsX0_fillQueue wsX0_insert := goodIn_r _ [22, 23, 15, 16, 17, 5, 18, 12, 13, 24, 25, 26, 27, 28, 29, 30, 31] (by decide +kernel) (by decide +kernel)
set_option maxRecDepth 20000 in
theorem gX0_fillQueue_X0_insert : GoodIn wsX0_fillQueue (wsV RX0 51 RX0 yX0_insert wsX0_insert) := goodIn_app (goodIn_of _ (by decide +kernel)) ggX0_fillQueue_X0_insert
theorem dX0_fillQueue_0 : decode cX0_fillQueue 0 = .ok (.iconst 0, 1) := by decide +kernel
theorem dX0_fillQueue_1 : decode cX0_fillQueue 1 = .ok (.istore_n 2, 1) := by decide +kernel
theorem dX0_fillQueue_2 : decode cX0_fillQueue 2 = .ok (.iconst 0, 1) := by decide +kernel
theorem dX0_fillQueue_3 : decode cX0_fillQueue 3 = .ok (.istore_n 3, 1) := by decide +kernel
theorem dX0_fillQueue_4 : decode cX0_fillQueue 4 = .ok (.iload_n 3, 1) := by decide +kernel
theorem dX0_fillQueue_5 : decode cX0_fillQueue 5 = .ok (.aload_n 0, 1) := by decide +kernel
theorem dX0_fillQueue_6 : decode cX0_fillQueue 6 = .ok (.getfield 33, 3) := by decide +kernel
theorem dX0_fillQueue_9 : decode cX0_fillQueue 9 = .ok (.if_icmp .ge 27, 3) := by decide +kernel
theorem dX0_fillQueue_12 : decode cX0_fillQueue 12 = .ok (.aload_n 0, 1) := by decide +kernel
theorem dX0_fillQueue_13 : decode cX0_fillQueue 13 = .ok (.iload_n 3, 1) := by decide +kernel
theorem dX0_fillQueue_14 : decode cX0_fillQueue 14 = .ok (.iload_n 1, 1) := by decide +kernel
theorem dX0_fillQueue_15 : decode cX0_fillQueue 15 = .ok (.invokevirtual 47, 3) := by decide +kernel
theorem dX0_fillQueue_18 : decode cX0_fillQueue 18 = .ok (.ifCond .eq 12, 3) := by decide +kernel
theorem dX0_fillQueue_21 : decode cX0_fillQueue 21 = .ok (.aload_n 0, 1) := by decide +kernel
theorem dX0_fillQueue_22 : decode cX0_fillQueue 22 = .ok (.iload_n 3, 1) := by decide +kernel
theorem dX0_fillQueue_23 : decode cX0_fillQueue 23 = .ok (.iload_n 2, 1) := by decide +kernel
theorem dX0_fillQueue_24 : decode cX0_fillQueue 24 = .ok (.invokevirtual 51, 3) := by decide +kernel
theorem dX0_fillQueue_27 : decode cX0_fillQueue 27 = .ok (.iinc 2 1, 3) := by decide +kernel
theorem dX0_fillQueue_30 : decode cX0_fillQueue 30 = .ok (.iinc 3 1, 3) := by decide +kernel
theorem dX0_fillQueue_33 : decode cX0_fillQueue 33 = .ok (.goto (-29), 3) := by decide +kernel
theorem dX0_fillQueue_36 : decode cX0_fillQueue 36 = .ok (.iload_n 2, 1) := by decide +kernel
theorem dX0_fillQueue_37 : decode cX0_fillQueue 37 = .ok (.ireturn, 1) := by decide +kernel
set_option maxRecDepth 20000 in
theorem ggX0_insert_X0_endOf : GoodIn wsX0_insert wsX0_endOf := goodIn_r _ [6, 7, 8, 9, 10, 11, 12, 13, 14, 15, 16] (by decide +kernel) (by decide +kernel)
set_option maxRecDepth 20000 in
theorem gX0_insert_X0_endOf : GoodIn wsX0_insert (wsV RX0 41 RX0 yX0_endOf wsX0_endOf) := goodIn_app (goodIn_of _ (by decide +kernel)) ggX0_insert_X0_endOf
theorem dX0_insert_0 : decode cX0_insert 0 = .ok (.iload_n 2, 1) := by decide +kernel
theorem dX0_insert_1 : decode cX0_insert 1 = .ok (.istore_n 3, 1) := by decide +kernel
theorem dX0_insert_2 : decode cX0_insert 2 = .ok (.iload_n 3, 1) := by decide +kernel
theorem dX0_insert_3 : decode cX0_insert 3 = .ok (.ifCond .le 43, 3) := by decide +kernel
theorem dX0_insert_6 : decode cX0_insert 6 = .ok (.aload_n 0, 1) := by decide +kernel
theorem dX0_insert_7 : decode cX0_insert 7 = .ok (.aload_n 0, 1) := by decide +kernel
theorem dX0_insert_8 : decode cX0_insert 8 = .ok (.getfield 30, 3) := by decide +kernel
theorem dX0_insert_11 : decode cX0_insert 11 = .ok (.iload_n 3, 1) := by decide +kernel
theorem dX0_insert_12 : decode cX0_insert 12 = .ok (.iconst 1, 1) := by decide +kernel
theorem dX0_insert_13 : decode cX0_insert 13 = .ok (.isub, 1) := by decide +kernel
theorem dX0_insert_14 : decode cX0_insert 14 = .ok (.iaload, 1) := by decide +kernel
theorem dX0_insert_15 : decode cX0_insert 15 = .ok (.invokevirtual 41, 3) := by decide +kernel
theorem dX0_insert_18 : decode cX0_insert 18 = .ok (.aload_n 0, 1) := by decide +kernel
theorem dX0_insert_19 : decode cX0_insert 19 = .ok (.iload_n 1, 1) := by decide +kernel
theorem dX0_insert_20 : decode cX0_insert 20 = .ok (.invokevirtual 41, 3) := by decide +kernel
theorem dX0_insert_23 : decode cX0_insert 23 = .ok (.if_icmp .le 23, 3) := by decide +kernel
theorem dX0_insert_26 : decode cX0_insert 26 = .ok (.aload_n 0, 1) := by decide +kernel
theorem dX0_insert_27 : decode cX0_insert 27 = .ok (.getfield 30, 3) := by decide +kernel
theorem dX0_insert_30 : decode cX0_insert 30 = .ok (.iload_n 3, 1) := by decide +kernel
theorem dX0_insert_31 : decode cX0_insert 31 = .ok (.aload_n 0, 1) := by decide +kernel
theorem dX0_insert_32 : decode cX0_insert 32 = .ok (.getfield 30, 3) := by decide +kernel
theorem dX0_insert_35 : decode cX0_insert 35 = .ok (.iload_n 3, 1) := by decide +kernel
theorem dX0_insert_36 : decode cX0_insert 36 = .ok (.iconst 1, 1) := by decide +kernel
theorem dX0_insert_37 : decode cX0_insert 37 = .ok (.isub, 1) := by decide +kernel
theorem dX0_insert_38 : decode cX0_insert 38 = .ok (.iaload, 1) := by decide +kernel
theorem dX0_insert_39 : decode cX0_insert 39 = .ok (.iastore, 1) := by decide +kernel
theorem dX0_insert_40 : decode cX0_insert 40 = .ok (.iinc 3 (-1), 3) := by decide +kernel
theorem dX0_insert_43 : decode cX0_insert 43 = .ok (.goto (-41), 3) := by decide +kernel
theorem dX0_insert_46 : decode cX0_insert 46 = .ok (.aload_n 0, 1) := by decide +kernel
theorem dX0_insert_47 : decode cX0_insert 47 = .ok (.getfield 30, 3) := by decide +kernel
theorem dX0_insert_50 : decode cX0_insert 50 = .ok (.iload_n 3, 1) := by decide +kernel
theorem dX0_insert_51 : decode cX0_insert 51 = .ok (.iload_n 1, 1) := by decide +kernel
theorem dX0_insert_52 : decode cX0_insert 52 = .ok (.iastore, 1) := by decide +kernel
theorem dX0_insert_53 : decode cX0_insert 53 = .ok (.return_, 1) := by decide +kernel
set_option maxRecDepth 20000 in
theorem ggX0_namesHeld_X0_endOf : GoodIn wsX0_namesHeld wsX0_endOf := goodIn_r _ [9, 2, 10, 16, 17, 18, 19, 20, 21, 22, 23] (by decide +kernel) (by decide +kernel)
set_option maxRecDepth 20000 in
theorem gX0_namesHeld_X0_endOf : GoodIn wsX0_namesHeld (wsV RX0 41 RX0 yX0_endOf wsX0_endOf) := goodIn_app (goodIn_of _ (by decide +kernel)) ggX0_namesHeld_X0_endOf
set_option maxRecDepth 20000 in
theorem ggX0_namesHeld_X2_contains : GoodIn wsX0_namesHeld wsX2_contains := goodIn_r _ [13] (by decide +kernel) (by decide +kernel)
set_option maxRecDepth 20000 in
theorem gX0_namesHeld_X2_contains_n55 : GoodIn wsX0_namesHeld (wsX2_contains) := ggX0_namesHeld_X2_contains
set_option maxRecDepth 20000 in
theorem ggX0_namesHeld_X2_namesOf : GoodIn wsX0_namesHeld wsX2_namesOf := goodIn_r _ [15] (by decide +kernel) (by decide +kernel)
set_option maxRecDepth 20000 in
theorem gX0_namesHeld_X2_namesOf_n58 : GoodIn wsX0_namesHeld (wsX2_namesOf) := ggX0_namesHeld_X2_namesOf
theorem dX0_namesHeld_0 : decode cX0_namesHeld 0 = .ok (.iconst 0, 1) := by decide +kernel
theorem dX0_namesHeld_1 : decode cX0_namesHeld 1 = .ok (.istore_n 3, 1) := by decide +kernel
theorem dX0_namesHeld_2 : decode cX0_namesHeld 2 = .ok (.iconst 0, 1) := by decide +kernel
theorem dX0_namesHeld_3 : decode cX0_namesHeld 3 = .ok (.istore 4, 2) := by decide +kernel
theorem dX0_namesHeld_5 : decode cX0_namesHeld 5 = .ok (.iload 4, 2) := by decide +kernel
theorem dX0_namesHeld_7 : decode cX0_namesHeld 7 = .ok (.aload_n 0, 1) := by decide +kernel
theorem dX0_namesHeld_8 : decode cX0_namesHeld 8 = .ok (.getfield 33, 3) := by decide +kernel
theorem dX0_namesHeld_11 : decode cX0_namesHeld 11 = .ok (.if_icmp .ge 69, 3) := by decide +kernel
theorem dX0_namesHeld_14 : decode cX0_namesHeld 14 = .ok (.aload_n 0, 1) := by decide +kernel
theorem dX0_namesHeld_15 : decode cX0_namesHeld 15 = .ok (.getfield 18, 3) := by decide +kernel
theorem dX0_namesHeld_18 : decode cX0_namesHeld 18 = .ok (.iload 4, 2) := by decide +kernel
theorem dX0_namesHeld_20 : decode cX0_namesHeld 20 = .ok (.iaload, 1) := by decide +kernel
theorem dX0_namesHeld_21 : decode cX0_namesHeld 21 = .ok (.iload_n 1, 1) := by decide +kernel
theorem dX0_namesHeld_22 : decode cX0_namesHeld 22 = .ok (.if_icmp .gt 17, 3) := by decide +kernel
theorem dX0_namesHeld_25 : decode cX0_namesHeld 25 = .ok (.iload_n 1, 1) := by decide +kernel
theorem dX0_namesHeld_26 : decode cX0_namesHeld 26 = .ok (.aload_n 0, 1) := by decide +kernel
theorem dX0_namesHeld_27 : decode cX0_namesHeld 27 = .ok (.iload 4, 2) := by decide +kernel
theorem dX0_namesHeld_29 : decode cX0_namesHeld 29 = .ok (.invokevirtual 41, 3) := by decide +kernel
theorem dX0_namesHeld_32 : decode cX0_namesHeld 32 = .ok (.if_icmp .gt 7, 3) := by decide +kernel
theorem dX0_namesHeld_35 : decode cX0_namesHeld 35 = .ok (.iconst 1, 1) := by decide +kernel
theorem dX0_namesHeld_36 : decode cX0_namesHeld 36 = .ok (.goto 4, 3) := by decide +kernel
theorem dX0_namesHeld_39 : decode cX0_namesHeld 39 = .ok (.iconst 0, 1) := by decide +kernel
theorem dX0_namesHeld_40 : decode cX0_namesHeld 40 = .ok (.istore 5, 2) := by decide +kernel
theorem dX0_namesHeld_42 : decode cX0_namesHeld 42 = .ok (.iload 5, 2) := by decide +kernel
theorem dX0_namesHeld_44 : decode cX0_namesHeld 44 = .ok (.ifCond .eq 30, 3) := by decide +kernel
theorem dX0_namesHeld_47 : decode cX0_namesHeld 47 = .ok (.iload_n 2, 1) := by decide +kernel
theorem dX0_namesHeld_48 : decode cX0_namesHeld 48 = .ok (.aload_n 0, 1) := by decide +kernel
theorem dX0_namesHeld_49 : decode cX0_namesHeld 49 = .ok (.getfield 11, 3) := by decide +kernel
theorem dX0_namesHeld_52 : decode cX0_namesHeld 52 = .ok (.iload 4, 2) := by decide +kernel
theorem dX0_namesHeld_54 : decode cX0_namesHeld 54 = .ok (.iaload, 1) := by decide +kernel
theorem dX0_namesHeld_55 : decode cX0_namesHeld 55 = .ok (.invokestatic 55, 3) := by decide +kernel
theorem dX0_namesHeld_58 : decode cX0_namesHeld 58 = .ok (.ifCond .eq 16, 3) := by decide +kernel
theorem dX0_namesHeld_61 : decode cX0_namesHeld 61 = .ok (.iload_n 3, 1) := by decide +kernel
theorem dX0_namesHeld_62 : decode cX0_namesHeld 62 = .ok (.aload_n 0, 1) := by decide +kernel
theorem dX0_namesHeld_63 : decode cX0_namesHeld 63 = .ok (.getfield 15, 3) := by decide +kernel
theorem dX0_namesHeld_66 : decode cX0_namesHeld 66 = .ok (.iload 4, 2) := by decide +kernel
theorem dX0_namesHeld_68 : decode cX0_namesHeld 68 = .ok (.iaload, 1) := by decide +kernel
theorem dX0_namesHeld_69 : decode cX0_namesHeld 69 = .ok (.invokestatic 58, 3) := by decide +kernel
theorem dX0_namesHeld_72 : decode cX0_namesHeld 72 = .ok (.ior, 1) := by decide +kernel
theorem dX0_namesHeld_73 : decode cX0_namesHeld 73 = .ok (.istore_n 3, 1) := by decide +kernel
theorem dX0_namesHeld_74 : decode cX0_namesHeld 74 = .ok (.iinc 4 1, 3) := by decide +kernel
theorem dX0_namesHeld_77 : decode cX0_namesHeld 77 = .ok (.goto (-72), 3) := by decide +kernel
theorem dX0_namesHeld_80 : decode cX0_namesHeld 80 = .ok (.iload_n 3, 1) := by decide +kernel
theorem dX0_namesHeld_81 : decode cX0_namesHeld 81 = .ok (.ireturn, 1) := by decide +kernel
theorem dX1_init_0 : decode cX1_init 0 = .ok (.aload_n 0, 1) := by decide +kernel
theorem dX1_init_1 : decode cX1_init 1 = .ok (.invokespecial 3, 3) := by decide +kernel
theorem dX1_init_4 : decode cX1_init 4 = .ok (.aload_n 0, 1) := by decide +kernel
theorem dX1_init_5 : decode cX1_init 5 = .ok (.bipush 8, 2) := by decide +kernel
theorem dX1_init_7 : decode cX1_init 7 = .ok (.newarray .int, 2) := by decide +kernel
theorem dX1_init_9 : decode cX1_init 9 = .ok (.putfield 11, 3) := by decide +kernel
theorem dX1_init_12 : decode cX1_init 12 = .ok (.aload_n 0, 1) := by decide +kernel
theorem dX1_init_13 : decode cX1_init 13 = .ok (.bipush 8, 2) := by decide +kernel
theorem dX1_init_15 : decode cX1_init 15 = .ok (.newarray .int, 2) := by decide +kernel
theorem dX1_init_17 : decode cX1_init 17 = .ok (.putfield 15, 3) := by decide +kernel
theorem dX1_init_20 : decode cX1_init 20 = .ok (.aload_n 0, 1) := by decide +kernel
theorem dX1_init_21 : decode cX1_init 21 = .ok (.bipush 8, 2) := by decide +kernel
theorem dX1_init_23 : decode cX1_init 23 = .ok (.newarray .int, 2) := by decide +kernel
theorem dX1_init_25 : decode cX1_init 25 = .ok (.putfield 18, 3) := by decide +kernel
theorem dX1_init_28 : decode cX1_init 28 = .ok (.aload_n 0, 1) := by decide +kernel
theorem dX1_init_29 : decode cX1_init 29 = .ok (.bipush 8, 2) := by decide +kernel
theorem dX1_init_31 : decode cX1_init 31 = .ok (.newarray .int, 2) := by decide +kernel
theorem dX1_init_33 : decode cX1_init 33 = .ok (.putfield 21, 3) := by decide +kernel
theorem dX1_init_36 : decode cX1_init 36 = .ok (.aload_n 0, 1) := by decide +kernel
theorem dX1_init_37 : decode cX1_init 37 = .ok (.bipush 8, 2) := by decide +kernel
theorem dX1_init_39 : decode cX1_init 39 = .ok (.newarray .int, 2) := by decide +kernel
theorem dX1_init_41 : decode cX1_init 41 = .ok (.putfield 24, 3) := by decide +kernel
theorem dX1_init_44 : decode cX1_init 44 = .ok (.aload_n 0, 1) := by decide +kernel
theorem dX1_init_45 : decode cX1_init 45 = .ok (.bipush 8, 2) := by decide +kernel
theorem dX1_init_47 : decode cX1_init 47 = .ok (.newarray .int, 2) := by decide +kernel
theorem dX1_init_49 : decode cX1_init 49 = .ok (.putfield 27, 3) := by decide +kernel
theorem dX1_init_52 : decode cX1_init 52 = .ok (.aload_n 0, 1) := by decide +kernel
theorem dX1_init_53 : decode cX1_init 53 = .ok (.bipush 8, 2) := by decide +kernel
theorem dX1_init_55 : decode cX1_init 55 = .ok (.newarray .int, 2) := by decide +kernel
theorem dX1_init_57 : decode cX1_init 57 = .ok (.putfield 30, 3) := by decide +kernel
theorem dX1_init_60 : decode cX1_init 60 = .ok (.aload_n 0, 1) := by decide +kernel
theorem dX1_init_61 : decode cX1_init 61 = .ok (.bipush 8, 2) := by decide +kernel
theorem dX1_init_63 : decode cX1_init 63 = .ok (.newarray .int, 2) := by decide +kernel
theorem dX1_init_65 : decode cX1_init 65 = .ok (.putfield 33, 3) := by decide +kernel
theorem dX1_init_68 : decode cX1_init 68 = .ok (.aload_n 0, 1) := by decide +kernel
theorem dX1_init_69 : decode cX1_init 69 = .ok (.iconst 0, 1) := by decide +kernel
theorem dX1_init_70 : decode cX1_init 70 = .ok (.putfield 36, 3) := by decide +kernel
theorem dX1_init_73 : decode cX1_init 73 = .ok (.return_, 1) := by decide +kernel
theorem dX1_isFull_0 : decode cX1_isFull 0 = .ok (.aload_n 0, 1) := by decide +kernel
theorem dX1_isFull_1 : decode cX1_isFull 1 = .ok (.getfield 36, 3) := by decide +kernel
theorem dX1_isFull_4 : decode cX1_isFull 4 = .ok (.bipush 8, 2) := by decide +kernel
theorem dX1_isFull_6 : decode cX1_isFull 6 = .ok (.if_icmp .lt 7, 3) := by decide +kernel
theorem dX1_isFull_9 : decode cX1_isFull 9 = .ok (.iconst 1, 1) := by decide +kernel
theorem dX1_isFull_10 : decode cX1_isFull 10 = .ok (.goto 4, 3) := by decide +kernel
theorem dX1_isFull_13 : decode cX1_isFull 13 = .ok (.iconst 0, 1) := by decide +kernel
theorem dX1_isFull_14 : decode cX1_isFull 14 = .ok (.ireturn, 1) := by decide +kernel
set_option maxRecDepth 20000 in
theorem ggX1_append_X1_updateChains : GoodIn wsX1_append wsX1_updateChains := goodIn_r _ [12, 1, 13, 2, 14, 3, 15, 16, 17, 18, 5, 19, 20, 21, 22, 23, 24, 11, 25, 26, 27, 28, 29, 30, 31, 32, 33, 34] (by decide +kernel) (by decide +kernel)
set_option maxRecDepth 20000 in
theorem gX1_append_X1_updateChains : GoodIn wsX1_append (wsV RX1 40 RX1 yX1_updateChains wsX1_updateChains) := goodIn_app (goodIn_of _ (by decide +kernel)) ggX1_append_X1_updateChains
theorem dX1_append_0 : decode cX1_append 0 = .ok (.aload_n 0, 1) := by decide +kernel
theorem dX1_append_1 : decode cX1_append 1 = .ok (.getfield 36, 3) := by decide +kernel
theorem dX1_append_4 : decode cX1_append 4 = .ok (.istore 5, 2) := by decide +kernel
theorem dX1_append_6 : decode cX1_append 6 = .ok (.aload_n 0, 1) := by decide +kernel
theorem dX1_append_7 : decode cX1_append 7 = .ok (.getfield 11, 3) := by decide +kernel
theorem dX1_append_10 : decode cX1_append 10 = .ok (.iload 5, 2) := by decide +kernel
theorem dX1_append_12 : decode cX1_append 12 = .ok (.iload_n 1, 1) := by decide +kernel
theorem dX1_append_13 : decode cX1_append 13 = .ok (.iastore, 1) := by decide +kernel
theorem dX1_append_14 : decode cX1_append 14 = .ok (.aload_n 0, 1) := by decide +kernel
theorem dX1_append_15 : decode cX1_append 15 = .ok (.getfield 15, 3) := by decide +kernel
theorem dX1_append_18 : decode cX1_append 18 = .ok (.iload 5, 2) := by decide +kernel
theorem dX1_append_20 : decode cX1_append 20 = .ok (.iconst (-1), 1) := by decide +kernel
theorem dX1_append_21 : decode cX1_append 21 = .ok (.iastore, 1) := by decide +kernel
theorem dX1_append_22 : decode cX1_append 22 = .ok (.aload_n 0, 1) := by decide +kernel
theorem dX1_append_23 : decode cX1_append 23 = .ok (.getfield 18, 3) := by decide +kernel
theorem dX1_append_26 : decode cX1_append 26 = .ok (.iload 5, 2) := by decide +kernel
theorem dX1_append_28 : decode cX1_append 28 = .ok (.iload_n 2, 1) := by decide +kernel
theorem dX1_append_29 : decode cX1_append 29 = .ok (.iastore, 1) := by decide +kernel
theorem dX1_append_30 : decode cX1_append 30 = .ok (.aload_n 0, 1) := by decide +kernel
theorem dX1_append_31 : decode cX1_append 31 = .ok (.getfield 21, 3) := by decide +kernel
theorem dX1_append_34 : decode cX1_append 34 = .ok (.iload 5, 2) := by decide +kernel
theorem dX1_append_36 : decode cX1_append 36 = .ok (.iload_n 3, 1) := by decide +kernel
theorem dX1_append_37 : decode cX1_append 37 = .ok (.iastore, 1) := by decide +kernel
theorem dX1_append_38 : decode cX1_append 38 = .ok (.aload_n 0, 1) := by decide +kernel
theorem dX1_append_39 : decode cX1_append 39 = .ok (.getfield 24, 3) := by decide +kernel
theorem dX1_append_42 : decode cX1_append 42 = .ok (.iload 5, 2) := by decide +kernel
theorem dX1_append_44 : decode cX1_append 44 = .ok (.iload 4, 2) := by decide +kernel
theorem dX1_append_46 : decode cX1_append 46 = .ok (.iastore, 1) := by decide +kernel
theorem dX1_append_47 : decode cX1_append 47 = .ok (.aload_n 0, 1) := by decide +kernel
theorem dX1_append_48 : decode cX1_append 48 = .ok (.getfield 27, 3) := by decide +kernel
theorem dX1_append_51 : decode cX1_append 51 = .ok (.iload 5, 2) := by decide +kernel
theorem dX1_append_53 : decode cX1_append 53 = .ok (.iconst (-1), 1) := by decide +kernel
theorem dX1_append_54 : decode cX1_append 54 = .ok (.iastore, 1) := by decide +kernel
theorem dX1_append_55 : decode cX1_append 55 = .ok (.aload_n 0, 1) := by decide +kernel
theorem dX1_append_56 : decode cX1_append 56 = .ok (.dup, 1) := by decide +kernel
theorem dX1_append_57 : decode cX1_append 57 = .ok (.getfield 36, 3) := by decide +kernel
theorem dX1_append_60 : decode cX1_append 60 = .ok (.iconst 1, 1) := by decide +kernel
theorem dX1_append_61 : decode cX1_append 61 = .ok (.iadd, 1) := by decide +kernel
theorem dX1_append_62 : decode cX1_append 62 = .ok (.putfield 36, 3) := by decide +kernel
theorem dX1_append_65 : decode cX1_append 65 = .ok (.aload_n 0, 1) := by decide +kernel
theorem dX1_append_66 : decode cX1_append 66 = .ok (.iload 5, 2) := by decide +kernel
theorem dX1_append_68 : decode cX1_append 68 = .ok (.invokevirtual 40, 3) := by decide +kernel
theorem dX1_append_71 : decode cX1_append 71 = .ok (.iload 5, 2) := by decide +kernel
theorem dX1_append_73 : decode cX1_append 73 = .ok (.ireturn, 1) := by decide +kernel
theorem dX1_isRoot_0 : decode cX1_isRoot 0 = .ok (.aload_n 0, 1) := by decide +kernel
theorem dX1_isRoot_1 : decode cX1_isRoot 1 = .ok (.getfield 11, 3) := by decide +kernel
theorem dX1_isRoot_4 : decode cX1_isRoot 4 = .ok (.iload_n 1, 1) := by decide +kernel
theorem dX1_isRoot_5 : decode cX1_isRoot 5 = .ok (.iaload, 1) := by decide +kernel
theorem dX1_isRoot_6 : decode cX1_isRoot 6 = .ok (.iconst (-1), 1) := by decide +kernel
theorem dX1_isRoot_7 : decode cX1_isRoot 7 = .ok (.if_icmp .ne 7, 3) := by decide +kernel
theorem dX1_isRoot_10 : decode cX1_isRoot 10 = .ok (.iconst 1, 1) := by decide +kernel
theorem dX1_isRoot_11 : decode cX1_isRoot 11 = .ok (.goto 4, 3) := by decide +kernel
theorem dX1_isRoot_14 : decode cX1_isRoot 14 = .ok (.iconst 0, 1) := by decide +kernel
theorem dX1_isRoot_15 : decode cX1_isRoot 15 = .ok (.ireturn, 1) := by decide +kernel
set_option maxRecDepth 20000 in
theorem ggX1_canBeSignedAlsoBy_X1_isRoot : GoodIn wsX1_canBeSignedAlsoBy wsX1_isRoot := goodIn_r _ [7, 2, 8, 9, 10, 11, 12, 13, 14, 15, 16] (by decide +kernel) (by decide +kernel)
set_option maxRecDepth 20000 in
theorem gX1_canBeSignedAlsoBy_X1_isRoot : GoodIn wsX1_canBeSignedAlsoBy (wsV RX1 44 RX1 yX1_isRoot wsX1_isRoot) := goodIn_app (goodIn_of _ (by decide +kernel)) ggX1_canBeSignedAlsoBy_X1_isRoot
theorem dX1_canBeSignedAlsoBy_0 : decode cX1_canBeSignedAlsoBy 0 = .ok (.aload_n 0, 1) := by decide +kernel
theorem dX1_canBeSignedAlsoBy_1 : decode cX1_canBeSignedAlsoBy 1 = .ok (.iload_n 1, 1) := by decide +kernel
theorem dX1_canBeSignedAlsoBy_2 : decode cX1_canBeSignedAlsoBy 2 = .ok (.invokevirtual 44, 3) := by decide +kernel
theorem dX1_canBeSignedAlsoBy_5 : decode cX1_canBeSignedAlsoBy 5 = .ok (.ifCond .ne 27, 3) := by decide +kernel
theorem dX1_canBeSignedAlsoBy_8 : decode cX1_canBeSignedAlsoBy 8 = .ok (.aload_n 0, 1) := by decide +kernel
theorem dX1_canBeSignedAlsoBy_9 : decode cX1_canBeSignedAlsoBy 9 = .ok (.getfield 15, 3) := by decide +kernel
theorem dX1_canBeSignedAlsoBy_12 : decode cX1_canBeSignedAlsoBy 12 = .ok (.iload_n 1, 1) := by decide +kernel
theorem dX1_canBeSignedAlsoBy_13 : decode cX1_canBeSignedAlsoBy 13 = .ok (.iaload, 1) := by decide +kernel
theorem dX1_canBeSignedAlsoBy_14 : decode cX1_canBeSignedAlsoBy 14 = .ok (.iconst (-1), 1) := by decide +kernel
theorem dX1_canBeSignedAlsoBy_15 : decode cX1_canBeSignedAlsoBy 15 = .ok (.if_icmp .ne 17, 3) := by decide +kernel
theorem dX1_canBeSignedAlsoBy_18 : decode cX1_canBeSignedAlsoBy 18 = .ok (.aload_n 0, 1) := by decide +kernel
theorem dX1_canBeSignedAlsoBy_19 : decode cX1_canBeSignedAlsoBy 19 = .ok (.getfield 11, 3) := by decide +kernel
theorem dX1_canBeSignedAlsoBy_22 : decode cX1_canBeSignedAlsoBy 22 = .ok (.iload_n 1, 1) := by decide +kernel
theorem dX1_canBeSignedAlsoBy_23 : decode cX1_canBeSignedAlsoBy 23 = .ok (.iaload, 1) := by decide +kernel
theorem dX1_canBeSignedAlsoBy_24 : decode cX1_canBeSignedAlsoBy 24 = .ok (.iload_n 2, 1) := by decide +kernel
theorem dX1_canBeSignedAlsoBy_25 : decode cX1_canBeSignedAlsoBy 25 = .ok (.if_icmp .eq 7, 3) := by decide +kernel
theorem dX1_canBeSignedAlsoBy_28 : decode cX1_canBeSignedAlsoBy 28 = .ok (.iconst 1, 1) := by decide +kernel
theorem dX1_canBeSignedAlsoBy_29 : decode cX1_canBeSignedAlsoBy 29 = .ok (.goto 4, 3) := by decide +kernel
theorem dX1_canBeSignedAlsoBy_32 : decode cX1_canBeSignedAlsoBy 32 = .ok (.iconst 0, 1) := by decide +kernel
theorem dX1_canBeSignedAlsoBy_33 : decode cX1_canBeSignedAlsoBy 33 = .ok (.ireturn, 1) := by decide +kernel
set_option maxRecDepth 20000 in
theorem ggX1_signAlsoBy_X1_updateChains : GoodIn wsX1_signAlsoBy wsX1_updateChains := goodIn_r _ [6, 7, 8, 9, 10, 1, 11, 12, 13, 14, 15, 16, 17, 18, 19, 20, 21, 5, 22, 23, 24, 25, 26, 27, 28, 29, 30, 31] (by decide +kernel) (by decide +kernel)
set_option maxRecDepth 20000 in
theorem gX1_signAlsoBy_X1_updateChains : GoodIn wsX1_signAlsoBy (wsV RX1 40 RX1 yX1_updateChains wsX1_updateChains) := goodIn_app (goodIn_of _ (by decide +kernel)) ggX1_signAlsoBy_X1_updateChains
theorem dX1_signAlsoBy_0 : decode cX1_signAlsoBy 0 = .ok (.aload_n 0, 1) := by decide +kernel
theorem dX1_signAlsoBy_1 : decode cX1_signAlsoBy 1 = .ok (.getfield 15, 3) := by decide +kernel
theorem dX1_signAlsoBy_4 : decode cX1_signAlsoBy 4 = .ok (.iload_n 1, 1) := by decide +kernel
theorem dX1_signAlsoBy_5 : decode cX1_signAlsoBy 5 = .ok (.iload_n 2, 1) := by decide +kernel
theorem dX1_signAlsoBy_6 : decode cX1_signAlsoBy 6 = .ok (.iastore, 1) := by decide +kernel
theorem dX1_signAlsoBy_7 : decode cX1_signAlsoBy 7 = .ok (.aload_n 0, 1) := by decide +kernel
theorem dX1_signAlsoBy_8 : decode cX1_signAlsoBy 8 = .ok (.iload_n 1, 1) := by decide +kernel
theorem dX1_signAlsoBy_9 : decode cX1_signAlsoBy 9 = .ok (.invokevirtual 40, 3) := by decide +kernel
theorem dX1_signAlsoBy_12 : decode cX1_signAlsoBy 12 = .ok (.return_, 1) := by decide +kernel
set_option maxRecDepth 20000 in
theorem ggX1_updateChains_X1_isRoot : GoodIn wsX1_updateChains wsX1_isRoot := goodIn_r _ [18, 3, 19, 20, 21, 22, 23, 24, 25, 26, 27] (by decide +kernel) (by decide +kernel)
set_option maxRecDepth 20000 in
theorem gX1_updateChains_X1_isRoot : GoodIn wsX1_updateChains (wsV RX1 44 RX1 yX1_isRoot wsX1_isRoot) := goodIn_app (goodIn_of _ (by decide +kernel)) ggX1_updateChains_X1_isRoot
theorem dX1_updateChains_0 : decode cX1_updateChains 0 = .ok (.iload_n 1, 1) := by decide +kernel
theorem dX1_updateChains_1 : decode cX1_updateChains 1 = .ok (.istore_n 2, 1) := by decide +kernel
theorem dX1_updateChains_2 : decode cX1_updateChains 2 = .ok (.iload_n 2, 1) := by decide +kernel
theorem dX1_updateChains_3 : decode cX1_updateChains 3 = .ok (.aload_n 0, 1) := by decide +kernel
theorem dX1_updateChains_4 : decode cX1_updateChains 4 = .ok (.getfield 36, 3) := by decide +kernel
theorem dX1_updateChains_7 : decode cX1_updateChains 7 = .ok (.if_icmp .ge 115, 3) := by decide +kernel
theorem dX1_updateChains_10 : decode cX1_updateChains 10 = .ok (.sipush 5000, 3) := by decide +kernel
theorem dX1_updateChains_13 : decode cX1_updateChains 13 = .ok (.istore_n 3, 1) := by decide +kernel
theorem dX1_updateChains_14 : decode cX1_updateChains 14 = .ok (.iconst 1, 1) := by decide +kernel
theorem dX1_updateChains_15 : decode cX1_updateChains 15 = .ok (.istore 4, 2) := by decide +kernel
theorem dX1_updateChains_17 : decode cX1_updateChains 17 = .ok (.aload_n 0, 1) := by decide +kernel
theorem dX1_updateChains_18 : decode cX1_updateChains 18 = .ok (.iload_n 2, 1) := by decide +kernel
theorem dX1_updateChains_19 : decode cX1_updateChains 19 = .ok (.invokevirtual 44, 3) := by decide +kernel
theorem dX1_updateChains_22 : decode cX1_updateChains 22 = .ok (.ifCond .ne 28, 3) := by decide +kernel
theorem dX1_updateChains_25 : decode cX1_updateChains 25 = .ok (.aload_n 0, 1) := by decide +kernel
theorem dX1_updateChains_26 : decode cX1_updateChains 26 = .ok (.getfield 30, 3) := by decide +kernel
theorem dX1_updateChains_29 : decode cX1_updateChains 29 = .ok (.aload_n 0, 1) := by decide +kernel
theorem dX1_updateChains_30 : decode cX1_updateChains 30 = .ok (.getfield 11, 3) := by decide +kernel
theorem dX1_updateChains_33 : decode cX1_updateChains 33 = .ok (.iload_n 2, 1) := by decide +kernel
theorem dX1_updateChains_34 : decode cX1_updateChains 34 = .ok (.iaload, 1) := by decide +kernel
theorem dX1_updateChains_35 : decode cX1_updateChains 35 = .ok (.iaload, 1) := by decide +kernel
theorem dX1_updateChains_36 : decode cX1_updateChains 36 = .ok (.istore_n 3, 1) := by decide +kernel
theorem dX1_updateChains_37 : decode cX1_updateChains 37 = .ok (.aload_n 0, 1) := by decide +kernel
theorem dX1_updateChains_38 : decode cX1_updateChains 38 = .ok (.getfield 33, 3) := by decide +kernel
theorem dX1_updateChains_41 : decode cX1_updateChains 41 = .ok (.aload_n 0, 1) := by decide +kernel
theorem dX1_updateChains_42 : decode cX1_updateChains 42 = .ok (.getfield 11, 3) := by decide +kernel
theorem dX1_updateChains_45 : decode cX1_updateChains 45 = .ok (.iload_n 2, 1) := by decide +kernel
theorem dX1_updateChains_46 : decode cX1_updateChains 46 = .ok (.iaload, 1) := by decide +kernel
theorem dX1_updateChains_47 : decode cX1_updateChains 47 = .ok (.iaload, 1) := by decide +kernel
theorem dX1_updateChains_48 : decode cX1_updateChains 48 = .ok (.istore 4, 2) := by decide +kernel
theorem dX1_updateChains_50 : decode cX1_updateChains 50 = .ok (.aload_n 0, 1) := by decide +kernel
theorem dX1_updateChains_51 : decode cX1_updateChains 51 = .ok (.getfield 15, 3) := by decide +kernel
theorem dX1_updateChains_54 : decode cX1_updateChains 54 = .ok (.iload_n 2, 1) := by decide +kernel
theorem dX1_updateChains_55 : decode cX1_updateChains 55 = .ok (.iaload, 1) := by decide +kernel
theorem dX1_updateChains_56 : decode cX1_updateChains 56 = .ok (.iconst (-1), 1) := by decide +kernel
theorem dX1_updateChains_57 : decode cX1_updateChains 57 = .ok (.if_icmp .eq 35, 3) := by decide +kernel
theorem dX1_updateChains_60 : decode cX1_updateChains 60 = .ok (.iload_n 3, 1) := by decide +kernel
theorem dX1_updateChains_61 : decode cX1_updateChains 61 = .ok (.aload_n 0, 1) := by decide +kernel
theorem dX1_updateChains_62 : decode cX1_updateChains 62 = .ok (.getfield 30, 3) := by decide +kernel
theorem dX1_updateChains_65 : decode cX1_updateChains 65 = .ok (.aload_n 0, 1) := by decide +kernel
theorem dX1_updateChains_66 : decode cX1_updateChains 66 = .ok (.getfield 15, 3) := by decide +kernel
theorem dX1_updateChains_69 : decode cX1_updateChains 69 = .ok (.iload_n 2, 1) := by decide +kernel
theorem dX1_updateChains_70 : decode cX1_updateChains 70 = .ok (.iaload, 1) := by decide +kernel
theorem dX1_updateChains_71 : decode cX1_updateChains 71 = .ok (.iaload, 1) := by decide +kernel
theorem dX1_updateChains_72 : decode cX1_updateChains 72 = .ok (.invokestatic 48, 3) := by decide +kernel
theorem dX1_updateChains_75 : decode cX1_updateChains 75 = .ok (.istore_n 3, 1) := by decide +kernel
theorem dX1_updateChains_76 : decode cX1_updateChains 76 = .ok (.iload 4, 2) := by decide +kernel
theorem dX1_updateChains_78 : decode cX1_updateChains 78 = .ok (.aload_n 0, 1) := by decide +kernel
theorem dX1_updateChains_79 : decode cX1_updateChains 79 = .ok (.getfield 33, 3) := by decide +kernel
theorem dX1_updateChains_82 : decode cX1_updateChains 82 = .ok (.aload_n 0, 1) := by decide +kernel
theorem dX1_updateChains_83 : decode cX1_updateChains 83 = .ok (.getfield 15, 3) := by decide +kernel
theorem dX1_updateChains_86 : decode cX1_updateChains 86 = .ok (.iload_n 2, 1) := by decide +kernel
theorem dX1_updateChains_87 : decode cX1_updateChains 87 = .ok (.iaload, 1) := by decide +kernel
theorem dX1_updateChains_88 : decode cX1_updateChains 88 = .ok (.iaload, 1) := by decide +kernel
theorem dX1_updateChains_89 : decode cX1_updateChains 89 = .ok (.iadd, 1) := by decide +kernel
theorem dX1_updateChains_90 : decode cX1_updateChains 90 = .ok (.istore 4, 2) := by decide +kernel
theorem dX1_updateChains_92 : decode cX1_updateChains 92 = .ok (.aload_n 0, 1) := by decide +kernel
theorem dX1_updateChains_93 : decode cX1_updateChains 93 = .ok (.getfield 30, 3) := by decide +kernel
theorem dX1_updateChains_96 : decode cX1_updateChains 96 = .ok (.iload_n 2, 1) := by decide +kernel
theorem dX1_updateChains_97 : decode cX1_updateChains 97 = .ok (.iload_n 3, 1) := by decide +kernel
theorem dX1_updateChains_98 : decode cX1_updateChains 98 = .ok (.aload_n 0, 1) := by decide +kernel
theorem dX1_updateChains_99 : decode cX1_updateChains 99 = .ok (.getfield 21, 3) := by decide +kernel
theorem dX1_updateChains_102 : decode cX1_updateChains 102 = .ok (.iload_n 2, 1) := by decide +kernel
theorem dX1_updateChains_103 : decode cX1_updateChains 103 = .ok (.iaload, 1) := by decide +kernel
theorem dX1_updateChains_104 : decode cX1_updateChains 104 = .ok (.invokestatic 54, 3) := by decide +kernel
theorem dX1_updateChains_107 : decode cX1_updateChains 107 = .ok (.iastore, 1) := by decide +kernel
theorem dX1_updateChains_108 : decode cX1_updateChains 108 = .ok (.aload_n 0, 1) := by decide +kernel
theorem dX1_updateChains_109 : decode cX1_updateChains 109 = .ok (.getfield 33, 3) := by decide +kernel
theorem dX1_updateChains_112 : decode cX1_updateChains 112 = .ok (.iload_n 2, 1) := by decide +kernel
theorem dX1_updateChains_113 : decode cX1_updateChains 113 = .ok (.iload 4, 2) := by decide +kernel
theorem dX1_updateChains_115 : decode cX1_updateChains 115 = .ok (.iastore, 1) := by decide +kernel
theorem dX1_updateChains_116 : decode cX1_updateChains 116 = .ok (.iinc 2 1, 3) := by decide +kernel
theorem dX1_updateChains_119 : decode cX1_updateChains 119 = .ok (.goto (-117), 3) := by decide +kernel
theorem dX1_updateChains_122 : decode cX1_updateChains 122 = .ok (.return_, 1) := by decide +kernel
set_option maxRecDepth 20000 in
theorem ggX1_goodOn_X1_standsOn : GoodIn wsX1_goodOn wsX1_standsOn := goodIn_r _ [6, 7, 8, 9, 23, 24, 25, 26, 27, 28, 29, 30, 31] (by decide +kernel) (by decide +kernel)
set_option maxRecDepth 20000 in
theorem gX1_goodOn_X1_standsOn : GoodIn wsX1_goodOn (wsV RX1 57 RX1 yX1_standsOn wsX1_standsOn) := goodIn_app (goodIn_of _ (by decide +kernel)) ggX1_goodOn_X1_standsOn
set_option maxRecDepth 20000 in
theorem ggX1_goodOn_X1_isHeldBy : GoodIn wsX1_goodOn wsX1_isHeldBy := goodIn_r _ [13, 14, 15, 16, 17, 18, 5, 19, 20, 21, 22, 23, 24, 25, 26, 27, 28, 29, 30, 31] (by decide +kernel) (by decide +kernel)
set_option maxRecDepth 20000 in
theorem gX1_goodOn_X1_isHeldBy : GoodIn wsX1_goodOn (wsV RX1 61 RX1 yX1_isHeldBy wsX1_isHeldBy) := goodIn_app (goodIn_of _ (by decide +kernel)) ggX1_goodOn_X1_isHeldBy
theorem dX1_goodOn_0 : decode cX1_goodOn 0 = .ok (.iconst 0, 1) := by decide +kernel
theorem dX1_goodOn_1 : decode cX1_goodOn 1 = .ok (.istore_n 3, 1) := by decide +kernel
theorem dX1_goodOn_2 : decode cX1_goodOn 2 = .ok (.iconst 0, 1) := by decide +kernel
theorem dX1_goodOn_3 : decode cX1_goodOn 3 = .ok (.istore 4, 2) := by decide +kernel
theorem dX1_goodOn_5 : decode cX1_goodOn 5 = .ok (.iload 4, 2) := by decide +kernel
theorem dX1_goodOn_7 : decode cX1_goodOn 7 = .ok (.aload_n 0, 1) := by decide +kernel
theorem dX1_goodOn_8 : decode cX1_goodOn 8 = .ok (.getfield 36, 3) := by decide +kernel
theorem dX1_goodOn_11 : decode cX1_goodOn 11 = .ok (.if_icmp .ge 42, 3) := by decide +kernel
theorem dX1_goodOn_14 : decode cX1_goodOn 14 = .ok (.iload 4, 2) := by decide +kernel
theorem dX1_goodOn_16 : decode cX1_goodOn 16 = .ok (.iload_n 2, 1) := by decide +kernel
theorem dX1_goodOn_17 : decode cX1_goodOn 17 = .ok (.if_icmp .eq 30, 3) := by decide +kernel
theorem dX1_goodOn_20 : decode cX1_goodOn 20 = .ok (.aload_n 0, 1) := by decide +kernel
theorem dX1_goodOn_21 : decode cX1_goodOn 21 = .ok (.iload 4, 2) := by decide +kernel
theorem dX1_goodOn_23 : decode cX1_goodOn 23 = .ok (.iload_n 1, 1) := by decide +kernel
theorem dX1_goodOn_24 : decode cX1_goodOn 24 = .ok (.invokevirtual 57, 3) := by decide +kernel
theorem dX1_goodOn_27 : decode cX1_goodOn 27 = .ok (.ifCond .eq 20, 3) := by decide +kernel
theorem dX1_goodOn_30 : decode cX1_goodOn 30 = .ok (.aload_n 0, 1) := by decide +kernel
theorem dX1_goodOn_31 : decode cX1_goodOn 31 = .ok (.iload 4, 2) := by decide +kernel
theorem dX1_goodOn_33 : decode cX1_goodOn 33 = .ok (.iload_n 3, 1) := by decide +kernel
theorem dX1_goodOn_34 : decode cX1_goodOn 34 = .ok (.invokevirtual 61, 3) := by decide +kernel
theorem dX1_goodOn_37 : decode cX1_goodOn 37 = .ok (.ifCond .eq 10, 3) := by decide +kernel
theorem dX1_goodOn_40 : decode cX1_goodOn 40 = .ok (.iload_n 3, 1) := by decide +kernel
theorem dX1_goodOn_41 : decode cX1_goodOn 41 = .ok (.iconst 1, 1) := by decide +kernel
theorem dX1_goodOn_42 : decode cX1_goodOn 42 = .ok (.iload 4, 2) := by decide +kernel
theorem dX1_goodOn_44 : decode cX1_goodOn 44 = .ok (.ishl, 1) := by decide +kernel
theorem dX1_goodOn_45 : decode cX1_goodOn 45 = .ok (.ior, 1) := by decide +kernel
theorem dX1_goodOn_46 : decode cX1_goodOn 46 = .ok (.istore_n 3, 1) := by decide +kernel
theorem dX1_goodOn_47 : decode cX1_goodOn 47 = .ok (.iinc 4 1, 3) := by decide +kernel
theorem dX1_goodOn_50 : decode cX1_goodOn 50 = .ok (.goto (-45), 3) := by decide +kernel
theorem dX1_goodOn_53 : decode cX1_goodOn 53 = .ok (.iload_n 3, 1) := by decide +kernel
theorem dX1_goodOn_54 : decode cX1_goodOn 54 = .ok (.ireturn, 1) := by decide +kernel
theorem dX1_standsOn_0 : decode cX1_standsOn 0 = .ok (.aload_n 0, 1) := by decide +kernel
theorem dX1_standsOn_1 : decode cX1_standsOn 1 = .ok (.getfield 27, 3) := by decide +kernel
theorem dX1_standsOn_4 : decode cX1_standsOn 4 = .ok (.iload_n 1, 1) := by decide +kernel
theorem dX1_standsOn_5 : decode cX1_standsOn 5 = .ok (.iaload, 1) := by decide +kernel
theorem dX1_standsOn_6 : decode cX1_standsOn 6 = .ok (.iconst (-1), 1) := by decide +kernel
theorem dX1_standsOn_7 : decode cX1_standsOn 7 = .ok (.if_icmp .eq 13, 3) := by decide +kernel
theorem dX1_standsOn_10 : decode cX1_standsOn 10 = .ok (.iload_n 2, 1) := by decide +kernel
theorem dX1_standsOn_11 : decode cX1_standsOn 11 = .ok (.aload_n 0, 1) := by decide +kernel
theorem dX1_standsOn_12 : decode cX1_standsOn 12 = .ok (.getfield 27, 3) := by decide +kernel
theorem dX1_standsOn_15 : decode cX1_standsOn 15 = .ok (.iload_n 1, 1) := by decide +kernel
theorem dX1_standsOn_16 : decode cX1_standsOn 16 = .ok (.iaload, 1) := by decide +kernel
theorem dX1_standsOn_17 : decode cX1_standsOn 17 = .ok (.if_icmp .ge 7, 3) := by decide +kernel
theorem dX1_standsOn_20 : decode cX1_standsOn 20 = .ok (.iconst 1, 1) := by decide +kernel
theorem dX1_standsOn_21 : decode cX1_standsOn 21 = .ok (.goto 4, 3) := by decide +kernel
theorem dX1_standsOn_24 : decode cX1_standsOn 24 = .ok (.iconst 0, 1) := by decide +kernel
theorem dX1_standsOn_25 : decode cX1_standsOn 25 = .ok (.istore_n 3, 1) := by decide +kernel
theorem dX1_standsOn_26 : decode cX1_standsOn 26 = .ok (.iload_n 3, 1) := by decide +kernel
theorem dX1_standsOn_27 : decode cX1_standsOn 27 = .ok (.ifCond .eq 27, 3) := by decide +kernel
theorem dX1_standsOn_30 : decode cX1_standsOn 30 = .ok (.aload_n 0, 1) := by decide +kernel
theorem dX1_standsOn_31 : decode cX1_standsOn 31 = .ok (.getfield 18, 3) := by decide +kernel
theorem dX1_standsOn_34 : decode cX1_standsOn 34 = .ok (.iload_n 1, 1) := by decide +kernel
theorem dX1_standsOn_35 : decode cX1_standsOn 35 = .ok (.iaload, 1) := by decide +kernel
theorem dX1_standsOn_36 : decode cX1_standsOn 36 = .ok (.iload_n 2, 1) := by decide +kernel
theorem dX1_standsOn_37 : decode cX1_standsOn 37 = .ok (.if_icmp .gt 17, 3) := by decide +kernel
theorem dX1_standsOn_40 : decode cX1_standsOn 40 = .ok (.iload_n 2, 1) := by decide +kernel
theorem dX1_standsOn_41 : decode cX1_standsOn 41 = .ok (.aload_n 0, 1) := by decide +kernel
theorem dX1_standsOn_42 : decode cX1_standsOn 42 = .ok (.getfield 21, 3) := by decide +kernel
theorem dX1_standsOn_45 : decode cX1_standsOn 45 = .ok (.iload_n 1, 1) := by decide +kernel
theorem dX1_standsOn_46 : decode cX1_standsOn 46 = .ok (.iaload, 1) := by decide +kernel
theorem dX1_standsOn_47 : decode cX1_standsOn 47 = .ok (.if_icmp .gt 7, 3) := by decide +kernel
theorem dX1_standsOn_50 : decode cX1_standsOn 50 = .ok (.iconst 1, 1) := by decide +kernel
theorem dX1_standsOn_51 : decode cX1_standsOn 51 = .ok (.goto 4, 3) := by decide +kernel
theorem dX1_standsOn_54 : decode cX1_standsOn 54 = .ok (.iconst 0, 1) := by decide +kernel
theorem dX1_standsOn_55 : decode cX1_standsOn 55 = .ok (.ireturn, 1) := by decide +kernel
set_option maxRecDepth 20000 in
theorem ggX1_isHeldBy_X1_isRoot : GoodIn wsX1_isHeldBy wsX1_isRoot := goodIn_r _ [7, 1, 11, 12, 13, 14, 15, 16, 17, 18, 19] (by decide +kernel) (by decide +kernel)
set_option maxRecDepth 20000 in
theorem gX1_isHeldBy_X1_isRoot : GoodIn wsX1_isHeldBy (wsV RX1 44 RX1 yX1_isRoot wsX1_isRoot) := goodIn_app (goodIn_of _ (by decide +kernel)) ggX1_isHeldBy_X1_isRoot
set_option maxRecDepth 20000 in
theorem ggX1_isHeldBy_X2_contains : GoodIn wsX1_isHeldBy wsX2_contains := goodIn_r _ [10] (by decide +kernel) (by decide +kernel)
set_option maxRecDepth 20000 in
theorem gX1_isHeldBy_X2_contains_n64 : GoodIn wsX1_isHeldBy (wsX2_contains) := ggX1_isHeldBy_X2_contains
theorem dX1_isHeldBy_0 : decode cX1_isHeldBy 0 = .ok (.aload_n 0, 1) := by decide +kernel
theorem dX1_isHeldBy_1 : decode cX1_isHeldBy 1 = .ok (.iload_n 1, 1) := by decide +kernel
theorem dX1_isHeldBy_2 : decode cX1_isHeldBy 2 = .ok (.invokevirtual 44, 3) := by decide +kernel
theorem dX1_isHeldBy_5 : decode cX1_isHeldBy 5 = .ok (.ifCond .ne 39, 3) := by decide +kernel
theorem dX1_isHeldBy_8 : decode cX1_isHeldBy 8 = .ok (.iload_n 2, 1) := by decide +kernel
theorem dX1_isHeldBy_9 : decode cX1_isHeldBy 9 = .ok (.aload_n 0, 1) := by decide +kernel
theorem dX1_isHeldBy_10 : decode cX1_isHeldBy 10 = .ok (.getfield 11, 3) := by decide +kernel
theorem dX1_isHeldBy_13 : decode cX1_isHeldBy 13 = .ok (.iload_n 1, 1) := by decide +kernel
theorem dX1_isHeldBy_14 : decode cX1_isHeldBy 14 = .ok (.iaload, 1) := by decide +kernel
theorem dX1_isHeldBy_15 : decode cX1_isHeldBy 15 = .ok (.invokestatic 64, 3) := by decide +kernel
theorem dX1_isHeldBy_18 : decode cX1_isHeldBy 18 = .ok (.ifCond .ne 26, 3) := by decide +kernel
theorem dX1_isHeldBy_21 : decode cX1_isHeldBy 21 = .ok (.aload_n 0, 1) := by decide +kernel
theorem dX1_isHeldBy_22 : decode cX1_isHeldBy 22 = .ok (.getfield 15, 3) := by decide +kernel
theorem dX1_isHeldBy_25 : decode cX1_isHeldBy 25 = .ok (.iload_n 1, 1) := by decide +kernel
theorem dX1_isHeldBy_26 : decode cX1_isHeldBy 26 = .ok (.iaload, 1) := by decide +kernel
theorem dX1_isHeldBy_27 : decode cX1_isHeldBy 27 = .ok (.iconst (-1), 1) := by decide +kernel
theorem dX1_isHeldBy_28 : decode cX1_isHeldBy 28 = .ok (.if_icmp .eq 20, 3) := by decide +kernel
theorem dX1_isHeldBy_31 : decode cX1_isHeldBy 31 = .ok (.iload_n 2, 1) := by decide +kernel
theorem dX1_isHeldBy_32 : decode cX1_isHeldBy 32 = .ok (.aload_n 0, 1) := by decide +kernel
theorem dX1_isHeldBy_33 : decode cX1_isHeldBy 33 = .ok (.getfield 15, 3) := by decide +kernel
theorem dX1_isHeldBy_36 : decode cX1_isHeldBy 36 = .ok (.iload_n 1, 1) := by decide +kernel
theorem dX1_isHeldBy_37 : decode cX1_isHeldBy 37 = .ok (.iaload, 1) := by decide +kernel
theorem dX1_isHeldBy_38 : decode cX1_isHeldBy 38 = .ok (.invokestatic 64, 3) := by decide +kernel
theorem dX1_isHeldBy_41 : decode cX1_isHeldBy 41 = .ok (.ifCond .eq 7, 3) := by decide +kernel
theorem dX1_isHeldBy_44 : decode cX1_isHeldBy 44 = .ok (.iconst 1, 1) := by decide +kernel
theorem dX1_isHeldBy_45 : decode cX1_isHeldBy 45 = .ok (.goto 4, 3) := by decide +kernel
theorem dX1_isHeldBy_48 : decode cX1_isHeldBy 48 = .ok (.iconst 0, 1) := by decide +kernel
theorem dX1_isHeldBy_49 : decode cX1_isHeldBy 49 = .ok (.ireturn, 1) := by decide +kernel
set_option maxRecDepth 20000 in
theorem ggX2_init_X1_init : GoodIn wsX2_init wsX1_init := goodIn_r _ [17, 18, 2, 3, 12, 19, 20, 21, 22, 23, 24, 25, 26, 27, 39, 40, 41, 42, 43, 44, 45, 46, 47] (by decide +kernel) (by decide +kernel)
set_option maxRecDepth 20000 in
theorem gX2_init_X1_init_n9 : GoodIn wsX2_init (wsX1_init) := ggX2_init_X1_init
set_option maxRecDepth 20000 in
theorem ggX2_init_X0_init : GoodIn wsX2_init wsX0_init := goodIn_r _ [29, 30, 2, 3, 12, 31, 32, 33, 34, 35, 36, 37, 38, 53, 54, 55, 56, 57, 58, 59, 60] (by decide +kernel) (by decide +kernel)
set_option maxRecDepth 20000 in
theorem gX2_init_X0_init_n18 : GoodIn wsX2_init (wsX0_init) := ggX2_init_X0_init
theorem dX2_init_0 : decode cX2_init 0 = .ok (.aload_n 0, 1) := by decide +kernel
theorem dX2_init_1 : decode cX2_init 1 = .ok (.invokespecial 1, 3) := by decide +kernel
theorem dX2_init_4 : decode cX2_init 4 = .ok (.aload_n 0, 1) := by decide +kernel
theorem dX2_init_5 : decode cX2_init 5 = .ok (.new 7, 3) := by decide +kernel
theorem dX2_init_8 : decode cX2_init 8 = .ok (.dup, 1) := by decide +kernel
theorem dX2_init_9 : decode cX2_init 9 = .ok (.invokespecial 9, 3) := by decide +kernel
theorem dX2_init_12 : decode cX2_init 12 = .ok (.putfield 10, 3) := by decide +kernel
theorem dX2_init_15 : decode cX2_init 15 = .ok (.aload_n 0, 1) := by decide +kernel
theorem dX2_init_16 : decode cX2_init 16 = .ok (.new 16, 3) := by decide +kernel
theorem dX2_init_19 : decode cX2_init 19 = .ok (.dup, 1) := by decide +kernel
theorem dX2_init_20 : decode cX2_init 20 = .ok (.invokespecial 18, 3) := by decide +kernel
theorem dX2_init_23 : decode cX2_init 23 = .ok (.putfield 19, 3) := by decide +kernel
theorem dX2_init_26 : decode cX2_init 26 = .ok (.aload_n 0, 1) := by decide +kernel
theorem dX2_init_27 : decode cX2_init 27 = .ok (.bipush 16, 2) := by decide +kernel
theorem dX2_init_29 : decode cX2_init 29 = .ok (.newarray .int, 2) := by decide +kernel
theorem dX2_init_31 : decode cX2_init 31 = .ok (.putfield 23, 3) := by decide +kernel
theorem dX2_init_34 : decode cX2_init 34 = .ok (.aload_n 0, 1) := by decide +kernel
theorem dX2_init_35 : decode cX2_init 35 = .ok (.iconst 1, 1) := by decide +kernel
theorem dX2_init_36 : decode cX2_init 36 = .ok (.putfield 27, 3) := by decide +kernel
theorem dX2_init_39 : decode cX2_init 39 = .ok (.aload_n 0, 1) := by decide +kernel
theorem dX2_init_40 : decode cX2_init 40 = .ok (.iconst 0, 1) := by decide +kernel
theorem dX2_init_41 : decode cX2_init 41 = .ok (.putfield 31, 3) := by decide +kernel
theorem dX2_init_44 : decode cX2_init 44 = .ok (.return_, 1) := by decide +kernel
set_option maxRecDepth 20000 in
theorem ggX2_addIssuer_X2_checkIssuer : GoodIn wsX2_addIssuer wsX2_checkIssuer := goodIn_ca (goodIn_r _ [10, 11, 12, 5, 13, 50, 51, 52, 53, 54, 55, 56, 57, 58, 59, 60, 61, 62, 63] (by decide +kernel) (by decide +kernel)) (goodIn_sub (fun _ h => List.mem_cons_of_mem _ (List.mem_append_right _ h)) (by decide +kernel))
set_option maxRecDepth 20000 in
theorem gX2_addIssuer_X2_checkIssuer : GoodIn wsX2_addIssuer (wsV RX2 34 RX2 yX2_checkIssuer wsX2_checkIssuer) := goodIn_app (goodIn_of _ (by decide +kernel)) ggX2_addIssuer_X2_checkIssuer
set_option maxRecDepth 20000 in
theorem ggX2_addIssuer_X2_checkDay : GoodIn wsX2_addIssuer wsX2_checkDay := goodIn_ca (goodIn_r _ [16, 1, 2] (by decide +kernel) (by decide +kernel)) (goodIn_sub (fun _ h => List.mem_cons_of_mem _ (List.mem_append_left _ (List.mem_append_left _ (List.mem_append_right _ h)))) (by decide +kernel))
set_option maxRecDepth 20000 in
theorem gX2_addIssuer_X2_checkDay : GoodIn wsX2_addIssuer (va_wsS RX2 38 yX2_checkDay wsX2_checkDay) := goodIn_app (goodIn_of _ (by decide +kernel)) ggX2_addIssuer_X2_checkDay
set_option maxRecDepth 20000 in
theorem ggX2_addIssuer_X1_isFull : GoodIn wsX2_addIssuer wsX1_isFull := goodIn_r _ [21, 22, 55, 56, 57, 58, 59, 60, 61, 62, 63] (by decide +kernel) (by decide +kernel)
set_option maxRecDepth 20000 in
theorem gX2_addIssuer_X1_isFull : GoodIn wsX2_addIssuer (wsV RX2 50 RX1 yX1_isFull wsX1_isFull) := goodIn_app (goodIn_of _ (by decide +kernel)) ggX2_addIssuer_X1_isFull
set_option maxRecDepth 20000 in
theorem ggX2_addIssuer_X1_append : GoodIn wsX2_addIssuer wsX1_append := goodIn_r _ [26, 22, 27, 28, 29, 30, 31, 32, 33, 34, 35, 20, 36, 37, 38, 39, 40, 41, 42, 43, 44, 45, 46, 47, 48, 49, 55, 56, 57, 58, 59, 60, 61, 62, 63] (by decide +kernel) (by decide +kernel)
set_option maxRecDepth 20000 in
theorem gX2_addIssuer_X1_append : GoodIn wsX2_addIssuer (wsV RX2 59 RX1 yX1_append wsX1_append) := goodIn_app (goodIn_of _ (by decide +kernel)) ggX2_addIssuer_X1_append
theorem dX2_addIssuer_0 : decode cX2_addIssuer 0 = .ok (.iload_n 1, 1) := by decide +kernel
theorem dX2_addIssuer_1 : decode cX2_addIssuer 1 = .ok (.iconst (-1), 1) := by decide +kernel
theorem dX2_addIssuer_2 : decode cX2_addIssuer 2 = .ok (.if_icmp .eq 8, 3) := by decide +kernel
theorem dX2_addIssuer_5 : decode cX2_addIssuer 5 = .ok (.aload_n 0, 1) := by decide +kernel
theorem dX2_addIssuer_6 : decode cX2_addIssuer 6 = .ok (.iload_n 1, 1) := by decide +kernel
theorem dX2_addIssuer_7 : decode cX2_addIssuer 7 = .ok (.invokevirtual 34, 3) := by decide +kernel
theorem dX2_addIssuer_10 : decode cX2_addIssuer 10 = .ok (.iload_n 2, 1) := by decide +kernel
theorem dX2_addIssuer_11 : decode cX2_addIssuer 11 = .ok (.invokestatic 38, 3) := by decide +kernel
theorem dX2_addIssuer_14 : decode cX2_addIssuer 14 = .ok (.iload_n 3, 1) := by decide +kernel
theorem dX2_addIssuer_15 : decode cX2_addIssuer 15 = .ok (.invokestatic 38, 3) := by decide +kernel
theorem dX2_addIssuer_18 : decode cX2_addIssuer 18 = .ok (.iload_n 3, 1) := by decide +kernel
theorem dX2_addIssuer_19 : decode cX2_addIssuer 19 = .ok (.iload_n 2, 1) := by decide +kernel
theorem dX2_addIssuer_20 : decode cX2_addIssuer 20 = .ok (.if_icmp .ge 13, 3) := by decide +kernel
theorem dX2_addIssuer_23 : decode cX2_addIssuer 23 = .ok (.new 41, 3) := by decide +kernel
theorem dX2_addIssuer_26 : decode cX2_addIssuer 26 = .ok (.dup, 1) := by decide +kernel
theorem dX2_addIssuer_27 : decode cX2_addIssuer 27 = .ok (.ldc 43, 2) := by decide +kernel
theorem dX2_addIssuer_29 : decode cX2_addIssuer 29 = .ok (.invokespecial 45, 3) := by decide +kernel
theorem dX2_addIssuer_32 : decode cX2_addIssuer 32 = .ok (.athrow, 1) := by decide +kernel
theorem dX2_addIssuer_33 : decode cX2_addIssuer 33 = .ok (.iload 4, 2) := by decide +kernel
theorem dX2_addIssuer_35 : decode cX2_addIssuer 35 = .ok (.ifCond .lt 10, 3) := by decide +kernel
theorem dX2_addIssuer_38 : decode cX2_addIssuer 38 = .ok (.iload 4, 2) := by decide +kernel
theorem dX2_addIssuer_40 : decode cX2_addIssuer 40 = .ok (.bipush 50, 2) := by decide +kernel
theorem dX2_addIssuer_42 : decode cX2_addIssuer 42 = .ok (.if_icmp .le 13, 3) := by decide +kernel
theorem dX2_addIssuer_45 : decode cX2_addIssuer 45 = .ok (.new 41, 3) := by decide +kernel
theorem dX2_addIssuer_48 : decode cX2_addIssuer 48 = .ok (.dup, 1) := by decide +kernel
theorem dX2_addIssuer_49 : decode cX2_addIssuer 49 = .ok (.ldc 48, 2) := by decide +kernel
theorem dX2_addIssuer_51 : decode cX2_addIssuer 51 = .ok (.invokespecial 45, 3) := by decide +kernel
theorem dX2_addIssuer_54 : decode cX2_addIssuer 54 = .ok (.athrow, 1) := by decide +kernel
theorem dX2_addIssuer_55 : decode cX2_addIssuer 55 = .ok (.aload_n 0, 1) := by decide +kernel
theorem dX2_addIssuer_56 : decode cX2_addIssuer 56 = .ok (.getfield 10, 3) := by decide +kernel
theorem dX2_addIssuer_59 : decode cX2_addIssuer 59 = .ok (.invokevirtual 50, 3) := by decide +kernel
theorem dX2_addIssuer_62 : decode cX2_addIssuer 62 = .ok (.ifCond .eq 13, 3) := by decide +kernel
theorem dX2_addIssuer_65 : decode cX2_addIssuer 65 = .ok (.new 54, 3) := by decide +kernel
theorem dX2_addIssuer_68 : decode cX2_addIssuer 68 = .ok (.dup, 1) := by decide +kernel
theorem dX2_addIssuer_69 : decode cX2_addIssuer 69 = .ok (.ldc 56, 2) := by decide +kernel
theorem dX2_addIssuer_71 : decode cX2_addIssuer 71 = .ok (.invokespecial 58, 3) := by decide +kernel
theorem dX2_addIssuer_74 : decode cX2_addIssuer 74 = .ok (.athrow, 1) := by decide +kernel
theorem dX2_addIssuer_75 : decode cX2_addIssuer 75 = .ok (.aload_n 0, 1) := by decide +kernel
theorem dX2_addIssuer_76 : decode cX2_addIssuer 76 = .ok (.getfield 10, 3) := by decide +kernel
theorem dX2_addIssuer_79 : decode cX2_addIssuer 79 = .ok (.iload_n 1, 1) := by decide +kernel
theorem dX2_addIssuer_80 : decode cX2_addIssuer 80 = .ok (.iload_n 2, 1) := by decide +kernel
theorem dX2_addIssuer_81 : decode cX2_addIssuer 81 = .ok (.iload_n 3, 1) := by decide +kernel
theorem dX2_addIssuer_82 : decode cX2_addIssuer 82 = .ok (.iload 4, 2) := by decide +kernel
theorem dX2_addIssuer_84 : decode cX2_addIssuer 84 = .ok (.invokevirtual 59, 3) := by decide +kernel
theorem dX2_addIssuer_87 : decode cX2_addIssuer 87 = .ok (.ireturn, 1) := by decide +kernel
set_option maxRecDepth 20000 in
theorem ggX2_cross_X2_checkIssuer : GoodIn wsX2_cross wsX2_checkIssuer := goodIn_ca (goodIn_r _ [11, 12, 13, 5, 14, 45, 46, 47, 48, 49, 50, 51, 52, 53, 54, 55, 56, 57, 58] (by decide +kernel) (by decide +kernel)) (goodIn_sub (fun _ h => List.mem_cons_of_mem _ (List.mem_append_right _ h)) (by decide +kernel))
set_option maxRecDepth 20000 in
theorem gX2_cross_X2_checkIssuer : GoodIn wsX2_cross (wsV RX2 34 RX2 yX2_checkIssuer wsX2_checkIssuer) := goodIn_app (goodIn_of _ (by decide +kernel)) ggX2_cross_X2_checkIssuer
set_option maxRecDepth 20000 in
theorem ggX2_cross_X1_canBeSignedAlsoBy : GoodIn wsX2_cross wsX1_canBeSignedAlsoBy := goodIn_r _ [19, 20, 21, 22, 23, 24, 18, 25, 50, 51, 52, 53, 54, 55, 56, 57, 58] (by decide +kernel) (by decide +kernel)
set_option maxRecDepth 20000 in
theorem gX2_cross_X1_canBeSignedAlsoBy : GoodIn wsX2_cross (wsV RX2 65 RX1 yX1_canBeSignedAlsoBy wsX1_canBeSignedAlsoBy) := goodIn_app (goodIn_of _ (by decide +kernel)) ggX2_cross_X1_canBeSignedAlsoBy
set_option maxRecDepth 20000 in
theorem ggX2_cross_X1_signAlsoBy : GoodIn wsX2_cross wsX1_signAlsoBy := goodIn_r _ [29, 20, 30, 31, 32, 18, 33, 34, 35, 21, 36, 37, 38, 39, 40, 41, 42, 43, 44, 22, 23, 24, 25, 50, 51, 52, 53, 54, 55, 56, 57, 58] (by decide +kernel) (by decide +kernel)
set_option maxRecDepth 20000 in
theorem gX2_cross_X1_signAlsoBy : GoodIn wsX2_cross (wsV RX2 71 RX1 yX1_signAlsoBy wsX1_signAlsoBy) := goodIn_app (goodIn_of _ (by decide +kernel)) ggX2_cross_X1_signAlsoBy
theorem dX2_cross_0 : decode cX2_cross 0 = .ok (.aload_n 0, 1) := by decide +kernel
theorem dX2_cross_1 : decode cX2_cross 1 = .ok (.iload_n 1, 1) := by decide +kernel
theorem dX2_cross_2 : decode cX2_cross 2 = .ok (.invokevirtual 34, 3) := by decide +kernel
theorem dX2_cross_5 : decode cX2_cross 5 = .ok (.aload_n 0, 1) := by decide +kernel
theorem dX2_cross_6 : decode cX2_cross 6 = .ok (.iload_n 2, 1) := by decide +kernel
theorem dX2_cross_7 : decode cX2_cross 7 = .ok (.invokevirtual 34, 3) := by decide +kernel
theorem dX2_cross_10 : decode cX2_cross 10 = .ok (.iload_n 2, 1) := by decide +kernel
theorem dX2_cross_11 : decode cX2_cross 11 = .ok (.iload_n 1, 1) := by decide +kernel
theorem dX2_cross_12 : decode cX2_cross 12 = .ok (.if_icmp .lt 13, 3) := by decide +kernel
theorem dX2_cross_15 : decode cX2_cross 15 = .ok (.new 41, 3) := by decide +kernel
theorem dX2_cross_18 : decode cX2_cross 18 = .ok (.dup, 1) := by decide +kernel
theorem dX2_cross_19 : decode cX2_cross 19 = .ok (.ldc 63, 2) := by decide +kernel
theorem dX2_cross_21 : decode cX2_cross 21 = .ok (.invokespecial 45, 3) := by decide +kernel
theorem dX2_cross_24 : decode cX2_cross 24 = .ok (.athrow, 1) := by decide +kernel
theorem dX2_cross_25 : decode cX2_cross 25 = .ok (.aload_n 0, 1) := by decide +kernel
theorem dX2_cross_26 : decode cX2_cross 26 = .ok (.getfield 10, 3) := by decide +kernel
theorem dX2_cross_29 : decode cX2_cross 29 = .ok (.iload_n 1, 1) := by decide +kernel
theorem dX2_cross_30 : decode cX2_cross 30 = .ok (.iload_n 2, 1) := by decide +kernel
theorem dX2_cross_31 : decode cX2_cross 31 = .ok (.invokevirtual 65, 3) := by decide +kernel
theorem dX2_cross_34 : decode cX2_cross 34 = .ok (.ifCond .ne 13, 3) := by decide +kernel
theorem dX2_cross_37 : decode cX2_cross 37 = .ok (.new 54, 3) := by decide +kernel
theorem dX2_cross_40 : decode cX2_cross 40 = .ok (.dup, 1) := by decide +kernel
theorem dX2_cross_41 : decode cX2_cross 41 = .ok (.ldc 69, 2) := by decide +kernel
theorem dX2_cross_43 : decode cX2_cross 43 = .ok (.invokespecial 58, 3) := by decide +kernel
theorem dX2_cross_46 : decode cX2_cross 46 = .ok (.athrow, 1) := by decide +kernel
theorem dX2_cross_47 : decode cX2_cross 47 = .ok (.aload_n 0, 1) := by decide +kernel
theorem dX2_cross_48 : decode cX2_cross 48 = .ok (.getfield 10, 3) := by decide +kernel
theorem dX2_cross_51 : decode cX2_cross 51 = .ok (.iload_n 1, 1) := by decide +kernel
theorem dX2_cross_52 : decode cX2_cross 52 = .ok (.iload_n 2, 1) := by decide +kernel
theorem dX2_cross_53 : decode cX2_cross 53 = .ok (.invokevirtual 71, 3) := by decide +kernel
theorem dX2_cross_56 : decode cX2_cross 56 = .ok (.aload_n 0, 1) := by decide +kernel
theorem dX2_cross_57 : decode cX2_cross 57 = .ok (.getfield 10, 3) := by decide +kernel
theorem dX2_cross_60 : decode cX2_cross 60 = .ok (.getfield 75, 3) := by decide +kernel
theorem dX2_cross_63 : decode cX2_cross 63 = .ok (.iload_n 1, 1) := by decide +kernel
theorem dX2_cross_64 : decode cX2_cross 64 = .ok (.iaload, 1) := by decide +kernel
theorem dX2_cross_65 : decode cX2_cross 65 = .ok (.ireturn, 1) := by decide +kernel
set_option maxRecDepth 20000 in
theorem ggX2_distrust_X2_checkIssuer : GoodIn wsX2_distrust wsX2_checkIssuer := goodIn_ca (goodIn_r _ [7, 8, 9, 1, 10, 16, 17, 18, 19, 20, 21, 22, 23, 24, 25, 26, 27, 28, 29] (by decide +kernel) (by decide +kernel)) (goodIn_sub (fun _ h => List.mem_cons_of_mem _ (List.mem_append_left _ (List.mem_append_right _ h))) (by decide +kernel))
set_option maxRecDepth 20000 in
theorem gX2_distrust_X2_checkIssuer : GoodIn wsX2_distrust (wsV RX2 34 RX2 yX2_checkIssuer wsX2_checkIssuer) := goodIn_app (goodIn_of _ (by decide +kernel)) ggX2_distrust_X2_checkIssuer
set_option maxRecDepth 20000 in
theorem ggX2_distrust_X2_checkDay : GoodIn wsX2_distrust wsX2_checkDay := goodIn_ca (goodIn_r _ [13, 14, 15] (by decide +kernel) (by decide +kernel)) (goodIn_sub (fun _ h => List.mem_cons_of_mem _ (List.mem_append_right _ h)) (by decide +kernel))
set_option maxRecDepth 20000 in
theorem gX2_distrust_X2_checkDay : GoodIn wsX2_distrust (va_wsS RX2 38 yX2_checkDay wsX2_checkDay) := goodIn_app (goodIn_of _ (by decide +kernel)) ggX2_distrust_X2_checkDay
theorem dX2_distrust_0 : decode cX2_distrust 0 = .ok (.aload_n 0, 1) := by decide +kernel
theorem dX2_distrust_1 : decode cX2_distrust 1 = .ok (.iload_n 1, 1) := by decide +kernel
theorem dX2_distrust_2 : decode cX2_distrust 2 = .ok (.invokevirtual 34, 3) := by decide +kernel
theorem dX2_distrust_5 : decode cX2_distrust 5 = .ok (.iload_n 2, 1) := by decide +kernel
theorem dX2_distrust_6 : decode cX2_distrust 6 = .ok (.iconst (-1), 1) := by decide +kernel
theorem dX2_distrust_7 : decode cX2_distrust 7 = .ok (.if_icmp .eq 7, 3) := by decide +kernel
theorem dX2_distrust_10 : decode cX2_distrust 10 = .ok (.iload_n 2, 1) := by decide +kernel
theorem dX2_distrust_11 : decode cX2_distrust 11 = .ok (.invokestatic 38, 3) := by decide +kernel
theorem dX2_distrust_14 : decode cX2_distrust 14 = .ok (.aload_n 0, 1) := by decide +kernel
theorem dX2_distrust_15 : decode cX2_distrust 15 = .ok (.getfield 10, 3) := by decide +kernel
theorem dX2_distrust_18 : decode cX2_distrust 18 = .ok (.getfield 78, 3) := by decide +kernel
theorem dX2_distrust_21 : decode cX2_distrust 21 = .ok (.iload_n 1, 1) := by decide +kernel
theorem dX2_distrust_22 : decode cX2_distrust 22 = .ok (.iaload, 1) := by decide +kernel
theorem dX2_distrust_23 : decode cX2_distrust 23 = .ok (.istore_n 3, 1) := by decide +kernel
theorem dX2_distrust_24 : decode cX2_distrust 24 = .ok (.aload_n 0, 1) := by decide +kernel
theorem dX2_distrust_25 : decode cX2_distrust 25 = .ok (.getfield 10, 3) := by decide +kernel
theorem dX2_distrust_28 : decode cX2_distrust 28 = .ok (.getfield 78, 3) := by decide +kernel
theorem dX2_distrust_31 : decode cX2_distrust 31 = .ok (.iload_n 1, 1) := by decide +kernel
theorem dX2_distrust_32 : decode cX2_distrust 32 = .ok (.iload_n 2, 1) := by decide +kernel
theorem dX2_distrust_33 : decode cX2_distrust 33 = .ok (.iastore, 1) := by decide +kernel
theorem dX2_distrust_34 : decode cX2_distrust 34 = .ok (.iload_n 3, 1) := by decide +kernel
theorem dX2_distrust_35 : decode cX2_distrust 35 = .ok (.ireturn, 1) := by decide +kernel
set_option maxRecDepth 20000 in
theorem ggX2_pin_X2_checkName : GoodIn wsX2_pin wsX2_checkName := goodIn_ca (goodIn_r _ [7, 8, 9] (by decide +kernel) (by decide +kernel)) (goodIn_sub (fun _ h => List.mem_cons_of_mem _ (List.mem_append_right _ h)) (by decide +kernel))
set_option maxRecDepth 20000 in
theorem gX2_pin_X2_checkName : GoodIn wsX2_pin (va_wsS RX2 81 yX2_checkName wsX2_checkName) := goodIn_app (goodIn_of _ (by decide +kernel)) ggX2_pin_X2_checkName
theorem dX2_pin_0 : decode cX2_pin 0 = .ok (.iload_n 1, 1) := by decide +kernel
theorem dX2_pin_1 : decode cX2_pin 1 = .ok (.invokestatic 81, 3) := by decide +kernel
theorem dX2_pin_4 : decode cX2_pin 4 = .ok (.iload_n 2, 1) := by decide +kernel
theorem dX2_pin_5 : decode cX2_pin 5 = .ok (.ifCond .lt 10, 3) := by decide +kernel
theorem dX2_pin_8 : decode cX2_pin 8 = .ok (.iload_n 2, 1) := by decide +kernel
theorem dX2_pin_9 : decode cX2_pin 9 = .ok (.sipush 255, 3) := by decide +kernel
theorem dX2_pin_12 : decode cX2_pin 12 = .ok (.if_icmp .le 13, 3) := by decide +kernel
theorem dX2_pin_15 : decode cX2_pin 15 = .ok (.new 41, 3) := by decide +kernel
theorem dX2_pin_18 : decode cX2_pin 18 = .ok (.dup, 1) := by decide +kernel
theorem dX2_pin_19 : decode cX2_pin 19 = .ok (.ldc 84, 2) := by decide +kernel
theorem dX2_pin_21 : decode cX2_pin 21 = .ok (.invokespecial 45, 3) := by decide +kernel
theorem dX2_pin_24 : decode cX2_pin 24 = .ok (.athrow, 1) := by decide +kernel
theorem dX2_pin_25 : decode cX2_pin 25 = .ok (.aload_n 0, 1) := by decide +kernel
theorem dX2_pin_26 : decode cX2_pin 26 = .ok (.getfield 23, 3) := by decide +kernel
theorem dX2_pin_29 : decode cX2_pin 29 = .ok (.iload_n 1, 1) := by decide +kernel
theorem dX2_pin_30 : decode cX2_pin 30 = .ok (.iaload, 1) := by decide +kernel
theorem dX2_pin_31 : decode cX2_pin 31 = .ok (.istore_n 3, 1) := by decide +kernel
theorem dX2_pin_32 : decode cX2_pin 32 = .ok (.aload_n 0, 1) := by decide +kernel
theorem dX2_pin_33 : decode cX2_pin 33 = .ok (.getfield 23, 3) := by decide +kernel
theorem dX2_pin_36 : decode cX2_pin 36 = .ok (.iload_n 1, 1) := by decide +kernel
theorem dX2_pin_37 : decode cX2_pin 37 = .ok (.iload_n 2, 1) := by decide +kernel
theorem dX2_pin_38 : decode cX2_pin 38 = .ok (.iastore, 1) := by decide +kernel
theorem dX2_pin_39 : decode cX2_pin 39 = .ok (.iload_n 3, 1) := by decide +kernel
theorem dX2_pin_40 : decode cX2_pin 40 = .ok (.ireturn, 1) := by decide +kernel
theorem dX2_setSeed_0 : decode cX2_setSeed 0 = .ok (.aload_n 0, 1) := by decide +kernel
theorem dX2_setSeed_1 : decode cX2_setSeed 1 = .ok (.iload_n 1, 1) := by decide +kernel
theorem dX2_setSeed_2 : decode cX2_setSeed 2 = .ok (.putfield 27, 3) := by decide +kernel
theorem dX2_setSeed_5 : decode cX2_setSeed 5 = .ok (.return_, 1) := by decide +kernel
set_option maxRecDepth 20000 in
theorem ggX2_issue_X2_checkIssuer : GoodIn wsX2_issue wsX2_checkIssuer := goodIn_ca (goodIn_r _ [9, 10, 11, 12, 13, 92, 93, 94, 95, 96, 97, 98, 99, 100, 101, 102, 103, 104, 105] (by decide +kernel) (by decide +kernel)) (goodIn_sub (fun _ h => List.mem_cons_of_mem _ (List.mem_append_right _ h)) (by decide +kernel))
set_option maxRecDepth 20000 in
theorem gX2_issue_X2_checkIssuer : GoodIn wsX2_issue (wsV RX2 34 RX2 yX2_checkIssuer wsX2_checkIssuer) := goodIn_app (goodIn_of _ (by decide +kernel)) ggX2_issue_X2_checkIssuer
set_option maxRecDepth 20000 in
theorem ggX2_issue_X2_canIssue : GoodIn wsX2_issue wsX2_canIssue := goodIn_r _ [17, 18, 12, 19, 20, 21, 22, 23, 24, 25, 26, 27, 28, 8, 29, 30, 31, 32, 33, 34, 35, 36, 37, 38, 39, 40, 41, 42, 43, 44, 45, 46, 47, 48, 49, 50, 51, 52, 53, 54, 55, 56, 57, 58, 59, 60, 61, 62, 63, 64, 65, 66, 67, 68, 69, 70, 71, 72, 73, 92, 93, 94, 95, 96, 106, 107, 108, 109, 110, 111, 112, 113, 97, 98, 99, 100, 101, 102, 103, 104, 105] (by decide +kernel) (by decide +kernel)
set_option maxRecDepth 20000 in
theorem gX2_issue_X2_canIssue : GoodIn wsX2_issue (wsV RX2 90 RX2 yX2_canIssue wsX2_canIssue) := goodIn_app (goodIn_of _ (by decide +kernel)) ggX2_issue_X2_canIssue
set_option maxRecDepth 20000 in
theorem ggX2_issue_X2_makeCertificate : GoodIn wsX2_issue wsX2_makeCertificate := goodIn_r _ [77, 18, 19, 78, 79, 80, 8, 81, 82, 83, 84, 85, 86, 23, 87, 25, 38, 88, 39, 89, 90, 91, 92, 93, 94, 95, 96, 106, 107, 108, 109, 110, 111, 112, 113] (by decide +kernel) (by decide +kernel)
set_option maxRecDepth 20000 in
theorem gX2_issue_X2_makeCertificate : GoodIn wsX2_issue (wsV RX2 95 RX2 yX2_makeCertificate wsX2_makeCertificate) := goodIn_app (goodIn_of _ (by decide +kernel)) ggX2_issue_X2_makeCertificate
theorem dX2_issue_0 : decode cX2_issue 0 = .ok (.aload_n 0, 1) := by decide +kernel
theorem dX2_issue_1 : decode cX2_issue 1 = .ok (.iload_n 1, 1) := by decide +kernel
theorem dX2_issue_2 : decode cX2_issue 2 = .ok (.invokevirtual 34, 3) := by decide +kernel
theorem dX2_issue_5 : decode cX2_issue 5 = .ok (.iload_n 2, 1) := by decide +kernel
theorem dX2_issue_6 : decode cX2_issue 6 = .ok (.ifCond .lt 9, 3) := by decide +kernel
theorem dX2_issue_9 : decode cX2_issue 9 = .ok (.iload_n 2, 1) := by decide +kernel
theorem dX2_issue_10 : decode cX2_issue 10 = .ok (.bipush 20, 2) := by decide +kernel
theorem dX2_issue_12 : decode cX2_issue 12 = .ok (.if_icmp .lt 13, 3) := by decide +kernel
theorem dX2_issue_15 : decode cX2_issue 15 = .ok (.new 41, 3) := by decide +kernel
theorem dX2_issue_18 : decode cX2_issue 18 = .ok (.dup, 1) := by decide +kernel
theorem dX2_issue_19 : decode cX2_issue 19 = .ok (.ldc 86, 2) := by decide +kernel
theorem dX2_issue_21 : decode cX2_issue 21 = .ok (.invokespecial 45, 3) := by decide +kernel
theorem dX2_issue_24 : decode cX2_issue 24 = .ok (.athrow, 1) := by decide +kernel
theorem dX2_issue_25 : decode cX2_issue 25 = .ok (.iload_n 3, 1) := by decide +kernel
theorem dX2_issue_26 : decode cX2_issue 26 = .ok (.iconst 1, 1) := by decide +kernel
theorem dX2_issue_27 : decode cX2_issue 27 = .ok (.if_icmp .lt 10, 3) := by decide +kernel
theorem dX2_issue_30 : decode cX2_issue 30 = .ok (.iload_n 3, 1) := by decide +kernel
theorem dX2_issue_31 : decode cX2_issue 31 = .ok (.sipush 400, 3) := by decide +kernel
theorem dX2_issue_34 : decode cX2_issue 34 = .ok (.if_icmp .le 13, 3) := by decide +kernel
theorem dX2_issue_37 : decode cX2_issue 37 = .ok (.new 41, 3) := by decide +kernel
theorem dX2_issue_40 : decode cX2_issue 40 = .ok (.dup, 1) := by decide +kernel
theorem dX2_issue_41 : decode cX2_issue 41 = .ok (.ldc 88, 2) := by decide +kernel
theorem dX2_issue_43 : decode cX2_issue 43 = .ok (.invokespecial 45, 3) := by decide +kernel
theorem dX2_issue_46 : decode cX2_issue 46 = .ok (.athrow, 1) := by decide +kernel
theorem dX2_issue_47 : decode cX2_issue 47 = .ok (.aload_n 0, 1) := by decide +kernel
theorem dX2_issue_48 : decode cX2_issue 48 = .ok (.iload_n 1, 1) := by decide +kernel
theorem dX2_issue_49 : decode cX2_issue 49 = .ok (.iload_n 2, 1) := by decide +kernel
theorem dX2_issue_50 : decode cX2_issue 50 = .ok (.invokevirtual 90, 3) := by decide +kernel
theorem dX2_issue_53 : decode cX2_issue 53 = .ok (.ifCond .ne 13, 3) := by decide +kernel
theorem dX2_issue_56 : decode cX2_issue 56 = .ok (.new 54, 3) := by decide +kernel
theorem dX2_issue_59 : decode cX2_issue 59 = .ok (.dup, 1) := by decide +kernel
theorem dX2_issue_60 : decode cX2_issue 60 = .ok (.ldc 93, 2) := by decide +kernel
theorem dX2_issue_62 : decode cX2_issue 62 = .ok (.invokespecial 58, 3) := by decide +kernel
theorem dX2_issue_65 : decode cX2_issue 65 = .ok (.athrow, 1) := by decide +kernel
theorem dX2_issue_66 : decode cX2_issue 66 = .ok (.aload_n 0, 1) := by decide +kernel
theorem dX2_issue_67 : decode cX2_issue 67 = .ok (.iload_n 1, 1) := by decide +kernel
theorem dX2_issue_68 : decode cX2_issue 68 = .ok (.iload_n 2, 1) := by decide +kernel
theorem dX2_issue_69 : decode cX2_issue 69 = .ok (.iload_n 3, 1) := by decide +kernel
theorem dX2_issue_70 : decode cX2_issue 70 = .ok (.invokevirtual 95, 3) := by decide +kernel
theorem dX2_issue_73 : decode cX2_issue 73 = .ok (.ireturn, 1) := by decide +kernel
set_option maxRecDepth 20000 in
theorem ggX2_pass_X2_renewDueCertificates : GoodIn wsX2_pass wsX2_renewDueCertificates := goodIn_r _ [10, 11, 5, 12, 13, 14, 15, 16, 17, 18, 19, 20, 21, 22, 23, 24, 25, 26, 27, 28, 29, 30, 31, 32, 33, 34, 35, 36, 37, 38, 39, 40, 41, 42, 43, 44, 45, 46, 9, 47, 48, 49, 50, 51, 52, 53, 54, 55, 56, 57, 58, 59, 60, 61, 62, 63, 64, 65, 66, 67, 68, 69, 70, 71, 72, 73, 74, 75, 76, 77, 78, 79, 80, 81, 82, 83, 84, 85, 86, 87, 88, 89, 90, 91, 92, 93, 94, 95, 96, 97, 98, 99, 100, 101, 102, 103, 104, 105, 106, 107, 108, 109, 110, 111, 112, 113, 114, 115, 116, 117, 118, 119, 120, 121, 122, 123, 124, 125, 126, 127, 128, 129, 130, 131, 132, 133, 134, 135, 136] (by decide +kernel) (by decide +kernel)
set_option maxRecDepth 20000 in
theorem gX2_pass_X2_renewDueCertificates : GoodIn wsX2_pass (wsV RX2 103 RX2 yX2_renewDueCertificates wsX2_renewDueCertificates) := goodIn_app (goodIn_of _ (by decide +kernel)) ggX2_pass_X2_renewDueCertificates
theorem dX2_pass_0 : decode cX2_pass 0 = .ok (.iload_n 1, 1) := by decide +kernel
theorem dX2_pass_1 : decode cX2_pass 1 = .ok (.iconst 1, 1) := by decide +kernel
theorem dX2_pass_2 : decode cX2_pass 2 = .ok (.if_icmp .lt 9, 3) := by decide +kernel
theorem dX2_pass_5 : decode cX2_pass 5 = .ok (.iload_n 1, 1) := by decide +kernel
theorem dX2_pass_6 : decode cX2_pass 6 = .ok (.bipush 100, 2) := by decide +kernel
theorem dX2_pass_8 : decode cX2_pass 8 = .ok (.if_icmp .le 13, 3) := by decide +kernel
theorem dX2_pass_11 : decode cX2_pass 11 = .ok (.new 41, 3) := by decide +kernel
theorem dX2_pass_14 : decode cX2_pass 14 = .ok (.dup, 1) := by decide +kernel
theorem dX2_pass_15 : decode cX2_pass 15 = .ok (.ldc 99, 2) := by decide +kernel
theorem dX2_pass_17 : decode cX2_pass 17 = .ok (.invokespecial 45, 3) := by decide +kernel
theorem dX2_pass_20 : decode cX2_pass 20 = .ok (.athrow, 1) := by decide +kernel
theorem dX2_pass_21 : decode cX2_pass 21 = .ok (.aload_n 0, 1) := by decide +kernel
theorem dX2_pass_22 : decode cX2_pass 22 = .ok (.getfield 31, 3) := by decide +kernel
theorem dX2_pass_25 : decode cX2_pass 25 = .ok (.iload_n 1, 1) := by decide +kernel
theorem dX2_pass_26 : decode cX2_pass 26 = .ok (.iadd, 1) := by decide +kernel
theorem dX2_pass_27 : decode cX2_pass 27 = .ok (.sipush 3000, 3) := by decide +kernel
theorem dX2_pass_30 : decode cX2_pass 30 = .ok (.if_icmp .le 13, 3) := by decide +kernel
theorem dX2_pass_33 : decode cX2_pass 33 = .ok (.new 54, 3) := by decide +kernel
theorem dX2_pass_36 : decode cX2_pass 36 = .ok (.dup, 1) := by decide +kernel
theorem dX2_pass_37 : decode cX2_pass 37 = .ok (.ldc 101, 2) := by decide +kernel
theorem dX2_pass_39 : decode cX2_pass 39 = .ok (.invokespecial 58, 3) := by decide +kernel
theorem dX2_pass_42 : decode cX2_pass 42 = .ok (.athrow, 1) := by decide +kernel
theorem dX2_pass_43 : decode cX2_pass 43 = .ok (.iconst 0, 1) := by decide +kernel
theorem dX2_pass_44 : decode cX2_pass 44 = .ok (.istore_n 2, 1) := by decide +kernel
theorem dX2_pass_45 : decode cX2_pass 45 = .ok (.iconst 0, 1) := by decide +kernel
theorem dX2_pass_46 : decode cX2_pass 46 = .ok (.istore_n 3, 1) := by decide +kernel
theorem dX2_pass_47 : decode cX2_pass 47 = .ok (.iload_n 3, 1) := by decide +kernel
theorem dX2_pass_48 : decode cX2_pass 48 = .ok (.iload_n 1, 1) := by decide +kernel
theorem dX2_pass_49 : decode cX2_pass 49 = .ok (.if_icmp .ge 26, 3) := by decide +kernel
theorem dX2_pass_52 : decode cX2_pass 52 = .ok (.aload_n 0, 1) := by decide +kernel
theorem dX2_pass_53 : decode cX2_pass 53 = .ok (.dup, 1) := by decide +kernel
theorem dX2_pass_54 : decode cX2_pass 54 = .ok (.getfield 31, 3) := by decide +kernel
theorem dX2_pass_57 : decode cX2_pass 57 = .ok (.iconst 1, 1) := by decide +kernel
theorem dX2_pass_58 : decode cX2_pass 58 = .ok (.iadd, 1) := by decide +kernel
theorem dX2_pass_59 : decode cX2_pass 59 = .ok (.putfield 31, 3) := by decide +kernel
theorem dX2_pass_62 : decode cX2_pass 62 = .ok (.iload_n 2, 1) := by decide +kernel
theorem dX2_pass_63 : decode cX2_pass 63 = .ok (.aload_n 0, 1) := by decide +kernel
theorem dX2_pass_64 : decode cX2_pass 64 = .ok (.invokevirtual 103, 3) := by decide +kernel
theorem dX2_pass_67 : decode cX2_pass 67 = .ok (.iadd, 1) := by decide +kernel
theorem dX2_pass_68 : decode cX2_pass 68 = .ok (.istore_n 2, 1) := by decide +kernel
theorem dX2_pass_69 : decode cX2_pass 69 = .ok (.iinc 3 1, 3) := by decide +kernel
theorem dX2_pass_72 : decode cX2_pass 72 = .ok (.goto (-25), 3) := by decide +kernel
theorem dX2_pass_75 : decode cX2_pass 75 = .ok (.iload_n 2, 1) := by decide +kernel
theorem dX2_pass_76 : decode cX2_pass 76 = .ok (.ireturn, 1) := by decide +kernel
theorem dX2_today_0 : decode cX2_today 0 = .ok (.aload_n 0, 1) := by decide +kernel
theorem dX2_today_1 : decode cX2_today 1 = .ok (.getfield 31, 3) := by decide +kernel
theorem dX2_today_4 : decode cX2_today 4 = .ok (.ireturn, 1) := by decide +kernel
theorem dX2_issuers_0 : decode cX2_issuers 0 = .ok (.aload_n 0, 1) := by decide +kernel
theorem dX2_issuers_1 : decode cX2_issuers 1 = .ok (.getfield 10, 3) := by decide +kernel
theorem dX2_issuers_4 : decode cX2_issuers 4 = .ok (.getfield 107, 3) := by decide +kernel
theorem dX2_issuers_7 : decode cX2_issuers 7 = .ok (.ireturn, 1) := by decide +kernel
theorem dX2_certificates_0 : decode cX2_certificates 0 = .ok (.aload_n 0, 1) := by decide +kernel
theorem dX2_certificates_1 : decode cX2_certificates 1 = .ok (.getfield 19, 3) := by decide +kernel
theorem dX2_certificates_4 : decode cX2_certificates 4 = .ok (.getfield 110, 3) := by decide +kernel
theorem dX2_certificates_7 : decode cX2_certificates 7 = .ok (.ireturn, 1) := by decide +kernel
set_option maxRecDepth 20000 in
theorem ggX2_issuerOf_X2_checkCertificate : GoodIn wsX2_issuerOf wsX2_checkCertificate := goodIn_ca (goodIn_r _ [7, 8, 9, 1, 10, 11, 12, 13, 14, 15, 16, 17, 18, 19, 20, 21, 22, 23] (by decide +kernel) (by decide +kernel)) (goodIn_sub (fun _ h => List.mem_cons_of_mem _ (List.mem_append_right _ h)) (by decide +kernel))
set_option maxRecDepth 20000 in
theorem gX2_issuerOf_X2_checkCertificate : GoodIn wsX2_issuerOf (wsV RX2 111 RX2 yX2_checkCertificate wsX2_checkCertificate) := goodIn_app (goodIn_of _ (by decide +kernel)) ggX2_issuerOf_X2_checkCertificate
theorem dX2_issuerOf_0 : decode cX2_issuerOf 0 = .ok (.aload_n 0, 1) := by decide +kernel
theorem dX2_issuerOf_1 : decode cX2_issuerOf 1 = .ok (.iload_n 1, 1) := by decide +kernel
theorem dX2_issuerOf_2 : decode cX2_issuerOf 2 = .ok (.invokevirtual 111, 3) := by decide +kernel
theorem dX2_issuerOf_5 : decode cX2_issuerOf 5 = .ok (.aload_n 0, 1) := by decide +kernel
theorem dX2_issuerOf_6 : decode cX2_issuerOf 6 = .ok (.getfield 19, 3) := by decide +kernel
theorem dX2_issuerOf_9 : decode cX2_issuerOf 9 = .ok (.getfield 114, 3) := by decide +kernel
theorem dX2_issuerOf_12 : decode cX2_issuerOf 12 = .ok (.iload_n 1, 1) := by decide +kernel
theorem dX2_issuerOf_13 : decode cX2_issuerOf 13 = .ok (.iaload, 1) := by decide +kernel
theorem dX2_issuerOf_14 : decode cX2_issuerOf 14 = .ok (.ireturn, 1) := by decide +kernel
set_option maxRecDepth 20000 in
theorem ggX2_lastDay_X2_checkCertificate : GoodIn wsX2_lastDay wsX2_checkCertificate := goodIn_ca (goodIn_r _ [6, 7, 8, 1, 9, 17, 18, 19, 20, 21, 22, 23, 24, 25, 26, 27, 28, 29] (by decide +kernel) (by decide +kernel)) (goodIn_sub (fun _ h => List.mem_cons_of_mem _ (List.mem_append_right _ h)) (by decide +kernel))
set_option maxRecDepth 20000 in
theorem gX2_lastDay_X2_checkCertificate : GoodIn wsX2_lastDay (wsV RX2 111 RX2 yX2_checkCertificate wsX2_checkCertificate) := goodIn_app (goodIn_of _ (by decide +kernel)) ggX2_lastDay_X2_checkCertificate
set_option maxRecDepth 20000 in
theorem ggX2_lastDay_X0_endOf : GoodIn wsX2_lastDay wsX0_endOf := goodIn_r _ [14, 15, 16, 22, 23, 24, 25, 26, 27, 28, 29] (by decide +kernel) (by decide +kernel)
set_option maxRecDepth 20000 in
theorem gX2_lastDay_X0_endOf : GoodIn wsX2_lastDay (wsV RX2 117 RX0 yX0_endOf wsX0_endOf) := goodIn_app (goodIn_of _ (by decide +kernel)) ggX2_lastDay_X0_endOf
theorem dX2_lastDay_0 : decode cX2_lastDay 0 = .ok (.aload_n 0, 1) := by decide +kernel
theorem dX2_lastDay_1 : decode cX2_lastDay 1 = .ok (.iload_n 1, 1) := by decide +kernel
theorem dX2_lastDay_2 : decode cX2_lastDay 2 = .ok (.invokevirtual 111, 3) := by decide +kernel
theorem dX2_lastDay_5 : decode cX2_lastDay 5 = .ok (.aload_n 0, 1) := by decide +kernel
theorem dX2_lastDay_6 : decode cX2_lastDay 6 = .ok (.getfield 19, 3) := by decide +kernel
theorem dX2_lastDay_9 : decode cX2_lastDay 9 = .ok (.iload_n 1, 1) := by decide +kernel
theorem dX2_lastDay_10 : decode cX2_lastDay 10 = .ok (.invokevirtual 117, 3) := by decide +kernel
theorem dX2_lastDay_13 : decode cX2_lastDay 13 = .ok (.ireturn, 1) := by decide +kernel
set_option maxRecDepth 20000 in
theorem ggX2_dueOn_X2_checkCertificate : GoodIn wsX2_dueOn wsX2_checkCertificate := goodIn_ca (goodIn_r _ [6, 7, 8, 1, 9, 18, 19, 20, 21, 22, 23, 24, 25, 26, 27, 28, 29, 30] (by decide +kernel) (by decide +kernel)) (goodIn_sub (fun _ h => List.mem_cons_of_mem _ (List.mem_append_right _ h)) (by decide +kernel))
set_option maxRecDepth 20000 in
theorem gX2_dueOn_X2_checkCertificate : GoodIn wsX2_dueOn (wsV RX2 111 RX2 yX2_checkCertificate wsX2_checkCertificate) := goodIn_app (goodIn_of _ (by decide +kernel)) ggX2_dueOn_X2_checkCertificate
set_option maxRecDepth 20000 in
theorem ggX2_dueOn_X0_dueDayOf : GoodIn wsX2_dueOn wsX0_dueDayOf := goodIn_r _ [14, 15, 16, 17, 23, 24, 25, 26, 27, 28, 29, 30] (by decide +kernel) (by decide +kernel)
set_option maxRecDepth 20000 in
theorem gX2_dueOn_X0_dueDayOf : GoodIn wsX2_dueOn (wsV RX2 121 RX0 yX0_dueDayOf wsX0_dueDayOf) := goodIn_app (goodIn_of _ (by decide +kernel)) ggX2_dueOn_X0_dueDayOf
theorem dX2_dueOn_0 : decode cX2_dueOn 0 = .ok (.aload_n 0, 1) := by decide +kernel
theorem dX2_dueOn_1 : decode cX2_dueOn 1 = .ok (.iload_n 1, 1) := by decide +kernel
theorem dX2_dueOn_2 : decode cX2_dueOn 2 = .ok (.invokevirtual 111, 3) := by decide +kernel
theorem dX2_dueOn_5 : decode cX2_dueOn 5 = .ok (.aload_n 0, 1) := by decide +kernel
theorem dX2_dueOn_6 : decode cX2_dueOn 6 = .ok (.getfield 19, 3) := by decide +kernel
theorem dX2_dueOn_9 : decode cX2_dueOn 9 = .ok (.iload_n 1, 1) := by decide +kernel
theorem dX2_dueOn_10 : decode cX2_dueOn 10 = .ok (.invokevirtual 121, 3) := by decide +kernel
theorem dX2_dueOn_13 : decode cX2_dueOn 13 = .ok (.ireturn, 1) := by decide +kernel
set_option maxRecDepth 20000 in
theorem ggX2_renewal_X2_checkCertificate : GoodIn wsX2_renewal wsX2_checkCertificate := goodIn_ca (goodIn_r _ [7, 8, 9, 1, 10, 11, 12, 13, 14, 15, 16, 17, 18, 19, 20, 21, 22, 23] (by decide +kernel) (by decide +kernel)) (goodIn_sub (fun _ h => List.mem_cons_of_mem _ (List.mem_append_right _ h)) (by decide +kernel))
set_option maxRecDepth 20000 in
theorem gX2_renewal_X2_checkCertificate : GoodIn wsX2_renewal (wsV RX2 111 RX2 yX2_checkCertificate wsX2_checkCertificate) := goodIn_app (goodIn_of _ (by decide +kernel)) ggX2_renewal_X2_checkCertificate
theorem dX2_renewal_0 : decode cX2_renewal 0 = .ok (.aload_n 0, 1) := by decide +kernel
theorem dX2_renewal_1 : decode cX2_renewal 1 = .ok (.iload_n 1, 1) := by decide +kernel
theorem dX2_renewal_2 : decode cX2_renewal 2 = .ok (.invokevirtual 111, 3) := by decide +kernel
theorem dX2_renewal_5 : decode cX2_renewal 5 = .ok (.aload_n 0, 1) := by decide +kernel
theorem dX2_renewal_6 : decode cX2_renewal 6 = .ok (.getfield 19, 3) := by decide +kernel
theorem dX2_renewal_9 : decode cX2_renewal 9 = .ok (.getfield 124, 3) := by decide +kernel
theorem dX2_renewal_12 : decode cX2_renewal 12 = .ok (.iload_n 1, 1) := by decide +kernel
theorem dX2_renewal_13 : decode cX2_renewal 13 = .ok (.iaload, 1) := by decide +kernel
theorem dX2_renewal_14 : decode cX2_renewal 14 = .ok (.ireturn, 1) := by decide +kernel
set_option maxRecDepth 20000 in
theorem ggX2_waiting_X0_fillQueue : GoodIn wsX2_waiting wsX0_fillQueue := goodIn_r _ [7, 8, 9, 10, 11, 6, 12, 13, 14, 15, 16, 17, 18, 19, 20, 21, 22, 23, 24, 25, 26, 27, 28, 29, 35, 36, 37, 38, 39, 40, 41, 42] (by decide +kernel) (by decide +kernel)
set_option maxRecDepth 20000 in
theorem gX2_waiting_X0_fillQueue : GoodIn wsX2_waiting (wsV RX2 127 RX0 yX0_fillQueue wsX0_fillQueue) := goodIn_app (goodIn_of _ (by decide +kernel)) ggX2_waiting_X0_fillQueue
theorem dX2_waiting_0 : decode cX2_waiting 0 = .ok (.aload_n 0, 1) := by decide +kernel
theorem dX2_waiting_1 : decode cX2_waiting 1 = .ok (.getfield 19, 3) := by decide +kernel
theorem dX2_waiting_4 : decode cX2_waiting 4 = .ok (.aload_n 0, 1) := by decide +kernel
theorem dX2_waiting_5 : decode cX2_waiting 5 = .ok (.getfield 31, 3) := by decide +kernel
theorem dX2_waiting_8 : decode cX2_waiting 8 = .ok (.invokevirtual 127, 3) := by decide +kernel
theorem dX2_waiting_11 : decode cX2_waiting 11 = .ok (.ireturn, 1) := by decide +kernel
set_option maxRecDepth 20000 in
theorem ggX2_waitingAt_X0_fillQueue : GoodIn wsX2_waitingAt wsX0_fillQueue := goodIn_r _ [10, 11, 12, 13, 14, 9, 15, 16, 17, 18, 19, 20, 21, 22, 23, 24, 25, 26, 27, 28, 29, 30, 31, 32, 38, 39, 40, 41, 42, 43, 44, 45] (by decide +kernel) (by decide +kernel)
set_option maxRecDepth 20000 in
theorem gX2_waitingAt_X0_fillQueue : GoodIn wsX2_waitingAt (wsV RX2 127 RX0 yX0_fillQueue wsX0_fillQueue) := goodIn_app (goodIn_of _ (by decide +kernel)) ggX2_waitingAt_X0_fillQueue
theorem dX2_waitingAt_0 : decode cX2_waitingAt 0 = .ok (.aload_n 0, 1) := by decide +kernel
theorem dX2_waitingAt_1 : decode cX2_waitingAt 1 = .ok (.getfield 19, 3) := by decide +kernel
theorem dX2_waitingAt_4 : decode cX2_waitingAt 4 = .ok (.aload_n 0, 1) := by decide +kernel
theorem dX2_waitingAt_5 : decode cX2_waitingAt 5 = .ok (.getfield 31, 3) := by decide +kernel
theorem dX2_waitingAt_8 : decode cX2_waitingAt 8 = .ok (.invokevirtual 127, 3) := by decide +kernel
theorem dX2_waitingAt_11 : decode cX2_waitingAt 11 = .ok (.istore_n 2, 1) := by decide +kernel
theorem dX2_waitingAt_12 : decode cX2_waitingAt 12 = .ok (.iload_n 1, 1) := by decide +kernel
theorem dX2_waitingAt_13 : decode cX2_waitingAt 13 = .ok (.ifCond .lt 8, 3) := by decide +kernel
theorem dX2_waitingAt_16 : decode cX2_waitingAt 16 = .ok (.iload_n 1, 1) := by decide +kernel
theorem dX2_waitingAt_17 : decode cX2_waitingAt 17 = .ok (.iload_n 2, 1) := by decide +kernel
theorem dX2_waitingAt_18 : decode cX2_waitingAt 18 = .ok (.if_icmp .lt 13, 3) := by decide +kernel
theorem dX2_waitingAt_21 : decode cX2_waitingAt 21 = .ok (.new 130, 3) := by decide +kernel
theorem dX2_waitingAt_24 : decode cX2_waitingAt 24 = .ok (.dup, 1) := by decide +kernel
theorem dX2_waitingAt_25 : decode cX2_waitingAt 25 = .ok (.ldc 132, 2) := by decide +kernel
theorem dX2_waitingAt_27 : decode cX2_waitingAt 27 = .ok (.invokespecial 134, 3) := by decide +kernel
theorem dX2_waitingAt_30 : decode cX2_waitingAt 30 = .ok (.athrow, 1) := by decide +kernel
theorem dX2_waitingAt_31 : decode cX2_waitingAt 31 = .ok (.aload_n 0, 1) := by decide +kernel
theorem dX2_waitingAt_32 : decode cX2_waitingAt 32 = .ok (.getfield 19, 3) := by decide +kernel
theorem dX2_waitingAt_35 : decode cX2_waitingAt 35 = .ok (.getfield 135, 3) := by decide +kernel
theorem dX2_waitingAt_38 : decode cX2_waitingAt 38 = .ok (.iload_n 1, 1) := by decide +kernel
theorem dX2_waitingAt_39 : decode cX2_waitingAt 39 = .ok (.iaload, 1) := by decide +kernel
theorem dX2_waitingAt_40 : decode cX2_waitingAt 40 = .ok (.ireturn, 1) := by decide +kernel
set_option maxRecDepth 20000 in
theorem ggX2_room_X2_checkIssuer : GoodIn wsX2_room wsX2_checkIssuer := goodIn_ca (goodIn_r _ [5, 6, 7, 8, 9, 28, 29, 30, 31, 32, 33, 34, 35, 36, 37, 38, 39, 40, 41] (by decide +kernel) (by decide +kernel)) (goodIn_sub (fun _ h => List.mem_cons_of_mem _ (List.mem_append_right _ h)) (by decide +kernel))
set_option maxRecDepth 20000 in
theorem gX2_room_X2_checkIssuer : GoodIn wsX2_room (wsV RX2 34 RX2 yX2_checkIssuer wsX2_checkIssuer) := goodIn_app (goodIn_of _ (by decide +kernel)) ggX2_room_X2_checkIssuer
set_option maxRecDepth 20000 in
theorem ggX2_room_X2_roomThisWeek : GoodIn wsX2_room wsX2_roomThisWeek := goodIn_r _ [13, 8, 14, 15, 16, 17, 18, 4, 19, 20, 21, 22, 23, 24, 25, 26, 27, 28, 29, 30, 31, 32, 33, 34, 35, 36, 37, 38, 39, 40, 41, 42, 43, 44, 45, 46, 47, 48, 49] (by decide +kernel) (by decide +kernel)
set_option maxRecDepth 20000 in
theorem gX2_room_X2_roomThisWeek : GoodIn wsX2_room (wsV RX2 138 RX2 yX2_roomThisWeek wsX2_roomThisWeek) := goodIn_app (goodIn_of _ (by decide +kernel)) ggX2_room_X2_roomThisWeek
theorem dX2_room_0 : decode cX2_room 0 = .ok (.aload_n 0, 1) := by decide +kernel
theorem dX2_room_1 : decode cX2_room 1 = .ok (.iload_n 1, 1) := by decide +kernel
theorem dX2_room_2 : decode cX2_room 2 = .ok (.invokevirtual 34, 3) := by decide +kernel
theorem dX2_room_5 : decode cX2_room 5 = .ok (.aload_n 0, 1) := by decide +kernel
theorem dX2_room_6 : decode cX2_room 6 = .ok (.iload_n 1, 1) := by decide +kernel
theorem dX2_room_7 : decode cX2_room 7 = .ok (.invokevirtual 138, 3) := by decide +kernel
theorem dX2_room_10 : decode cX2_room 10 = .ok (.ireturn, 1) := by decide +kernel
set_option maxRecDepth 20000 in
theorem ggX2_isGood_X2_checkIssuer : GoodIn wsX2_isGood wsX2_checkIssuer := goodIn_ca (goodIn_r _ [6, 7, 8, 1, 9, 41, 42, 43, 44, 45, 46, 47, 48, 49, 50, 51, 52, 53, 54] (by decide +kernel) (by decide +kernel)) (goodIn_sub (fun _ h => List.mem_cons_of_mem _ (List.mem_append_left _ (List.mem_append_right _ h))) (by decide +kernel))
set_option maxRecDepth 20000 in
theorem gX2_isGood_X2_checkIssuer : GoodIn wsX2_isGood (wsV RX2 34 RX2 yX2_checkIssuer wsX2_checkIssuer) := goodIn_app (goodIn_of _ (by decide +kernel)) ggX2_isGood_X2_checkIssuer
set_option maxRecDepth 20000 in
theorem ggX2_isGood_X2_checkDay : GoodIn wsX2_isGood wsX2_checkDay := goodIn_ca (goodIn_r _ [12, 13, 14] (by decide +kernel) (by decide +kernel)) (goodIn_sub (fun _ h => List.mem_cons_of_mem _ (List.mem_append_right _ h)) (by decide +kernel))
set_option maxRecDepth 20000 in
theorem gX2_isGood_X2_checkDay : GoodIn wsX2_isGood (va_wsS RX2 38 yX2_checkDay wsX2_checkDay) := goodIn_app (goodIn_of _ (by decide +kernel)) ggX2_isGood_X2_checkDay
set_option maxRecDepth 20000 in
theorem ggX2_isGood_X1_goodOn : GoodIn wsX2_isGood wsX1_goodOn := goodIn_r _ [19, 20, 21, 22, 23, 18, 24, 25, 26, 27, 28, 29, 30, 31, 32, 33, 34, 35, 36, 37, 38, 5, 39, 46, 47, 48, 49, 50, 51, 52, 53, 54] (by decide +kernel) (by decide +kernel)
set_option maxRecDepth 20000 in
theorem gX2_isGood_X1_goodOn : GoodIn wsX2_isGood (wsV RX2 141 RX1 yX1_goodOn wsX1_goodOn) := goodIn_app (goodIn_of _ (by decide +kernel)) ggX2_isGood_X1_goodOn
set_option maxRecDepth 20000 in
theorem ggX2_isGood_X2_contains : GoodIn wsX2_isGood wsX2_contains := goodIn_r _ [39] (by decide +kernel) (by decide +kernel)
set_option maxRecDepth 20000 in
theorem gX2_isGood_X2_contains : GoodIn wsX2_isGood (va_wsS RX2 145 yX2_contains wsX2_contains) := goodIn_app (goodIn_of _ (by decide +kernel)) ggX2_isGood_X2_contains
theorem dX2_isGood_0 : decode cX2_isGood 0 = .ok (.aload_n 0, 1) := by decide +kernel
theorem dX2_isGood_1 : decode cX2_isGood 1 = .ok (.iload_n 1, 1) := by decide +kernel
theorem dX2_isGood_2 : decode cX2_isGood 2 = .ok (.invokevirtual 34, 3) := by decide +kernel
theorem dX2_isGood_5 : decode cX2_isGood 5 = .ok (.iload_n 2, 1) := by decide +kernel
theorem dX2_isGood_6 : decode cX2_isGood 6 = .ok (.invokestatic 38, 3) := by decide +kernel
theorem dX2_isGood_9 : decode cX2_isGood 9 = .ok (.aload_n 0, 1) := by decide +kernel
theorem dX2_isGood_10 : decode cX2_isGood 10 = .ok (.getfield 10, 3) := by decide +kernel
theorem dX2_isGood_13 : decode cX2_isGood 13 = .ok (.iload_n 2, 1) := by decide +kernel
theorem dX2_isGood_14 : decode cX2_isGood 14 = .ok (.iconst (-1), 1) := by decide +kernel
theorem dX2_isGood_15 : decode cX2_isGood 15 = .ok (.invokevirtual 141, 3) := by decide +kernel
theorem dX2_isGood_18 : decode cX2_isGood 18 = .ok (.iload_n 1, 1) := by decide +kernel
theorem dX2_isGood_19 : decode cX2_isGood 19 = .ok (.invokestatic 145, 3) := by decide +kernel
theorem dX2_isGood_22 : decode cX2_isGood 22 = .ok (.ireturn, 1) := by decide +kernel
set_option maxRecDepth 20000 in
theorem ggX2_chainEnd_X2_checkIssuer : GoodIn wsX2_chainEnd wsX2_checkIssuer := goodIn_ca (goodIn_r _ [7, 8, 9, 1, 10, 11, 12, 13, 14, 15, 16, 17, 18, 19, 20, 21, 22, 23, 24] (by decide +kernel) (by decide +kernel)) (goodIn_sub (fun _ h => List.mem_cons_of_mem _ (List.mem_append_right _ h)) (by decide +kernel))
set_option maxRecDepth 20000 in
theorem gX2_chainEnd_X2_checkIssuer : GoodIn wsX2_chainEnd (wsV RX2 34 RX2 yX2_checkIssuer wsX2_checkIssuer) := goodIn_app (goodIn_of _ (by decide +kernel)) ggX2_chainEnd_X2_checkIssuer
theorem dX2_chainEnd_0 : decode cX2_chainEnd 0 = .ok (.aload_n 0, 1) := by decide +kernel
theorem dX2_chainEnd_1 : decode cX2_chainEnd 1 = .ok (.iload_n 1, 1) := by decide +kernel
theorem dX2_chainEnd_2 : decode cX2_chainEnd 2 = .ok (.invokevirtual 34, 3) := by decide +kernel
theorem dX2_chainEnd_5 : decode cX2_chainEnd 5 = .ok (.aload_n 0, 1) := by decide +kernel
theorem dX2_chainEnd_6 : decode cX2_chainEnd 6 = .ok (.getfield 10, 3) := by decide +kernel
theorem dX2_chainEnd_9 : decode cX2_chainEnd 9 = .ok (.getfield 75, 3) := by decide +kernel
theorem dX2_chainEnd_12 : decode cX2_chainEnd 12 = .ok (.iload_n 1, 1) := by decide +kernel
theorem dX2_chainEnd_13 : decode cX2_chainEnd 13 = .ok (.iaload, 1) := by decide +kernel
theorem dX2_chainEnd_14 : decode cX2_chainEnd 14 = .ok (.ireturn, 1) := by decide +kernel
set_option maxRecDepth 20000 in
theorem ggX2_chains_X2_checkIssuer : GoodIn wsX2_chains wsX2_checkIssuer := goodIn_ca (goodIn_r _ [7, 8, 9, 1, 10, 11, 12, 13, 14, 15, 16, 17, 18, 19, 20, 21, 22, 23, 24] (by decide +kernel) (by decide +kernel)) (goodIn_sub (fun _ h => List.mem_cons_of_mem _ (List.mem_append_right _ h)) (by decide +kernel))
set_option maxRecDepth 20000 in
theorem gX2_chains_X2_checkIssuer : GoodIn wsX2_chains (wsV RX2 34 RX2 yX2_checkIssuer wsX2_checkIssuer) := goodIn_app (goodIn_of _ (by decide +kernel)) ggX2_chains_X2_checkIssuer
theorem dX2_chains_0 : decode cX2_chains 0 = .ok (.aload_n 0, 1) := by decide +kernel
theorem dX2_chains_1 : decode cX2_chains 1 = .ok (.iload_n 1, 1) := by decide +kernel
theorem dX2_chains_2 : decode cX2_chains 2 = .ok (.invokevirtual 34, 3) := by decide +kernel
theorem dX2_chains_5 : decode cX2_chains 5 = .ok (.aload_n 0, 1) := by decide +kernel
theorem dX2_chains_6 : decode cX2_chains 6 = .ok (.getfield 10, 3) := by decide +kernel
theorem dX2_chains_9 : decode cX2_chains 9 = .ok (.getfield 148, 3) := by decide +kernel
theorem dX2_chains_12 : decode cX2_chains 12 = .ok (.iload_n 1, 1) := by decide +kernel
theorem dX2_chains_13 : decode cX2_chains 13 = .ok (.iaload, 1) := by decide +kernel
theorem dX2_chains_14 : decode cX2_chains 14 = .ok (.ireturn, 1) := by decide +kernel
set_option maxRecDepth 20000 in
theorem ggX2_isCovered_X2_checkName : GoodIn wsX2_isCovered wsX2_checkName := goodIn_ca (goodIn_r _ [4, 5, 6] (by decide +kernel) (by decide +kernel)) (goodIn_sub (fun _ h => List.mem_cons_of_mem _ (List.mem_append_left _ (List.mem_append_right _ h))) (by decide +kernel))
set_option maxRecDepth 20000 in
theorem gX2_isCovered_X2_checkName : GoodIn wsX2_isCovered (va_wsS RX2 81 yX2_checkName wsX2_checkName) := goodIn_app (goodIn_of _ (by decide +kernel)) ggX2_isCovered_X2_checkName
set_option maxRecDepth 20000 in
theorem ggX2_isCovered_X2_checkDay : GoodIn wsX2_isCovered wsX2_checkDay := goodIn_ca (goodIn_r _ [9, 10, 11] (by decide +kernel) (by decide +kernel)) (goodIn_sub (fun _ h => List.mem_cons_of_mem _ (List.mem_append_right _ h)) (by decide +kernel))
set_option maxRecDepth 20000 in
theorem gX2_isCovered_X2_checkDay : GoodIn wsX2_isCovered (va_wsS RX2 38 yX2_checkDay wsX2_checkDay) := goodIn_app (goodIn_of _ (by decide +kernel)) ggX2_isCovered_X2_checkDay
set_option maxRecDepth 20000 in
theorem ggX2_isCovered_X2_namesCovered : GoodIn wsX2_isCovered wsX2_namesCovered := goodIn_r _ [15, 16, 17, 18, 19, 20, 21, 22, 23, 24, 25, 26, 27, 28, 29, 30, 31, 32, 33, 34, 35, 36, 37, 38, 39, 40, 41, 3, 42, 43, 44, 45, 46, 47, 48, 49, 50, 51, 52, 53, 54, 55, 56, 57, 58, 60, 61, 62, 63, 64, 65, 66, 67, 68, 69, 70, 71, 72, 73, 74, 75, 76, 77, 78, 79, 80, 81] (by decide +kernel) (by decide +kernel)
set_option maxRecDepth 20000 in
theorem gX2_isCovered_X2_namesCovered : GoodIn wsX2_isCovered (wsV RX2 151 RX2 yX2_namesCovered wsX2_namesCovered) := goodIn_app (goodIn_of _ (by decide +kernel)) ggX2_isCovered_X2_namesCovered
set_option maxRecDepth 20000 in
theorem ggX2_isCovered_X2_contains : GoodIn wsX2_isCovered wsX2_contains := goodIn_r _ [42] (by decide +kernel) (by decide +kernel)
set_option maxRecDepth 20000 in
theorem gX2_isCovered_X2_contains : GoodIn wsX2_isCovered (va_wsS RX2 145 yX2_contains wsX2_contains) := goodIn_app (goodIn_of _ (by decide +kernel)) ggX2_isCovered_X2_contains
theorem dX2_isCovered_0 : decode cX2_isCovered 0 = .ok (.iload_n 1, 1) := by decide +kernel
theorem dX2_isCovered_1 : decode cX2_isCovered 1 = .ok (.invokestatic 81, 3) := by decide +kernel
theorem dX2_isCovered_4 : decode cX2_isCovered 4 = .ok (.iload_n 2, 1) := by decide +kernel
theorem dX2_isCovered_5 : decode cX2_isCovered 5 = .ok (.invokestatic 38, 3) := by decide +kernel
theorem dX2_isCovered_8 : decode cX2_isCovered 8 = .ok (.aload_n 0, 1) := by decide +kernel
theorem dX2_isCovered_9 : decode cX2_isCovered 9 = .ok (.iload_n 2, 1) := by decide +kernel
theorem dX2_isCovered_10 : decode cX2_isCovered 10 = .ok (.iconst (-1), 1) := by decide +kernel
theorem dX2_isCovered_11 : decode cX2_isCovered 11 = .ok (.invokevirtual 151, 3) := by decide +kernel
theorem dX2_isCovered_14 : decode cX2_isCovered 14 = .ok (.iload_n 1, 1) := by decide +kernel
theorem dX2_isCovered_15 : decode cX2_isCovered 15 = .ok (.invokestatic 145, 3) := by decide +kernel
theorem dX2_isCovered_18 : decode cX2_isCovered 18 = .ok (.ireturn, 1) := by decide +kernel
set_option maxRecDepth 20000 in
theorem ggX2_nextGap_X2_checkName : GoodIn wsX2_nextGap wsX2_checkName := goodIn_ca (goodIn_r _ [4, 5, 6] (by decide +kernel) (by decide +kernel)) (goodIn_sub (fun _ h => List.mem_cons_of_mem _ (List.mem_append_left _ (List.mem_append_right _ h))) (by decide +kernel))
set_option maxRecDepth 20000 in
theorem gX2_nextGap_X2_checkName : GoodIn wsX2_nextGap (va_wsS RX2 81 yX2_checkName wsX2_checkName) := goodIn_app (goodIn_of _ (by decide +kernel)) ggX2_nextGap_X2_checkName
set_option maxRecDepth 20000 in
theorem ggX2_nextGap_X2_checkDay : GoodIn wsX2_nextGap wsX2_checkDay := goodIn_ca (goodIn_r _ [9, 10, 11] (by decide +kernel) (by decide +kernel)) (goodIn_sub (fun _ h => List.mem_cons_of_mem _ (List.mem_append_right _ h)) (by decide +kernel))
set_option maxRecDepth 20000 in
theorem gX2_nextGap_X2_checkDay : GoodIn wsX2_nextGap (va_wsS RX2 38 yX2_checkDay wsX2_checkDay) := goodIn_app (goodIn_of _ (by decide +kernel)) ggX2_nextGap_X2_checkDay
set_option maxRecDepth 20000 in
theorem ggX2_nextGap_X2_namesCovered : GoodIn wsX2_nextGap wsX2_namesCovered := goodIn_r _ [15, 16, 17, 18, 19, 20, 21, 22, 23, 24, 25, 26, 27, 28, 29, 30, 31, 32, 33, 34, 35, 36, 37, 38, 39, 40, 41, 3, 42, 43, 44, 45, 46, 47, 48, 49, 50, 51, 52, 53, 54, 55, 56, 57, 58, 60, 61, 62, 63, 64, 65, 66, 67, 68, 69, 70, 71, 72, 73, 74, 75, 76, 77, 78, 79, 80, 81] (by decide +kernel) (by decide +kernel)
set_option maxRecDepth 20000 in
theorem gX2_nextGap_X2_namesCovered : GoodIn wsX2_nextGap (wsV RX2 151 RX2 yX2_namesCovered wsX2_namesCovered) := goodIn_app (goodIn_of _ (by decide +kernel)) ggX2_nextGap_X2_namesCovered
set_option maxRecDepth 20000 in
theorem ggX2_nextGap_X2_contains : GoodIn wsX2_nextGap wsX2_contains := goodIn_r _ [42] (by decide +kernel) (by decide +kernel)
set_option maxRecDepth 20000 in
theorem gX2_nextGap_X2_contains : GoodIn wsX2_nextGap (va_wsS RX2 145 yX2_contains wsX2_contains) := goodIn_app (goodIn_of _ (by decide +kernel)) ggX2_nextGap_X2_contains
theorem dX2_nextGap_0 : decode cX2_nextGap 0 = .ok (.iload_n 1, 1) := by decide +kernel
theorem dX2_nextGap_1 : decode cX2_nextGap 1 = .ok (.invokestatic 81, 3) := by decide +kernel
theorem dX2_nextGap_4 : decode cX2_nextGap 4 = .ok (.iload_n 2, 1) := by decide +kernel
theorem dX2_nextGap_5 : decode cX2_nextGap 5 = .ok (.invokestatic 38, 3) := by decide +kernel
theorem dX2_nextGap_8 : decode cX2_nextGap 8 = .ok (.iload_n 2, 1) := by decide +kernel
theorem dX2_nextGap_9 : decode cX2_nextGap 9 = .ok (.istore_n 3, 1) := by decide +kernel
theorem dX2_nextGap_10 : decode cX2_nextGap 10 = .ok (.iload_n 3, 1) := by decide +kernel
theorem dX2_nextGap_11 : decode cX2_nextGap 11 = .ok (.sipush 5000, 3) := by decide +kernel
theorem dX2_nextGap_14 : decode cX2_nextGap 14 = .ok (.if_icmp .gt 24, 3) := by decide +kernel
theorem dX2_nextGap_17 : decode cX2_nextGap 17 = .ok (.aload_n 0, 1) := by decide +kernel
theorem dX2_nextGap_18 : decode cX2_nextGap 18 = .ok (.iload_n 3, 1) := by decide +kernel
theorem dX2_nextGap_19 : decode cX2_nextGap 19 = .ok (.iconst (-1), 1) := by decide +kernel
theorem dX2_nextGap_20 : decode cX2_nextGap 20 = .ok (.invokevirtual 151, 3) := by decide +kernel
theorem dX2_nextGap_23 : decode cX2_nextGap 23 = .ok (.iload_n 1, 1) := by decide +kernel
theorem dX2_nextGap_24 : decode cX2_nextGap 24 = .ok (.invokestatic 145, 3) := by decide +kernel
theorem dX2_nextGap_27 : decode cX2_nextGap 27 = .ok (.ifCond .ne 5, 3) := by decide +kernel
theorem dX2_nextGap_30 : decode cX2_nextGap 30 = .ok (.iload_n 3, 1) := by decide +kernel
theorem dX2_nextGap_31 : decode cX2_nextGap 31 = .ok (.ireturn, 1) := by decide +kernel
theorem dX2_nextGap_32 : decode cX2_nextGap 32 = .ok (.iinc 3 1, 3) := by decide +kernel
theorem dX2_nextGap_35 : decode cX2_nextGap 35 = .ok (.goto (-25), 3) := by decide +kernel
theorem dX2_nextGap_38 : decode cX2_nextGap 38 = .ok (.iconst (-1), 1) := by decide +kernel
theorem dX2_nextGap_39 : decode cX2_nextGap 39 = .ok (.ireturn, 1) := by decide +kernel
set_option maxRecDepth 20000 in
theorem ggX2_covered_X2_checkDay : GoodIn wsX2_covered wsX2_checkDay := goodIn_ca (goodIn_r _ [4, 5, 6] (by decide +kernel) (by decide +kernel)) (goodIn_sub (fun _ h => List.mem_cons_of_mem _ (List.mem_append_right _ h)) (by decide +kernel))
set_option maxRecDepth 20000 in
theorem gX2_covered_X2_checkDay : GoodIn wsX2_covered (va_wsS RX2 38 yX2_checkDay wsX2_checkDay) := goodIn_app (goodIn_of _ (by decide +kernel)) ggX2_covered_X2_checkDay
set_option maxRecDepth 20000 in
theorem ggX2_covered_X2_namesCovered : GoodIn wsX2_covered wsX2_namesCovered := goodIn_r _ [10, 11, 12, 13, 14, 15, 16, 17, 18, 19, 20, 21, 22, 23, 24, 25, 26, 27, 28, 29, 30, 31, 32, 33, 34, 35, 36, 3, 37, 38, 39, 40, 41, 42, 43, 44, 45, 46, 47, 48, 49, 50, 51, 52, 53, 54, 55, 56, 57, 58, 59, 60, 61, 62, 63, 64, 65, 66, 67, 68, 69, 70, 71, 72, 73, 74, 75] (by decide +kernel) (by decide +kernel)
set_option maxRecDepth 20000 in
theorem gX2_covered_X2_namesCovered : GoodIn wsX2_covered (wsV RX2 151 RX2 yX2_namesCovered wsX2_namesCovered) := goodIn_app (goodIn_of _ (by decide +kernel)) ggX2_covered_X2_namesCovered
theorem dX2_covered_0 : decode cX2_covered 0 = .ok (.iload_n 1, 1) := by decide +kernel
theorem dX2_covered_1 : decode cX2_covered 1 = .ok (.invokestatic 38, 3) := by decide +kernel
theorem dX2_covered_4 : decode cX2_covered 4 = .ok (.aload_n 0, 1) := by decide +kernel
theorem dX2_covered_5 : decode cX2_covered 5 = .ok (.iload_n 1, 1) := by decide +kernel
theorem dX2_covered_6 : decode cX2_covered 6 = .ok (.iconst (-1), 1) := by decide +kernel
theorem dX2_covered_7 : decode cX2_covered 7 = .ok (.invokevirtual 151, 3) := by decide +kernel
theorem dX2_covered_10 : decode cX2_covered 10 = .ok (.ireturn, 1) := by decide +kernel
set_option maxRecDepth 20000 in
theorem ggX2_breaks_X2_checkIssuer : GoodIn wsX2_breaks wsX2_checkIssuer := goodIn_ca (goodIn_r _ [5, 6, 7, 8, 9, 65, 66, 67, 68, 69, 70, 71, 72, 73, 74, 75, 76, 77, 78] (by decide +kernel) (by decide +kernel)) (goodIn_sub (fun _ h => List.mem_cons_of_mem _ (List.mem_append_left _ (List.mem_append_right _ h))) (by decide +kernel))
set_option maxRecDepth 20000 in
theorem gX2_breaks_X2_checkIssuer : GoodIn wsX2_breaks (wsV RX2 34 RX2 yX2_checkIssuer wsX2_checkIssuer) := goodIn_app (goodIn_of _ (by decide +kernel)) ggX2_breaks_X2_checkIssuer
set_option maxRecDepth 20000 in
theorem ggX2_breaks_X2_checkDay : GoodIn wsX2_breaks wsX2_checkDay := goodIn_ca (goodIn_r _ [12, 13, 14] (by decide +kernel) (by decide +kernel)) (goodIn_sub (fun _ h => List.mem_cons_of_mem _ (List.mem_append_right _ h)) (by decide +kernel))
set_option maxRecDepth 20000 in
theorem gX2_breaks_X2_checkDay : GoodIn wsX2_breaks (va_wsS RX2 38 yX2_checkDay wsX2_checkDay) := goodIn_app (goodIn_of _ (by decide +kernel)) ggX2_breaks_X2_checkDay
set_option maxRecDepth 20000 in
theorem ggX2_breaks_X2_namesLostWithout : GoodIn wsX2_breaks wsX2_namesLostWithout := goodIn_r _ [18, 19, 20, 21, 4, 22, 23, 8, 24, 25, 26, 27, 28, 29, 30, 31, 32, 33, 34, 35, 36, 37, 38, 39, 40, 41, 42, 43, 44, 45, 46, 47, 48, 49, 50, 51, 52, 53, 54, 55, 56, 57, 58, 59, 60, 61, 62, 63, 64, 65, 66, 67, 68, 69, 70, 71, 72, 73, 74, 75, 76, 77, 78, 79, 80, 81, 82, 83, 84, 85, 86] (by decide +kernel) (by decide +kernel)
set_option maxRecDepth 20000 in
theorem gX2_breaks_X2_namesLostWithout : GoodIn wsX2_breaks (wsV RX2 154 RX2 yX2_namesLostWithout wsX2_namesLostWithout) := goodIn_app (goodIn_of _ (by decide +kernel)) ggX2_breaks_X2_namesLostWithout
theorem dX2_breaks_0 : decode cX2_breaks 0 = .ok (.aload_n 0, 1) := by decide +kernel
theorem dX2_breaks_1 : decode cX2_breaks 1 = .ok (.iload_n 1, 1) := by decide +kernel
theorem dX2_breaks_2 : decode cX2_breaks 2 = .ok (.invokevirtual 34, 3) := by decide +kernel
theorem dX2_breaks_5 : decode cX2_breaks 5 = .ok (.iload_n 2, 1) := by decide +kernel
theorem dX2_breaks_6 : decode cX2_breaks 6 = .ok (.invokestatic 38, 3) := by decide +kernel
theorem dX2_breaks_9 : decode cX2_breaks 9 = .ok (.aload_n 0, 1) := by decide +kernel
theorem dX2_breaks_10 : decode cX2_breaks 10 = .ok (.iload_n 1, 1) := by decide +kernel
theorem dX2_breaks_11 : decode cX2_breaks 11 = .ok (.iload_n 2, 1) := by decide +kernel
theorem dX2_breaks_12 : decode cX2_breaks 12 = .ok (.invokevirtual 154, 3) := by decide +kernel
theorem dX2_breaks_15 : decode cX2_breaks 15 = .ok (.ireturn, 1) := by decide +kernel
set_option maxRecDepth 20000 in
theorem ggX2_weakest_X2_checkDay : GoodIn wsX2_weakest wsX2_checkDay := goodIn_ca (goodIn_r _ [6, 7, 8] (by decide +kernel) (by decide +kernel)) (goodIn_sub (fun _ h => List.mem_cons_of_mem _ (List.mem_append_right _ h)) (by decide +kernel))
set_option maxRecDepth 20000 in
theorem gX2_weakest_X2_checkDay : GoodIn wsX2_weakest (va_wsS RX2 38 yX2_checkDay wsX2_checkDay) := goodIn_app (goodIn_of _ (by decide +kernel)) ggX2_weakest_X2_checkDay
set_option maxRecDepth 20000 in
theorem ggX2_weakest_X2_namesLostWithout : GoodIn wsX2_weakest wsX2_namesLostWithout := goodIn_r _ [12, 13, 14, 15, 5, 16, 17, 1, 18, 19, 20, 21, 22, 23, 24, 25, 26, 27, 28, 29, 30, 31, 32, 33, 34, 35, 36, 37, 38, 39, 40, 41, 42, 43, 44, 45, 46, 47, 48, 49, 50, 51, 52, 53, 54, 55, 56, 57, 58, 66, 67, 68, 69, 70, 71, 72, 73, 74, 75, 76, 77, 78, 79, 80, 81, 82, 83, 84, 85, 86, 87] (by decide +kernel) (by decide +kernel)
set_option maxRecDepth 20000 in
theorem gX2_weakest_X2_namesLostWithout : GoodIn wsX2_weakest (wsV RX2 154 RX2 yX2_namesLostWithout wsX2_namesLostWithout) := goodIn_app (goodIn_of _ (by decide +kernel)) ggX2_weakest_X2_namesLostWithout
set_option maxRecDepth 20000 in
theorem ggX2_weakest_J6_bitCount_0f7a4 : GoodIn wsX2_weakest wsJ6_bitCount_0f7a4 := goodIn_r _ [62, 63, 64, 65] (by decide +kernel) (by decide +kernel)
set_option maxRecDepth 20000 in
theorem gX2_weakest_J6_bitCount_0f7a4 : GoodIn wsX2_weakest (va_wsS RX2 157 yJ6_bitCount_0f7a4 wsJ6_bitCount_0f7a4) := goodIn_app (goodIn_of _ (by decide +kernel)) ggX2_weakest_J6_bitCount_0f7a4
theorem dX2_weakest_0 : decode cX2_weakest 0 = .ok (.iload_n 1, 1) := by decide +kernel
theorem dX2_weakest_1 : decode cX2_weakest 1 = .ok (.invokestatic 38, 3) := by decide +kernel
theorem dX2_weakest_4 : decode cX2_weakest 4 = .ok (.iconst (-1), 1) := by decide +kernel
theorem dX2_weakest_5 : decode cX2_weakest 5 = .ok (.istore_n 2, 1) := by decide +kernel
theorem dX2_weakest_6 : decode cX2_weakest 6 = .ok (.iconst 0, 1) := by decide +kernel
theorem dX2_weakest_7 : decode cX2_weakest 7 = .ok (.istore_n 3, 1) := by decide +kernel
theorem dX2_weakest_8 : decode cX2_weakest 8 = .ok (.iconst 0, 1) := by decide +kernel
theorem dX2_weakest_9 : decode cX2_weakest 9 = .ok (.istore 4, 2) := by decide +kernel
theorem dX2_weakest_11 : decode cX2_weakest 11 = .ok (.iload 4, 2) := by decide +kernel
theorem dX2_weakest_13 : decode cX2_weakest 13 = .ok (.aload_n 0, 1) := by decide +kernel
theorem dX2_weakest_14 : decode cX2_weakest 14 = .ok (.getfield 10, 3) := by decide +kernel
theorem dX2_weakest_17 : decode cX2_weakest 17 = .ok (.getfield 107, 3) := by decide +kernel
theorem dX2_weakest_20 : decode cX2_weakest 20 = .ok (.if_icmp .ge 33, 3) := by decide +kernel
theorem dX2_weakest_23 : decode cX2_weakest 23 = .ok (.aload_n 0, 1) := by decide +kernel
theorem dX2_weakest_24 : decode cX2_weakest 24 = .ok (.iload 4, 2) := by decide +kernel
theorem dX2_weakest_26 : decode cX2_weakest 26 = .ok (.iload_n 1, 1) := by decide +kernel
theorem dX2_weakest_27 : decode cX2_weakest 27 = .ok (.invokevirtual 154, 3) := by decide +kernel
theorem dX2_weakest_30 : decode cX2_weakest 30 = .ok (.invokestatic 157, 3) := by decide +kernel
theorem dX2_weakest_33 : decode cX2_weakest 33 = .ok (.istore 5, 2) := by decide +kernel
theorem dX2_weakest_35 : decode cX2_weakest 35 = .ok (.iload 5, 2) := by decide +kernel
theorem dX2_weakest_37 : decode cX2_weakest 37 = .ok (.iload_n 3, 1) := by decide +kernel
theorem dX2_weakest_38 : decode cX2_weakest 38 = .ok (.if_icmp .le 9, 3) := by decide +kernel
theorem dX2_weakest_41 : decode cX2_weakest 41 = .ok (.iload 5, 2) := by decide +kernel
theorem dX2_weakest_43 : decode cX2_weakest 43 = .ok (.istore_n 3, 1) := by decide +kernel
theorem dX2_weakest_44 : decode cX2_weakest 44 = .ok (.iload 4, 2) := by decide +kernel
theorem dX2_weakest_46 : decode cX2_weakest 46 = .ok (.istore_n 2, 1) := by decide +kernel
theorem dX2_weakest_47 : decode cX2_weakest 47 = .ok (.iinc 4 1, 3) := by decide +kernel
theorem dX2_weakest_50 : decode cX2_weakest 50 = .ok (.goto (-39), 3) := by decide +kernel
theorem dX2_weakest_53 : decode cX2_weakest 53 = .ok (.iload_n 2, 1) := by decide +kernel
theorem dX2_weakest_54 : decode cX2_weakest 54 = .ok (.ireturn, 1) := by decide +kernel
theorem dX2_checkIssuer_0 : decode cX2_checkIssuer 0 = .ok (.iload_n 1, 1) := by decide +kernel
theorem dX2_checkIssuer_1 : decode cX2_checkIssuer 1 = .ok (.ifCond .lt 14, 3) := by decide +kernel
theorem dX2_checkIssuer_4 : decode cX2_checkIssuer 4 = .ok (.iload_n 1, 1) := by decide +kernel
theorem dX2_checkIssuer_5 : decode cX2_checkIssuer 5 = .ok (.aload_n 0, 1) := by decide +kernel
theorem dX2_checkIssuer_6 : decode cX2_checkIssuer 6 = .ok (.getfield 10, 3) := by decide +kernel
theorem dX2_checkIssuer_9 : decode cX2_checkIssuer 9 = .ok (.getfield 107, 3) := by decide +kernel
theorem dX2_checkIssuer_12 : decode cX2_checkIssuer 12 = .ok (.if_icmp .lt 13, 3) := by decide +kernel
theorem dX2_checkIssuer_15 : decode cX2_checkIssuer 15 = .ok (.new 130, 3) := by decide +kernel
theorem dX2_checkIssuer_18 : decode cX2_checkIssuer 18 = .ok (.dup, 1) := by decide +kernel
theorem dX2_checkIssuer_19 : decode cX2_checkIssuer 19 = .ok (.ldc 162, 2) := by decide +kernel
theorem dX2_checkIssuer_21 : decode cX2_checkIssuer 21 = .ok (.invokespecial 134, 3) := by decide +kernel
theorem dX2_checkIssuer_24 : decode cX2_checkIssuer 24 = .ok (.athrow, 1) := by decide +kernel
theorem dX2_checkIssuer_25 : decode cX2_checkIssuer 25 = .ok (.return_, 1) := by decide +kernel
theorem dX2_checkCertificate_0 : decode cX2_checkCertificate 0 = .ok (.iload_n 1, 1) := by decide +kernel
theorem dX2_checkCertificate_1 : decode cX2_checkCertificate 1 = .ok (.ifCond .lt 14, 3) := by decide +kernel
theorem dX2_checkCertificate_4 : decode cX2_checkCertificate 4 = .ok (.iload_n 1, 1) := by decide +kernel
theorem dX2_checkCertificate_5 : decode cX2_checkCertificate 5 = .ok (.aload_n 0, 1) := by decide +kernel
theorem dX2_checkCertificate_6 : decode cX2_checkCertificate 6 = .ok (.getfield 19, 3) := by decide +kernel
theorem dX2_checkCertificate_9 : decode cX2_checkCertificate 9 = .ok (.getfield 110, 3) := by decide +kernel
theorem dX2_checkCertificate_12 : decode cX2_checkCertificate 12 = .ok (.if_icmp .lt 13, 3) := by decide +kernel
theorem dX2_checkCertificate_15 : decode cX2_checkCertificate 15 = .ok (.new 130, 3) := by decide +kernel
theorem dX2_checkCertificate_18 : decode cX2_checkCertificate 18 = .ok (.dup, 1) := by decide +kernel
theorem dX2_checkCertificate_19 : decode cX2_checkCertificate 19 = .ok (.ldc 164, 2) := by decide +kernel
theorem dX2_checkCertificate_21 : decode cX2_checkCertificate 21 = .ok (.invokespecial 134, 3) := by decide +kernel
theorem dX2_checkCertificate_24 : decode cX2_checkCertificate 24 = .ok (.athrow, 1) := by decide +kernel
theorem dX2_checkCertificate_25 : decode cX2_checkCertificate 25 = .ok (.return_, 1) := by decide +kernel
theorem dX2_checkName_0 : decode cX2_checkName 0 = .ok (.iload_n 0, 1) := by decide +kernel
theorem dX2_checkName_1 : decode cX2_checkName 1 = .ok (.ifCond .lt 9, 3) := by decide +kernel
theorem dX2_checkName_4 : decode cX2_checkName 4 = .ok (.iload_n 0, 1) := by decide +kernel
theorem dX2_checkName_5 : decode cX2_checkName 5 = .ok (.bipush 16, 2) := by decide +kernel
theorem dX2_checkName_7 : decode cX2_checkName 7 = .ok (.if_icmp .lt 13, 3) := by decide +kernel
theorem dX2_checkName_10 : decode cX2_checkName 10 = .ok (.new 130, 3) := by decide +kernel
theorem dX2_checkName_13 : decode cX2_checkName 13 = .ok (.dup, 1) := by decide +kernel
theorem dX2_checkName_14 : decode cX2_checkName 14 = .ok (.ldc 166, 2) := by decide +kernel
theorem dX2_checkName_16 : decode cX2_checkName 16 = .ok (.invokespecial 134, 3) := by decide +kernel
theorem dX2_checkName_19 : decode cX2_checkName 19 = .ok (.athrow, 1) := by decide +kernel
theorem dX2_checkName_20 : decode cX2_checkName 20 = .ok (.return_, 1) := by decide +kernel
theorem dX2_checkDay_0 : decode cX2_checkDay 0 = .ok (.iload_n 0, 1) := by decide +kernel
theorem dX2_checkDay_1 : decode cX2_checkDay 1 = .ok (.ifCond .lt 10, 3) := by decide +kernel
theorem dX2_checkDay_4 : decode cX2_checkDay 4 = .ok (.iload_n 0, 1) := by decide +kernel
theorem dX2_checkDay_5 : decode cX2_checkDay 5 = .ok (.sipush 5000, 3) := by decide +kernel
theorem dX2_checkDay_8 : decode cX2_checkDay 8 = .ok (.if_icmp .le 13, 3) := by decide +kernel
theorem dX2_checkDay_11 : decode cX2_checkDay 11 = .ok (.new 41, 3) := by decide +kernel
theorem dX2_checkDay_14 : decode cX2_checkDay 14 = .ok (.dup, 1) := by decide +kernel
theorem dX2_checkDay_15 : decode cX2_checkDay 15 = .ok (.ldc 168, 2) := by decide +kernel
theorem dX2_checkDay_17 : decode cX2_checkDay 17 = .ok (.invokespecial 45, 3) := by decide +kernel
theorem dX2_checkDay_20 : decode cX2_checkDay 20 = .ok (.athrow, 1) := by decide +kernel
theorem dX2_checkDay_21 : decode cX2_checkDay 21 = .ok (.return_, 1) := by decide +kernel
set_option maxRecDepth 20000 in
theorem ggX2_canIssue_X0_isFull : GoodIn wsX2_canIssue wsX0_isFull := goodIn_r _ [8, 9, 64, 65, 66, 67, 68, 69, 70, 71] (by decide +kernel) (by decide +kernel)
set_option maxRecDepth 20000 in
theorem gX2_canIssue_X0_isFull : GoodIn wsX2_canIssue (wsV RX2 170 RX0 yX0_isFull wsX0_isFull) := goodIn_app (goodIn_of _ (by decide +kernel)) ggX2_canIssue_X0_isFull
set_option maxRecDepth 20000 in
theorem ggX2_canIssue_X2_roomThisWeek : GoodIn wsX2_canIssue wsX2_roomThisWeek := goodIn_r _ [14, 2, 15, 1, 3, 16, 17, 13, 18, 19, 20, 21, 7, 22, 9, 23, 24, 59, 60, 61, 62, 63, 72, 73, 74, 75, 76, 77, 78, 79, 80, 64, 65, 66, 67, 68, 69, 70, 71] (by decide +kernel) (by decide +kernel)
set_option maxRecDepth 20000 in
theorem gX2_canIssue_X2_roomThisWeek : GoodIn wsX2_canIssue (wsV RX2 138 RX2 yX2_roomThisWeek wsX2_roomThisWeek) := goodIn_app (goodIn_of _ (by decide +kernel)) ggX2_canIssue_X2_roomThisWeek
set_option maxRecDepth 20000 in
theorem ggX2_canIssue_X2_mayIssueFor : GoodIn wsX2_canIssue wsX2_mayIssueFor := goodIn_r _ [28, 29, 30, 31, 13, 32, 33, 34, 35, 59, 60, 61, 62, 63] (by decide +kernel) (by decide +kernel)
set_option maxRecDepth 20000 in
theorem gX2_canIssue_X2_mayIssueFor : GoodIn wsX2_canIssue (wsV RX2 171 RX2 yX2_mayIssueFor wsX2_mayIssueFor) := goodIn_app (goodIn_of _ (by decide +kernel)) ggX2_canIssue_X2_mayIssueFor
set_option maxRecDepth 20000 in
theorem ggX2_canIssue_X1_goodOn : GoodIn wsX2_canIssue wsX1_goodOn := goodIn_r _ [40, 41, 42, 43, 44, 39, 45, 46, 47, 48, 49, 50, 51, 52, 53, 54, 55, 56, 57, 58, 34, 13, 35, 72, 73, 74, 75, 76, 77, 78, 79, 80] (by decide +kernel) (by decide +kernel)
set_option maxRecDepth 20000 in
theorem gX2_canIssue_X1_goodOn : GoodIn wsX2_canIssue (wsV RX2 141 RX1 yX1_goodOn wsX1_goodOn) := goodIn_app (goodIn_of _ (by decide +kernel)) ggX2_canIssue_X1_goodOn
set_option maxRecDepth 20000 in
theorem ggX2_canIssue_X2_contains : GoodIn wsX2_canIssue wsX2_contains := goodIn_r _ [35] (by decide +kernel) (by decide +kernel)
set_option maxRecDepth 20000 in
theorem gX2_canIssue_X2_contains : GoodIn wsX2_canIssue (va_wsS RX2 145 yX2_contains wsX2_contains) := goodIn_app (goodIn_of _ (by decide +kernel)) ggX2_canIssue_X2_contains
theorem dX2_canIssue_0 : decode cX2_canIssue 0 = .ok (.aload_n 0, 1) := by decide +kernel
theorem dX2_canIssue_1 : decode cX2_canIssue 1 = .ok (.getfield 19, 3) := by decide +kernel
theorem dX2_canIssue_4 : decode cX2_canIssue 4 = .ok (.invokevirtual 170, 3) := by decide +kernel
theorem dX2_canIssue_7 : decode cX2_canIssue 7 = .ok (.ifCond .ne 43, 3) := by decide +kernel
theorem dX2_canIssue_10 : decode cX2_canIssue 10 = .ok (.aload_n 0, 1) := by decide +kernel
theorem dX2_canIssue_11 : decode cX2_canIssue 11 = .ok (.iload_n 1, 1) := by decide +kernel
theorem dX2_canIssue_12 : decode cX2_canIssue 12 = .ok (.invokevirtual 138, 3) := by decide +kernel
theorem dX2_canIssue_15 : decode cX2_canIssue 15 = .ok (.ifCond .le 35, 3) := by decide +kernel
theorem dX2_canIssue_18 : decode cX2_canIssue 18 = .ok (.aload_n 0, 1) := by decide +kernel
theorem dX2_canIssue_19 : decode cX2_canIssue 19 = .ok (.iload_n 1, 1) := by decide +kernel
theorem dX2_canIssue_20 : decode cX2_canIssue 20 = .ok (.iload_n 2, 1) := by decide +kernel
theorem dX2_canIssue_21 : decode cX2_canIssue 21 = .ok (.invokevirtual 171, 3) := by decide +kernel
theorem dX2_canIssue_24 : decode cX2_canIssue 24 = .ok (.ifCond .eq 26, 3) := by decide +kernel
theorem dX2_canIssue_27 : decode cX2_canIssue 27 = .ok (.aload_n 0, 1) := by decide +kernel
theorem dX2_canIssue_28 : decode cX2_canIssue 28 = .ok (.getfield 10, 3) := by decide +kernel
theorem dX2_canIssue_31 : decode cX2_canIssue 31 = .ok (.aload_n 0, 1) := by decide +kernel
theorem dX2_canIssue_32 : decode cX2_canIssue 32 = .ok (.getfield 31, 3) := by decide +kernel
theorem dX2_canIssue_35 : decode cX2_canIssue 35 = .ok (.iconst (-1), 1) := by decide +kernel
theorem dX2_canIssue_36 : decode cX2_canIssue 36 = .ok (.invokevirtual 141, 3) := by decide +kernel
theorem dX2_canIssue_39 : decode cX2_canIssue 39 = .ok (.iload_n 1, 1) := by decide +kernel
theorem dX2_canIssue_40 : decode cX2_canIssue 40 = .ok (.invokestatic 145, 3) := by decide +kernel
theorem dX2_canIssue_43 : decode cX2_canIssue 43 = .ok (.ifCond .eq 7, 3) := by decide +kernel
theorem dX2_canIssue_46 : decode cX2_canIssue 46 = .ok (.iconst 1, 1) := by decide +kernel
theorem dX2_canIssue_47 : decode cX2_canIssue 47 = .ok (.goto 4, 3) := by decide +kernel
theorem dX2_canIssue_50 : decode cX2_canIssue 50 = .ok (.iconst 0, 1) := by decide +kernel
theorem dX2_canIssue_51 : decode cX2_canIssue 51 = .ok (.ireturn, 1) := by decide +kernel
set_option maxRecDepth 20000 in
theorem ggX2_mayIssueFor_X2_namesOf : GoodIn wsX2_mayIssueFor wsX2_namesOf := goodIn_r _ [5] (by decide +kernel) (by decide +kernel)
set_option maxRecDepth 20000 in
theorem gX2_mayIssueFor_X2_namesOf : GoodIn wsX2_mayIssueFor (va_wsS RX2 174 yX2_namesOf wsX2_namesOf) := goodIn_app (goodIn_of _ (by decide +kernel)) ggX2_mayIssueFor_X2_namesOf
set_option maxRecDepth 20000 in
theorem ggX2_mayIssueFor_X2_contains : GoodIn wsX2_mayIssueFor wsX2_contains := goodIn_r _ [8] (by decide +kernel) (by decide +kernel)
set_option maxRecDepth 20000 in
theorem gX2_mayIssueFor_X2_contains : GoodIn wsX2_mayIssueFor (va_wsS RX2 145 yX2_contains wsX2_contains) := goodIn_app (goodIn_of _ (by decide +kernel)) ggX2_mayIssueFor_X2_contains
theorem dX2_mayIssueFor_0 : decode cX2_mayIssueFor 0 = .ok (.iload_n 2, 1) := by decide +kernel
theorem dX2_mayIssueFor_1 : decode cX2_mayIssueFor 1 = .ok (.invokestatic 174, 3) := by decide +kernel
theorem dX2_mayIssueFor_4 : decode cX2_mayIssueFor 4 = .ok (.istore_n 3, 1) := by decide +kernel
theorem dX2_mayIssueFor_5 : decode cX2_mayIssueFor 5 = .ok (.iconst 0, 1) := by decide +kernel
theorem dX2_mayIssueFor_6 : decode cX2_mayIssueFor 6 = .ok (.istore 4, 2) := by decide +kernel
theorem dX2_mayIssueFor_8 : decode cX2_mayIssueFor 8 = .ok (.iload 4, 2) := by decide +kernel
theorem dX2_mayIssueFor_10 : decode cX2_mayIssueFor 10 = .ok (.bipush 16, 2) := by decide +kernel
theorem dX2_mayIssueFor_12 : decode cX2_mayIssueFor 12 = .ok (.if_icmp .ge 43, 3) := by decide +kernel
theorem dX2_mayIssueFor_15 : decode cX2_mayIssueFor 15 = .ok (.aload_n 0, 1) := by decide +kernel
theorem dX2_mayIssueFor_16 : decode cX2_mayIssueFor 16 = .ok (.getfield 23, 3) := by decide +kernel
theorem dX2_mayIssueFor_19 : decode cX2_mayIssueFor 19 = .ok (.iload 4, 2) := by decide +kernel
theorem dX2_mayIssueFor_21 : decode cX2_mayIssueFor 21 = .ok (.iaload, 1) := by decide +kernel
theorem dX2_mayIssueFor_22 : decode cX2_mayIssueFor 22 = .ok (.istore 5, 2) := by decide +kernel
theorem dX2_mayIssueFor_24 : decode cX2_mayIssueFor 24 = .ok (.iload_n 3, 1) := by decide +kernel
theorem dX2_mayIssueFor_25 : decode cX2_mayIssueFor 25 = .ok (.iload 4, 2) := by decide +kernel
theorem dX2_mayIssueFor_27 : decode cX2_mayIssueFor 27 = .ok (.invokestatic 145, 3) := by decide +kernel
theorem dX2_mayIssueFor_30 : decode cX2_mayIssueFor 30 = .ok (.ifCond .eq 19, 3) := by decide +kernel
theorem dX2_mayIssueFor_33 : decode cX2_mayIssueFor 33 = .ok (.iload 5, 2) := by decide +kernel
theorem dX2_mayIssueFor_35 : decode cX2_mayIssueFor 35 = .ok (.ifCond .eq 14, 3) := by decide +kernel
theorem dX2_mayIssueFor_38 : decode cX2_mayIssueFor 38 = .ok (.iload 5, 2) := by decide +kernel
theorem dX2_mayIssueFor_40 : decode cX2_mayIssueFor 40 = .ok (.iload_n 1, 1) := by decide +kernel
theorem dX2_mayIssueFor_41 : decode cX2_mayIssueFor 41 = .ok (.invokestatic 145, 3) := by decide +kernel
theorem dX2_mayIssueFor_44 : decode cX2_mayIssueFor 44 = .ok (.ifCond .ne 5, 3) := by decide +kernel
theorem dX2_mayIssueFor_47 : decode cX2_mayIssueFor 47 = .ok (.iconst 0, 1) := by decide +kernel
theorem dX2_mayIssueFor_48 : decode cX2_mayIssueFor 48 = .ok (.ireturn, 1) := by decide +kernel
theorem dX2_mayIssueFor_49 : decode cX2_mayIssueFor 49 = .ok (.iinc 4 1, 3) := by decide +kernel
theorem dX2_mayIssueFor_52 : decode cX2_mayIssueFor 52 = .ok (.goto (-44), 3) := by decide +kernel
theorem dX2_mayIssueFor_55 : decode cX2_mayIssueFor 55 = .ok (.iconst 1, 1) := by decide +kernel
theorem dX2_mayIssueFor_56 : decode cX2_mayIssueFor 56 = .ok (.ireturn, 1) := by decide +kernel
set_option maxRecDepth 20000 in
theorem ggX2_roomThisWeek_X2_weekOf : GoodIn wsX2_roomThisWeek wsX2_weekOf := goodIn_r _ [8] (by decide +kernel) (by decide +kernel)
set_option maxRecDepth 20000 in
theorem gX2_roomThisWeek_X2_weekOf : GoodIn wsX2_roomThisWeek (va_wsS RX2 180 yX2_weekOf wsX2_weekOf) := goodIn_app (goodIn_of _ (by decide +kernel)) ggX2_roomThisWeek_X2_weekOf
set_option maxRecDepth 20000 in
theorem ggX2_roomThisWeek_X0_issuedInWeek : GoodIn wsX2_roomThisWeek wsX0_issuedInWeek := goodIn_r _ [13, 14, 15, 16, 6, 7, 8, 31, 32, 33, 34, 35, 36, 37, 38] (by decide +kernel) (by decide +kernel)
set_option maxRecDepth 20000 in
theorem gX2_roomThisWeek_X0_issuedInWeek : GoodIn wsX2_roomThisWeek (wsV RX2 183 RX0 yX0_issuedInWeek wsX0_issuedInWeek) := goodIn_app (goodIn_of _ (by decide +kernel)) ggX2_roomThisWeek_X0_issuedInWeek
theorem dX2_roomThisWeek_0 : decode cX2_roomThisWeek 0 = .ok (.aload_n 0, 1) := by decide +kernel
theorem dX2_roomThisWeek_1 : decode cX2_roomThisWeek 1 = .ok (.getfield 10, 3) := by decide +kernel
theorem dX2_roomThisWeek_4 : decode cX2_roomThisWeek 4 = .ok (.getfield 177, 3) := by decide +kernel
theorem dX2_roomThisWeek_7 : decode cX2_roomThisWeek 7 = .ok (.iload_n 1, 1) := by decide +kernel
theorem dX2_roomThisWeek_8 : decode cX2_roomThisWeek 8 = .ok (.iaload, 1) := by decide +kernel
theorem dX2_roomThisWeek_9 : decode cX2_roomThisWeek 9 = .ok (.aload_n 0, 1) := by decide +kernel
theorem dX2_roomThisWeek_10 : decode cX2_roomThisWeek 10 = .ok (.getfield 19, 3) := by decide +kernel
theorem dX2_roomThisWeek_13 : decode cX2_roomThisWeek 13 = .ok (.iload_n 1, 1) := by decide +kernel
theorem dX2_roomThisWeek_14 : decode cX2_roomThisWeek 14 = .ok (.aload_n 0, 1) := by decide +kernel
theorem dX2_roomThisWeek_15 : decode cX2_roomThisWeek 15 = .ok (.getfield 31, 3) := by decide +kernel
theorem dX2_roomThisWeek_18 : decode cX2_roomThisWeek 18 = .ok (.invokestatic 180, 3) := by decide +kernel
theorem dX2_roomThisWeek_21 : decode cX2_roomThisWeek 21 = .ok (.invokevirtual 183, 3) := by decide +kernel
theorem dX2_roomThisWeek_24 : decode cX2_roomThisWeek 24 = .ok (.isub, 1) := by decide +kernel
theorem dX2_roomThisWeek_25 : decode cX2_roomThisWeek 25 = .ok (.ireturn, 1) := by decide +kernel
set_option maxRecDepth 20000 in
theorem ggX2_makeCertificate_X2_drawOffset : GoodIn wsX2_makeCertificate wsX2_drawOffset := goodIn_r _ [7, 8, 9, 22, 23, 24, 25, 26] (by decide +kernel) (by decide +kernel)
set_option maxRecDepth 20000 in
theorem gX2_makeCertificate_X2_drawOffset : GoodIn wsX2_makeCertificate (wsV RX2 186 RX2 yX2_drawOffset wsX2_drawOffset) := goodIn_app (goodIn_of _ (by decide +kernel)) ggX2_makeCertificate_X2_drawOffset
set_option maxRecDepth 20000 in
theorem ggX2_makeCertificate_X0_append : GoodIn wsX2_makeCertificate wsX0_append := goodIn_r _ [14, 15, 16, 17, 18, 19, 20, 21, 27, 28, 29, 30, 31, 32, 33, 34] (by decide +kernel) (by decide +kernel)
set_option maxRecDepth 20000 in
theorem gX2_makeCertificate_X0_append : GoodIn wsX2_makeCertificate (wsV RX2 189 RX0 yX0_append wsX0_append) := goodIn_app (goodIn_of _ (by decide +kernel)) ggX2_makeCertificate_X0_append
theorem dX2_makeCertificate_0 : decode cX2_makeCertificate 0 = .ok (.aload_n 0, 1) := by decide +kernel
theorem dX2_makeCertificate_1 : decode cX2_makeCertificate 1 = .ok (.getfield 19, 3) := by decide +kernel
theorem dX2_makeCertificate_4 : decode cX2_makeCertificate 4 = .ok (.iload_n 1, 1) := by decide +kernel
theorem dX2_makeCertificate_5 : decode cX2_makeCertificate 5 = .ok (.iload_n 2, 1) := by decide +kernel
theorem dX2_makeCertificate_6 : decode cX2_makeCertificate 6 = .ok (.aload_n 0, 1) := by decide +kernel
theorem dX2_makeCertificate_7 : decode cX2_makeCertificate 7 = .ok (.getfield 31, 3) := by decide +kernel
theorem dX2_makeCertificate_10 : decode cX2_makeCertificate 10 = .ok (.iload_n 3, 1) := by decide +kernel
theorem dX2_makeCertificate_11 : decode cX2_makeCertificate 11 = .ok (.aload_n 0, 1) := by decide +kernel
theorem dX2_makeCertificate_12 : decode cX2_makeCertificate 12 = .ok (.iload_n 3, 1) := by decide +kernel
theorem dX2_makeCertificate_13 : decode cX2_makeCertificate 13 = .ok (.invokevirtual 186, 3) := by decide +kernel
theorem dX2_makeCertificate_16 : decode cX2_makeCertificate 16 = .ok (.invokevirtual 189, 3) := by decide +kernel
theorem dX2_makeCertificate_19 : decode cX2_makeCertificate 19 = .ok (.ireturn, 1) := by decide +kernel
theorem dX2_drawOffset_0 : decode cX2_drawOffset 0 = .ok (.aload_n 0, 1) := by decide +kernel
theorem dX2_drawOffset_1 : decode cX2_drawOffset 1 = .ok (.aload_n 0, 1) := by decide +kernel
theorem dX2_drawOffset_2 : decode cX2_drawOffset 2 = .ok (.getfield 27, 3) := by decide +kernel
theorem dX2_drawOffset_5 : decode cX2_drawOffset 5 = .ok (.ldc 192, 2) := by decide +kernel
theorem dX2_drawOffset_7 : decode cX2_drawOffset 7 = .ok (.imul, 1) := by decide +kernel
theorem dX2_drawOffset_8 : decode cX2_drawOffset 8 = .ok (.sipush 12345, 3) := by decide +kernel
theorem dX2_drawOffset_11 : decode cX2_drawOffset 11 = .ok (.iadd, 1) := by decide +kernel
theorem dX2_drawOffset_12 : decode cX2_drawOffset 12 = .ok (.putfield 27, 3) := by decide +kernel
theorem dX2_drawOffset_15 : decode cX2_drawOffset 15 = .ok (.aload_n 0, 1) := by decide +kernel
theorem dX2_drawOffset_16 : decode cX2_drawOffset 16 = .ok (.getfield 27, 3) := by decide +kernel
theorem dX2_drawOffset_19 : decode cX2_drawOffset 19 = .ok (.bipush 16, 2) := by decide +kernel
theorem dX2_drawOffset_21 : decode cX2_drawOffset 21 = .ok (.iushr, 1) := by decide +kernel
theorem dX2_drawOffset_22 : decode cX2_drawOffset 22 = .ok (.iload_n 1, 1) := by decide +kernel
theorem dX2_drawOffset_23 : decode cX2_drawOffset 23 = .ok (.bipush 6, 2) := by decide +kernel
theorem dX2_drawOffset_25 : decode cX2_drawOffset 25 = .ok (.idiv, 1) := by decide +kernel
theorem dX2_drawOffset_26 : decode cX2_drawOffset 26 = .ok (.iconst 1, 1) := by decide +kernel
theorem dX2_drawOffset_27 : decode cX2_drawOffset 27 = .ok (.iadd, 1) := by decide +kernel
theorem dX2_drawOffset_28 : decode cX2_drawOffset 28 = .ok (.irem, 1) := by decide +kernel
theorem dX2_drawOffset_29 : decode cX2_drawOffset 29 = .ok (.ireturn, 1) := by decide +kernel
set_option maxRecDepth 20000 in
theorem ggX2_renewDueCertificates_X0_fillQueue : GoodIn wsX2_renewDueCertificates wsX0_fillQueue := goodIn_r _ [12, 13, 14, 15, 16, 11, 17, 18, 19, 20, 21, 22, 23, 24, 25, 26, 27, 28, 29, 30, 31, 32, 33, 34, 112, 113, 114, 115, 116, 117, 118, 119] (by decide +kernel) (by decide +kernel)
set_option maxRecDepth 20000 in
theorem gX2_renewDueCertificates_X0_fillQueue : GoodIn wsX2_renewDueCertificates (wsV RX2 127 RX0 yX0_fillQueue wsX0_fillQueue) := goodIn_app (goodIn_of _ (by decide +kernel)) ggX2_renewDueCertificates_X0_fillQueue
set_option maxRecDepth 20000 in
theorem ggX2_renewDueCertificates_X2_canIssue : GoodIn wsX2_renewDueCertificates wsX2_canIssue := goodIn_r _ [39, 1, 40, 2, 41, 42, 43, 11, 44, 13, 45, 46, 47, 38, 48, 49, 50, 51, 52, 53, 54, 55, 56, 57, 23, 58, 59, 60, 61, 62, 63, 64, 65, 66, 67, 68, 69, 70, 71, 72, 73, 74, 75, 76, 77, 78, 79, 80, 81, 82, 83, 84, 85, 86, 87, 88, 89, 90, 91, 107, 108, 109, 110, 111, 112, 113, 114, 115, 116, 117, 118, 119, 120, 121, 122, 123, 124, 125, 126, 127, 128] (by decide +kernel) (by decide +kernel)
set_option maxRecDepth 20000 in
theorem gX2_renewDueCertificates_X2_canIssue : GoodIn wsX2_renewDueCertificates (wsV RX2 90 RX2 yX2_canIssue wsX2_canIssue) := goodIn_app (goodIn_of _ (by decide +kernel)) ggX2_renewDueCertificates_X2_canIssue
set_option maxRecDepth 20000 in
theorem ggX2_renewDueCertificates_X2_makeCertificate : GoodIn wsX2_renewDueCertificates wsX2_makeCertificate := goodIn_r _ [95, 1, 2, 96, 97, 98, 38, 99, 100, 101, 102, 103, 104, 11, 105, 13, 57, 106, 23, 24, 25, 18, 107, 108, 109, 110, 111, 112, 113, 114, 115, 116, 117, 118, 119] (by decide +kernel) (by decide +kernel)
set_option maxRecDepth 20000 in
theorem gX2_renewDueCertificates_X2_makeCertificate : GoodIn wsX2_renewDueCertificates (wsV RX2 95 RX2 yX2_makeCertificate wsX2_makeCertificate) := goodIn_app (goodIn_of _ (by decide +kernel)) ggX2_renewDueCertificates_X2_makeCertificate
theorem dX2_renewDueCertificates_0 : decode cX2_renewDueCertificates 0 = .ok (.aload_n 0, 1) := by decide +kernel
theorem dX2_renewDueCertificates_1 : decode cX2_renewDueCertificates 1 = .ok (.getfield 19, 3) := by decide +kernel
theorem dX2_renewDueCertificates_4 : decode cX2_renewDueCertificates 4 = .ok (.aload_n 0, 1) := by decide +kernel
theorem dX2_renewDueCertificates_5 : decode cX2_renewDueCertificates 5 = .ok (.getfield 31, 3) := by decide +kernel
theorem dX2_renewDueCertificates_8 : decode cX2_renewDueCertificates 8 = .ok (.invokevirtual 127, 3) := by decide +kernel
theorem dX2_renewDueCertificates_11 : decode cX2_renewDueCertificates 11 = .ok (.istore_n 1, 1) := by decide +kernel
theorem dX2_renewDueCertificates_12 : decode cX2_renewDueCertificates 12 = .ok (.iconst 0, 1) := by decide +kernel
theorem dX2_renewDueCertificates_13 : decode cX2_renewDueCertificates 13 = .ok (.istore_n 2, 1) := by decide +kernel
theorem dX2_renewDueCertificates_14 : decode cX2_renewDueCertificates 14 = .ok (.iconst 0, 1) := by decide +kernel
theorem dX2_renewDueCertificates_15 : decode cX2_renewDueCertificates 15 = .ok (.istore_n 3, 1) := by decide +kernel
theorem dX2_renewDueCertificates_16 : decode cX2_renewDueCertificates 16 = .ok (.iload_n 3, 1) := by decide +kernel
theorem dX2_renewDueCertificates_17 : decode cX2_renewDueCertificates 17 = .ok (.iload_n 1, 1) := by decide +kernel
theorem dX2_renewDueCertificates_18 : decode cX2_renewDueCertificates 18 = .ok (.if_icmp .ge 86, 3) := by decide +kernel
theorem dX2_renewDueCertificates_21 : decode cX2_renewDueCertificates 21 = .ok (.aload_n 0, 1) := by decide +kernel
theorem dX2_renewDueCertificates_22 : decode cX2_renewDueCertificates 22 = .ok (.getfield 19, 3) := by decide +kernel
theorem dX2_renewDueCertificates_25 : decode cX2_renewDueCertificates 25 = .ok (.getfield 135, 3) := by decide +kernel
theorem dX2_renewDueCertificates_28 : decode cX2_renewDueCertificates 28 = .ok (.iload_n 3, 1) := by decide +kernel
theorem dX2_renewDueCertificates_29 : decode cX2_renewDueCertificates 29 = .ok (.iaload, 1) := by decide +kernel
theorem dX2_renewDueCertificates_30 : decode cX2_renewDueCertificates 30 = .ok (.istore 4, 2) := by decide +kernel
theorem dX2_renewDueCertificates_32 : decode cX2_renewDueCertificates 32 = .ok (.aload_n 0, 1) := by decide +kernel
theorem dX2_renewDueCertificates_33 : decode cX2_renewDueCertificates 33 = .ok (.getfield 19, 3) := by decide +kernel
theorem dX2_renewDueCertificates_36 : decode cX2_renewDueCertificates 36 = .ok (.getfield 114, 3) := by decide +kernel
theorem dX2_renewDueCertificates_39 : decode cX2_renewDueCertificates 39 = .ok (.iload 4, 2) := by decide +kernel
theorem dX2_renewDueCertificates_41 : decode cX2_renewDueCertificates 41 = .ok (.iaload, 1) := by decide +kernel
theorem dX2_renewDueCertificates_42 : decode cX2_renewDueCertificates 42 = .ok (.istore 5, 2) := by decide +kernel
theorem dX2_renewDueCertificates_44 : decode cX2_renewDueCertificates 44 = .ok (.aload_n 0, 1) := by decide +kernel
theorem dX2_renewDueCertificates_45 : decode cX2_renewDueCertificates 45 = .ok (.getfield 19, 3) := by decide +kernel
theorem dX2_renewDueCertificates_48 : decode cX2_renewDueCertificates 48 = .ok (.getfield 193, 3) := by decide +kernel
theorem dX2_renewDueCertificates_51 : decode cX2_renewDueCertificates 51 = .ok (.iload 4, 2) := by decide +kernel
theorem dX2_renewDueCertificates_53 : decode cX2_renewDueCertificates 53 = .ok (.iaload, 1) := by decide +kernel
theorem dX2_renewDueCertificates_54 : decode cX2_renewDueCertificates 54 = .ok (.istore 6, 2) := by decide +kernel
theorem dX2_renewDueCertificates_56 : decode cX2_renewDueCertificates 56 = .ok (.aload_n 0, 1) := by decide +kernel
theorem dX2_renewDueCertificates_57 : decode cX2_renewDueCertificates 57 = .ok (.iload 5, 2) := by decide +kernel
theorem dX2_renewDueCertificates_59 : decode cX2_renewDueCertificates 59 = .ok (.iload 6, 2) := by decide +kernel
theorem dX2_renewDueCertificates_61 : decode cX2_renewDueCertificates 61 = .ok (.invokevirtual 90, 3) := by decide +kernel
theorem dX2_renewDueCertificates_64 : decode cX2_renewDueCertificates 64 = .ok (.ifCond .eq 34, 3) := by decide +kernel
theorem dX2_renewDueCertificates_67 : decode cX2_renewDueCertificates 67 = .ok (.aload_n 0, 1) := by decide +kernel
theorem dX2_renewDueCertificates_68 : decode cX2_renewDueCertificates 68 = .ok (.getfield 19, 3) := by decide +kernel
theorem dX2_renewDueCertificates_71 : decode cX2_renewDueCertificates 71 = .ok (.getfield 124, 3) := by decide +kernel
theorem dX2_renewDueCertificates_74 : decode cX2_renewDueCertificates 74 = .ok (.iload 4, 2) := by decide +kernel
theorem dX2_renewDueCertificates_76 : decode cX2_renewDueCertificates 76 = .ok (.aload_n 0, 1) := by decide +kernel
theorem dX2_renewDueCertificates_77 : decode cX2_renewDueCertificates 77 = .ok (.iload 5, 2) := by decide +kernel
theorem dX2_renewDueCertificates_79 : decode cX2_renewDueCertificates 79 = .ok (.iload 6, 2) := by decide +kernel
theorem dX2_renewDueCertificates_81 : decode cX2_renewDueCertificates 81 = .ok (.aload_n 0, 1) := by decide +kernel
theorem dX2_renewDueCertificates_82 : decode cX2_renewDueCertificates 82 = .ok (.getfield 19, 3) := by decide +kernel
theorem dX2_renewDueCertificates_85 : decode cX2_renewDueCertificates 85 = .ok (.getfield 196, 3) := by decide +kernel
theorem dX2_renewDueCertificates_88 : decode cX2_renewDueCertificates 88 = .ok (.iload 4, 2) := by decide +kernel
theorem dX2_renewDueCertificates_90 : decode cX2_renewDueCertificates 90 = .ok (.iaload, 1) := by decide +kernel
theorem dX2_renewDueCertificates_91 : decode cX2_renewDueCertificates 91 = .ok (.invokevirtual 95, 3) := by decide +kernel
theorem dX2_renewDueCertificates_94 : decode cX2_renewDueCertificates 94 = .ok (.iastore, 1) := by decide +kernel
theorem dX2_renewDueCertificates_95 : decode cX2_renewDueCertificates 95 = .ok (.iinc 2 1, 3) := by decide +kernel
theorem dX2_renewDueCertificates_98 : decode cX2_renewDueCertificates 98 = .ok (.iinc 3 1, 3) := by decide +kernel
theorem dX2_renewDueCertificates_101 : decode cX2_renewDueCertificates 101 = .ok (.goto (-85), 3) := by decide +kernel
theorem dX2_renewDueCertificates_104 : decode cX2_renewDueCertificates 104 = .ok (.iload_n 2, 1) := by decide +kernel
theorem dX2_renewDueCertificates_105 : decode cX2_renewDueCertificates 105 = .ok (.ireturn, 1) := by decide +kernel
set_option maxRecDepth 20000 in
theorem ggX2_namesCovered_X1_goodOn : GoodIn wsX2_namesCovered wsX1_goodOn := goodIn_r _ [7, 8, 9, 10, 11, 6, 12, 13, 14, 15, 16, 17, 18, 19, 20, 21, 22, 23, 24, 25, 26, 27, 28, 50, 51, 52, 53, 54, 55, 56, 57, 58] (by decide +kernel) (by decide +kernel)
set_option maxRecDepth 20000 in
theorem gX2_namesCovered_X1_goodOn : GoodIn wsX2_namesCovered (wsV RX2 141 RX1 yX1_goodOn wsX1_goodOn) := goodIn_app (goodIn_of _ (by decide +kernel)) ggX2_namesCovered_X1_goodOn
set_option maxRecDepth 20000 in
theorem ggX2_namesCovered_X0_namesHeld : GoodIn wsX2_namesCovered wsX0_namesHeld := goodIn_r _ [33, 34, 35, 36, 37, 38, 39, 40, 32, 41, 42, 26, 27, 28, 43, 44, 59, 60, 61, 62, 63, 64, 65, 66] (by decide +kernel) (by decide +kernel)
set_option maxRecDepth 20000 in
theorem gX2_namesCovered_X0_namesHeld : GoodIn wsX2_namesCovered (wsV RX2 199 RX0 yX0_namesHeld wsX0_namesHeld) := goodIn_app (goodIn_of _ (by decide +kernel)) ggX2_namesCovered_X0_namesHeld
theorem dX2_namesCovered_0 : decode cX2_namesCovered 0 = .ok (.aload_n 0, 1) := by decide +kernel
theorem dX2_namesCovered_1 : decode cX2_namesCovered 1 = .ok (.getfield 19, 3) := by decide +kernel
theorem dX2_namesCovered_4 : decode cX2_namesCovered 4 = .ok (.iload_n 1, 1) := by decide +kernel
theorem dX2_namesCovered_5 : decode cX2_namesCovered 5 = .ok (.aload_n 0, 1) := by decide +kernel
theorem dX2_namesCovered_6 : decode cX2_namesCovered 6 = .ok (.getfield 10, 3) := by decide +kernel
theorem dX2_namesCovered_9 : decode cX2_namesCovered 9 = .ok (.iload_n 1, 1) := by decide +kernel
theorem dX2_namesCovered_10 : decode cX2_namesCovered 10 = .ok (.iload_n 2, 1) := by decide +kernel
theorem dX2_namesCovered_11 : decode cX2_namesCovered 11 = .ok (.invokevirtual 141, 3) := by decide +kernel
theorem dX2_namesCovered_14 : decode cX2_namesCovered 14 = .ok (.invokevirtual 199, 3) := by decide +kernel
theorem dX2_namesCovered_17 : decode cX2_namesCovered 17 = .ok (.ireturn, 1) := by decide +kernel
set_option maxRecDepth 20000 in
theorem ggX2_namesLostWithout_X2_namesCovered : GoodIn wsX2_namesLostWithout wsX2_namesCovered := goodIn_r _ [5, 6, 7, 8, 9, 10, 11, 12, 13, 14, 15, 16, 17, 18, 19, 20, 21, 22, 23, 24, 25, 26, 27, 28, 29, 30, 31, 4, 32, 33, 34, 35, 36, 37, 38, 39, 40, 41, 42, 43, 44, 45, 46, 47, 48, 49, 50, 51, 52, 53, 54, 55, 56, 57, 58, 59, 60, 61, 62, 63, 64, 65, 66, 67, 68, 69, 70] (by decide +kernel) (by decide +kernel)
set_option maxRecDepth 20000 in
theorem gX2_namesLostWithout_X2_namesCovered : GoodIn wsX2_namesLostWithout (wsV RX2 151 RX2 yX2_namesCovered wsX2_namesCovered) := goodIn_app (goodIn_of _ (by decide +kernel)) ggX2_namesLostWithout_X2_namesCovered
theorem dX2_namesLostWithout_0 : decode cX2_namesLostWithout 0 = .ok (.aload_n 0, 1) := by decide +kernel
theorem dX2_namesLostWithout_1 : decode cX2_namesLostWithout 1 = .ok (.iload_n 2, 1) := by decide +kernel
theorem dX2_namesLostWithout_2 : decode cX2_namesLostWithout 2 = .ok (.iconst (-1), 1) := by decide +kernel
theorem dX2_namesLostWithout_3 : decode cX2_namesLostWithout 3 = .ok (.invokevirtual 151, 3) := by decide +kernel
theorem dX2_namesLostWithout_6 : decode cX2_namesLostWithout 6 = .ok (.aload_n 0, 1) := by decide +kernel
theorem dX2_namesLostWithout_7 : decode cX2_namesLostWithout 7 = .ok (.iload_n 2, 1) := by decide +kernel
theorem dX2_namesLostWithout_8 : decode cX2_namesLostWithout 8 = .ok (.iload_n 1, 1) := by decide +kernel
theorem dX2_namesLostWithout_9 : decode cX2_namesLostWithout 9 = .ok (.invokevirtual 151, 3) := by decide +kernel
theorem dX2_namesLostWithout_12 : decode cX2_namesLostWithout 12 = .ok (.iconst (-1), 1) := by decide +kernel
theorem dX2_namesLostWithout_13 : decode cX2_namesLostWithout 13 = .ok (.ixor, 1) := by decide +kernel
theorem dX2_namesLostWithout_14 : decode cX2_namesLostWithout 14 = .ok (.iand, 1) := by decide +kernel
theorem dX2_namesLostWithout_15 : decode cX2_namesLostWithout 15 = .ok (.ireturn, 1) := by decide +kernel
theorem dX2_namesOf_0 : decode cX2_namesOf 0 = .ok (.iload_n 0, 1) := by decide +kernel
theorem dX2_namesOf_1 : decode cX2_namesOf 1 = .ok (.bipush 16, 2) := by decide +kernel
theorem dX2_namesOf_3 : decode cX2_namesOf 3 = .ok (.if_icmp .ge 7, 3) := by decide +kernel
theorem dX2_namesOf_6 : decode cX2_namesOf 6 = .ok (.iconst 1, 1) := by decide +kernel
theorem dX2_namesOf_7 : decode cX2_namesOf 7 = .ok (.iload_n 0, 1) := by decide +kernel
theorem dX2_namesOf_8 : decode cX2_namesOf 8 = .ok (.ishl, 1) := by decide +kernel
theorem dX2_namesOf_9 : decode cX2_namesOf 9 = .ok (.ireturn, 1) := by decide +kernel
theorem dX2_namesOf_10 : decode cX2_namesOf 10 = .ok (.bipush 15, 2) := by decide +kernel
theorem dX2_namesOf_12 : decode cX2_namesOf 12 = .ok (.iload_n 0, 1) := by decide +kernel
theorem dX2_namesOf_13 : decode cX2_namesOf 13 = .ok (.bipush 16, 2) := by decide +kernel
theorem dX2_namesOf_15 : decode cX2_namesOf 15 = .ok (.isub, 1) := by decide +kernel
theorem dX2_namesOf_16 : decode cX2_namesOf 16 = .ok (.iconst 4, 1) := by decide +kernel
theorem dX2_namesOf_17 : decode cX2_namesOf 17 = .ok (.imul, 1) := by decide +kernel
theorem dX2_namesOf_18 : decode cX2_namesOf 18 = .ok (.ishl, 1) := by decide +kernel
theorem dX2_namesOf_19 : decode cX2_namesOf 19 = .ok (.ireturn, 1) := by decide +kernel
theorem dX2_contains_0 : decode cX2_contains 0 = .ok (.iload_n 0, 1) := by decide +kernel
theorem dX2_contains_1 : decode cX2_contains 1 = .ok (.iload_n 1, 1) := by decide +kernel
theorem dX2_contains_2 : decode cX2_contains 2 = .ok (.ishr, 1) := by decide +kernel
theorem dX2_contains_3 : decode cX2_contains 3 = .ok (.iconst 1, 1) := by decide +kernel
theorem dX2_contains_4 : decode cX2_contains 4 = .ok (.iand, 1) := by decide +kernel
theorem dX2_contains_5 : decode cX2_contains 5 = .ok (.ifCond .eq 7, 3) := by decide +kernel
theorem dX2_contains_8 : decode cX2_contains 8 = .ok (.iconst 1, 1) := by decide +kernel
theorem dX2_contains_9 : decode cX2_contains 9 = .ok (.goto 4, 3) := by decide +kernel
theorem dX2_contains_12 : decode cX2_contains 12 = .ok (.iconst 0, 1) := by decide +kernel
theorem dX2_contains_13 : decode cX2_contains 13 = .ok (.ireturn, 1) := by decide +kernel
theorem dX2_weekOf_0 : decode cX2_weekOf 0 = .ok (.iload_n 0, 1) := by decide +kernel
theorem dX2_weekOf_1 : decode cX2_weekOf 1 = .ok (.bipush 7, 2) := by decide +kernel
theorem dX2_weekOf_3 : decode cX2_weekOf 3 = .ok (.idiv, 1) := by decide +kernel
theorem dX2_weekOf_4 : decode cX2_weekOf 4 = .ok (.ireturn, 1) := by decide +kernel
end
section
theorem dX3_init_0 : decode cX3_init 0 = .ok (.aload_n 0, 1) := by decide +kernel
theorem dX3_init_1 : decode cX3_init 1 = .ok (.invokespecial 1, 3) := by decide +kernel
theorem dX3_init_4 : decode cX3_init 4 = .ok (.aload_n 0, 1) := by decide +kernel
theorem dX3_init_5 : decode cX3_init 5 = .ok (.iconst 1, 1) := by decide +kernel
theorem dX3_init_6 : decode cX3_init 6 = .ok (.putfield 7, 3) := by decide +kernel
theorem dX3_init_9 : decode cX3_init 9 = .ok (.aload_n 0, 1) := by decide +kernel
theorem dX3_init_10 : decode cX3_init 10 = .ok (.bipush 8, 2) := by decide +kernel
theorem dX3_init_12 : decode cX3_init 12 = .ok (.newarray .int, 2) := by decide +kernel
theorem dX3_init_14 : decode cX3_init 14 = .ok (.putfield 13, 3) := by decide +kernel
theorem dX3_init_17 : decode cX3_init 17 = .ok (.aload_n 0, 1) := by decide +kernel
theorem dX3_init_18 : decode cX3_init 18 = .ok (.bipush 8, 2) := by decide +kernel
theorem dX3_init_20 : decode cX3_init 20 = .ok (.newarray .int, 2) := by decide +kernel
theorem dX3_init_22 : decode cX3_init 22 = .ok (.putfield 17, 3) := by decide +kernel
theorem dX3_init_25 : decode cX3_init 25 = .ok (.aload_n 0, 1) := by decide +kernel
theorem dX3_init_26 : decode cX3_init 26 = .ok (.bipush 8, 2) := by decide +kernel
theorem dX3_init_28 : decode cX3_init 28 = .ok (.newarray .int, 2) := by decide +kernel
theorem dX3_init_30 : decode cX3_init 30 = .ok (.putfield 20, 3) := by decide +kernel
theorem dX3_init_33 : decode cX3_init 33 = .ok (.aload_n 0, 1) := by decide +kernel
theorem dX3_init_34 : decode cX3_init 34 = .ok (.bipush 8, 2) := by decide +kernel
theorem dX3_init_36 : decode cX3_init 36 = .ok (.newarray .int, 2) := by decide +kernel
theorem dX3_init_38 : decode cX3_init 38 = .ok (.putfield 23, 3) := by decide +kernel
theorem dX3_init_41 : decode cX3_init 41 = .ok (.aload_n 0, 1) := by decide +kernel
theorem dX3_init_42 : decode cX3_init 42 = .ok (.bipush 8, 2) := by decide +kernel
theorem dX3_init_44 : decode cX3_init 44 = .ok (.newarray .int, 2) := by decide +kernel
theorem dX3_init_46 : decode cX3_init 46 = .ok (.putfield 26, 3) := by decide +kernel
theorem dX3_init_49 : decode cX3_init 49 = .ok (.aload_n 0, 1) := by decide +kernel
theorem dX3_init_50 : decode cX3_init 50 = .ok (.bipush 8, 2) := by decide +kernel
theorem dX3_init_52 : decode cX3_init 52 = .ok (.newarray .int, 2) := by decide +kernel
theorem dX3_init_54 : decode cX3_init 54 = .ok (.putfield 29, 3) := by decide +kernel
theorem dX3_init_57 : decode cX3_init 57 = .ok (.aload_n 0, 1) := by decide +kernel
theorem dX3_init_58 : decode cX3_init 58 = .ok (.bipush 16, 2) := by decide +kernel
theorem dX3_init_60 : decode cX3_init 60 = .ok (.newarray .int, 2) := by decide +kernel
theorem dX3_init_62 : decode cX3_init 62 = .ok (.putfield 32, 3) := by decide +kernel
theorem dX3_init_65 : decode cX3_init 65 = .ok (.aload_n 0, 1) := by decide +kernel
theorem dX3_init_66 : decode cX3_init 66 = .ok (.bipush 8, 2) := by decide +kernel
theorem dX3_init_68 : decode cX3_init 68 = .ok (.newarray .boolean, 2) := by decide +kernel
theorem dX3_init_70 : decode cX3_init 70 = .ok (.putfield 35, 3) := by decide +kernel
theorem dX3_init_73 : decode cX3_init 73 = .ok (.aload_n 0, 1) := by decide +kernel
theorem dX3_init_74 : decode cX3_init 74 = .ok (.bipush 8, 2) := by decide +kernel
theorem dX3_init_76 : decode cX3_init 76 = .ok (.newarray .int, 2) := by decide +kernel
theorem dX3_init_78 : decode cX3_init 78 = .ok (.putfield 39, 3) := by decide +kernel
theorem dX3_init_81 : decode cX3_init 81 = .ok (.aload_n 0, 1) := by decide +kernel
theorem dX3_init_82 : decode cX3_init 82 = .ok (.bipush 8, 2) := by decide +kernel
theorem dX3_init_84 : decode cX3_init 84 = .ok (.newarray .int, 2) := by decide +kernel
theorem dX3_init_86 : decode cX3_init 86 = .ok (.putfield 42, 3) := by decide +kernel
theorem dX3_init_89 : decode cX3_init 89 = .ok (.aload_n 0, 1) := by decide +kernel
theorem dX3_init_90 : decode cX3_init 90 = .ok (.bipush 60, 2) := by decide +kernel
theorem dX3_init_92 : decode cX3_init 92 = .ok (.newarray .int, 2) := by decide +kernel
theorem dX3_init_94 : decode cX3_init 94 = .ok (.putfield 45, 3) := by decide +kernel
theorem dX3_init_97 : decode cX3_init 97 = .ok (.aload_n 0, 1) := by decide +kernel
theorem dX3_init_98 : decode cX3_init 98 = .ok (.bipush 60, 2) := by decide +kernel
theorem dX3_init_100 : decode cX3_init 100 = .ok (.newarray .int, 2) := by decide +kernel
theorem dX3_init_102 : decode cX3_init 102 = .ok (.putfield 48, 3) := by decide +kernel
theorem dX3_init_105 : decode cX3_init 105 = .ok (.aload_n 0, 1) := by decide +kernel
theorem dX3_init_106 : decode cX3_init 106 = .ok (.bipush 60, 2) := by decide +kernel
theorem dX3_init_108 : decode cX3_init 108 = .ok (.newarray .int, 2) := by decide +kernel
theorem dX3_init_110 : decode cX3_init 110 = .ok (.putfield 51, 3) := by decide +kernel
theorem dX3_init_113 : decode cX3_init 113 = .ok (.aload_n 0, 1) := by decide +kernel
theorem dX3_init_114 : decode cX3_init 114 = .ok (.bipush 60, 2) := by decide +kernel
theorem dX3_init_116 : decode cX3_init 116 = .ok (.newarray .int, 2) := by decide +kernel
theorem dX3_init_118 : decode cX3_init 118 = .ok (.putfield 54, 3) := by decide +kernel
theorem dX3_init_121 : decode cX3_init 121 = .ok (.aload_n 0, 1) := by decide +kernel
theorem dX3_init_122 : decode cX3_init 122 = .ok (.bipush 60, 2) := by decide +kernel
theorem dX3_init_124 : decode cX3_init 124 = .ok (.newarray .int, 2) := by decide +kernel
theorem dX3_init_126 : decode cX3_init 126 = .ok (.putfield 57, 3) := by decide +kernel
theorem dX3_init_129 : decode cX3_init 129 = .ok (.aload_n 0, 1) := by decide +kernel
theorem dX3_init_130 : decode cX3_init 130 = .ok (.bipush 60, 2) := by decide +kernel
theorem dX3_init_132 : decode cX3_init 132 = .ok (.newarray .int, 2) := by decide +kernel
theorem dX3_init_134 : decode cX3_init 134 = .ok (.putfield 60, 3) := by decide +kernel
theorem dX3_init_137 : decode cX3_init 137 = .ok (.aload_n 0, 1) := by decide +kernel
theorem dX3_init_138 : decode cX3_init 138 = .ok (.bipush 60, 2) := by decide +kernel
theorem dX3_init_140 : decode cX3_init 140 = .ok (.newarray .boolean, 2) := by decide +kernel
theorem dX3_init_142 : decode cX3_init 142 = .ok (.putfield 63, 3) := by decide +kernel
theorem dX3_init_145 : decode cX3_init 145 = .ok (.aload_n 0, 1) := by decide +kernel
theorem dX3_init_146 : decode cX3_init 146 = .ok (.iconst 0, 1) := by decide +kernel
theorem dX3_init_147 : decode cX3_init 147 = .ok (.putfield 66, 3) := by decide +kernel
theorem dX3_init_150 : decode cX3_init 150 = .ok (.return_, 1) := by decide +kernel
theorem dX3_thrown_0 : decode cX3_thrown 0 = .ok (.aload_n 0, 1) := by decide +kernel
theorem dX3_thrown_1 : decode cX3_thrown 1 = .ok (.getfield 66, 3) := by decide +kernel
theorem dX3_thrown_4 : decode cX3_thrown 4 = .ok (.ireturn, 1) := by decide +kernel
theorem dX3_fails_0 : decode cX3_fails 0 = .ok (.aload_n 0, 1) := by decide +kernel
theorem dX3_fails_1 : decode cX3_fails 1 = .ok (.iload_n 1, 1) := by decide +kernel
theorem dX3_fails_2 : decode cX3_fails 2 = .ok (.putfield 66, 3) := by decide +kernel
theorem dX3_fails_5 : decode cX3_fails 5 = .ok (.iconst 0, 1) := by decide +kernel
theorem dX3_fails_6 : decode cX3_fails 6 = .ok (.ireturn, 1) := by decide +kernel
theorem dX3_in_0 : decode cX3_in 0 = .ok (.iload_n 0, 1) := by decide +kernel
theorem dX3_in_1 : decode cX3_in 1 = .ok (.iload_n 1, 1) := by decide +kernel
theorem dX3_in_2 : decode cX3_in 2 = .ok (.if_icmp .lt 12, 3) := by decide +kernel
theorem dX3_in_5 : decode cX3_in 5 = .ok (.iload_n 0, 1) := by decide +kernel
theorem dX3_in_6 : decode cX3_in 6 = .ok (.iload_n 2, 1) := by decide +kernel
theorem dX3_in_7 : decode cX3_in 7 = .ok (.if_icmp .gt 7, 3) := by decide +kernel
theorem dX3_in_10 : decode cX3_in 10 = .ok (.iconst 1, 1) := by decide +kernel
theorem dX3_in_11 : decode cX3_in 11 = .ok (.goto 4, 3) := by decide +kernel
theorem dX3_in_14 : decode cX3_in 14 = .ok (.iconst 0, 1) := by decide +kernel
theorem dX3_in_15 : decode cX3_in 15 = .ok (.ireturn, 1) := by decide +kernel
set_option maxRecDepth 20000 in
theorem ggX3_isIssuer_X3_in : GoodIn wsX3_isIssuer wsX3_in := goodIn_r _ [5] (by decide +kernel) (by decide +kernel)
set_option maxRecDepth 20000 in
theorem gX3_isIssuer_X3_in : GoodIn wsX3_isIssuer (va_wsS RX3 72 yX3_in wsX3_in) := goodIn_app (goodIn_of _ (by decide +kernel)) ggX3_isIssuer_X3_in
theorem dX3_isIssuer_0 : decode cX3_isIssuer 0 = .ok (.iload_n 1, 1) := by decide +kernel
theorem dX3_isIssuer_1 : decode cX3_isIssuer 1 = .ok (.iconst 0, 1) := by decide +kernel
theorem dX3_isIssuer_2 : decode cX3_isIssuer 2 = .ok (.aload_n 0, 1) := by decide +kernel
theorem dX3_isIssuer_3 : decode cX3_isIssuer 3 = .ok (.getfield 69, 3) := by decide +kernel
theorem dX3_isIssuer_6 : decode cX3_isIssuer 6 = .ok (.iconst 1, 1) := by decide +kernel
theorem dX3_isIssuer_7 : decode cX3_isIssuer 7 = .ok (.isub, 1) := by decide +kernel
theorem dX3_isIssuer_8 : decode cX3_isIssuer 8 = .ok (.invokestatic 72, 3) := by decide +kernel
theorem dX3_isIssuer_11 : decode cX3_isIssuer 11 = .ok (.ireturn, 1) := by decide +kernel
set_option maxRecDepth 20000 in
theorem ggX3_isCert_X3_in : GoodIn wsX3_isCert wsX3_in := goodIn_r _ [5] (by decide +kernel) (by decide +kernel)
set_option maxRecDepth 20000 in
theorem gX3_isCert_X3_in : GoodIn wsX3_isCert (va_wsS RX3 72 yX3_in wsX3_in) := goodIn_app (goodIn_of _ (by decide +kernel)) ggX3_isCert_X3_in
theorem dX3_isCert_0 : decode cX3_isCert 0 = .ok (.iload_n 1, 1) := by decide +kernel
theorem dX3_isCert_1 : decode cX3_isCert 1 = .ok (.iconst 0, 1) := by decide +kernel
theorem dX3_isCert_2 : decode cX3_isCert 2 = .ok (.aload_n 0, 1) := by decide +kernel
theorem dX3_isCert_3 : decode cX3_isCert 3 = .ok (.getfield 76, 3) := by decide +kernel
theorem dX3_isCert_6 : decode cX3_isCert 6 = .ok (.iconst 1, 1) := by decide +kernel
theorem dX3_isCert_7 : decode cX3_isCert 7 = .ok (.isub, 1) := by decide +kernel
theorem dX3_isCert_8 : decode cX3_isCert 8 = .ok (.invokestatic 72, 3) := by decide +kernel
theorem dX3_isCert_11 : decode cX3_isCert 11 = .ok (.ireturn, 1) := by decide +kernel
set_option maxRecDepth 20000 in
theorem ggX3_isName_X3_in : GoodIn wsX3_isName wsX3_in := goodIn_r _ [4] (by decide +kernel) (by decide +kernel)
set_option maxRecDepth 20000 in
theorem gX3_isName_X3_in : GoodIn wsX3_isName (va_wsS RX3 72 yX3_in wsX3_in) := goodIn_app (goodIn_of _ (by decide +kernel)) ggX3_isName_X3_in
theorem dX3_isName_0 : decode cX3_isName 0 = .ok (.iload_n 0, 1) := by decide +kernel
theorem dX3_isName_1 : decode cX3_isName 1 = .ok (.iconst 0, 1) := by decide +kernel
theorem dX3_isName_2 : decode cX3_isName 2 = .ok (.bipush 15, 2) := by decide +kernel
theorem dX3_isName_4 : decode cX3_isName 4 = .ok (.invokestatic 72, 3) := by decide +kernel
theorem dX3_isName_7 : decode cX3_isName 7 = .ok (.ireturn, 1) := by decide +kernel
set_option maxRecDepth 20000 in
theorem ggX3_isDay_X3_in : GoodIn wsX3_isDay wsX3_in := goodIn_r _ [4] (by decide +kernel) (by decide +kernel)
set_option maxRecDepth 20000 in
theorem gX3_isDay_X3_in : GoodIn wsX3_isDay (va_wsS RX3 72 yX3_in wsX3_in) := goodIn_app (goodIn_of _ (by decide +kernel)) ggX3_isDay_X3_in
theorem dX3_isDay_0 : decode cX3_isDay 0 = .ok (.iload_n 0, 1) := by decide +kernel
theorem dX3_isDay_1 : decode cX3_isDay 1 = .ok (.iconst 0, 1) := by decide +kernel
theorem dX3_isDay_2 : decode cX3_isDay 2 = .ok (.sipush 5000, 3) := by decide +kernel
theorem dX3_isDay_5 : decode cX3_isDay 5 = .ok (.invokestatic 72, 3) := by decide +kernel
theorem dX3_isDay_8 : decode cX3_isDay 8 = .ok (.ireturn, 1) := by decide +kernel
set_option maxRecDepth 20000 in
theorem ggX3_addIssuer_X3_in : GoodIn wsX3_addIssuer wsX3_in := goodIn_r _ [12] (by decide +kernel) (by decide +kernel)
set_option maxRecDepth 20000 in
theorem gX3_addIssuer_X3_in : GoodIn wsX3_addIssuer (va_wsS RX3 72 yX3_in wsX3_in) := goodIn_app (goodIn_of _ (by decide +kernel)) ggX3_addIssuer_X3_in
set_option maxRecDepth 20000 in
theorem ggX3_addIssuer_X3_isIssuer : GoodIn wsX3_addIssuer wsX3_isIssuer := goodIn_r _ [16, 1, 9, 10, 11, 12, 17, 18, 19, 20, 21, 22, 23, 24, 25, 26, 27, 28, 29, 30, 31, 32, 33, 34, 35, 36, 37, 38] (by decide +kernel) (by decide +kernel)
set_option maxRecDepth 20000 in
theorem gX3_addIssuer_X3_isIssuer : GoodIn wsX3_addIssuer (wsV RX3 79 RX3 yX3_isIssuer wsX3_isIssuer) := goodIn_app (goodIn_of _ (by decide +kernel)) ggX3_addIssuer_X3_isIssuer
theorem dX3_addIssuer_0 : decode cX3_addIssuer 0 = .ok (.iload_n 2, 1) := by decide +kernel
theorem dX3_addIssuer_1 : decode cX3_addIssuer 1 = .ok (.iconst 0, 1) := by decide +kernel
theorem dX3_addIssuer_2 : decode cX3_addIssuer 2 = .ok (.sipush 5000, 3) := by decide +kernel
theorem dX3_addIssuer_5 : decode cX3_addIssuer 5 = .ok (.invokestatic 72, 3) := by decide +kernel
theorem dX3_addIssuer_8 : decode cX3_addIssuer 8 = .ok (.ifCond .eq 29, 3) := by decide +kernel
theorem dX3_addIssuer_11 : decode cX3_addIssuer 11 = .ok (.iload_n 3, 1) := by decide +kernel
theorem dX3_addIssuer_12 : decode cX3_addIssuer 12 = .ok (.iload_n 2, 1) := by decide +kernel
theorem dX3_addIssuer_13 : decode cX3_addIssuer 13 = .ok (.sipush 5000, 3) := by decide +kernel
theorem dX3_addIssuer_16 : decode cX3_addIssuer 16 = .ok (.invokestatic 72, 3) := by decide +kernel
theorem dX3_addIssuer_19 : decode cX3_addIssuer 19 = .ok (.ifCond .eq 18, 3) := by decide +kernel
theorem dX3_addIssuer_22 : decode cX3_addIssuer 22 = .ok (.iload 4, 2) := by decide +kernel
theorem dX3_addIssuer_24 : decode cX3_addIssuer 24 = .ok (.iconst 0, 1) := by decide +kernel
theorem dX3_addIssuer_25 : decode cX3_addIssuer 25 = .ok (.bipush 50, 2) := by decide +kernel
theorem dX3_addIssuer_27 : decode cX3_addIssuer 27 = .ok (.invokestatic 72, 3) := by decide +kernel
theorem dX3_addIssuer_30 : decode cX3_addIssuer 30 = .ok (.ifCond .eq 7, 3) := by decide +kernel
theorem dX3_addIssuer_33 : decode cX3_addIssuer 33 = .ok (.iconst 1, 1) := by decide +kernel
theorem dX3_addIssuer_34 : decode cX3_addIssuer 34 = .ok (.goto 4, 3) := by decide +kernel
theorem dX3_addIssuer_37 : decode cX3_addIssuer 37 = .ok (.iconst 0, 1) := by decide +kernel
theorem dX3_addIssuer_38 : decode cX3_addIssuer 38 = .ok (.istore 5, 2) := by decide +kernel
theorem dX3_addIssuer_40 : decode cX3_addIssuer 40 = .ok (.aload_n 0, 1) := by decide +kernel
theorem dX3_addIssuer_41 : decode cX3_addIssuer 41 = .ok (.iload_n 1, 1) := by decide +kernel
theorem dX3_addIssuer_42 : decode cX3_addIssuer 42 = .ok (.iconst (-1), 1) := by decide +kernel
theorem dX3_addIssuer_43 : decode cX3_addIssuer 43 = .ok (.if_icmp .eq 15, 3) := by decide +kernel
theorem dX3_addIssuer_46 : decode cX3_addIssuer 46 = .ok (.aload_n 0, 1) := by decide +kernel
theorem dX3_addIssuer_47 : decode cX3_addIssuer 47 = .ok (.iload_n 1, 1) := by decide +kernel
theorem dX3_addIssuer_48 : decode cX3_addIssuer 48 = .ok (.invokevirtual 79, 3) := by decide +kernel
theorem dX3_addIssuer_51 : decode cX3_addIssuer 51 = .ok (.ifCond .ne 7, 3) := by decide +kernel
theorem dX3_addIssuer_54 : decode cX3_addIssuer 54 = .ok (.iconst 1, 1) := by decide +kernel
theorem dX3_addIssuer_55 : decode cX3_addIssuer 55 = .ok (.goto 26, 3) := by decide +kernel
theorem dX3_addIssuer_58 : decode cX3_addIssuer 58 = .ok (.iload 5, 2) := by decide +kernel
theorem dX3_addIssuer_60 : decode cX3_addIssuer 60 = .ok (.ifCond .ne 7, 3) := by decide +kernel
theorem dX3_addIssuer_63 : decode cX3_addIssuer 63 = .ok (.iconst 2, 1) := by decide +kernel
theorem dX3_addIssuer_64 : decode cX3_addIssuer 64 = .ok (.goto 17, 3) := by decide +kernel
theorem dX3_addIssuer_67 : decode cX3_addIssuer 67 = .ok (.aload_n 0, 1) := by decide +kernel
theorem dX3_addIssuer_68 : decode cX3_addIssuer 68 = .ok (.getfield 69, 3) := by decide +kernel
theorem dX3_addIssuer_71 : decode cX3_addIssuer 71 = .ok (.bipush 8, 2) := by decide +kernel
theorem dX3_addIssuer_73 : decode cX3_addIssuer 73 = .ok (.if_icmp .ne 7, 3) := by decide +kernel
theorem dX3_addIssuer_76 : decode cX3_addIssuer 76 = .ok (.iconst 3, 1) := by decide +kernel
theorem dX3_addIssuer_77 : decode cX3_addIssuer 77 = .ok (.goto 4, 3) := by decide +kernel
theorem dX3_addIssuer_80 : decode cX3_addIssuer 80 = .ok (.iconst 0, 1) := by decide +kernel
theorem dX3_addIssuer_81 : decode cX3_addIssuer 81 = .ok (.putfield 66, 3) := by decide +kernel
theorem dX3_addIssuer_84 : decode cX3_addIssuer 84 = .ok (.aload_n 0, 1) := by decide +kernel
theorem dX3_addIssuer_85 : decode cX3_addIssuer 85 = .ok (.getfield 66, 3) := by decide +kernel
theorem dX3_addIssuer_88 : decode cX3_addIssuer 88 = .ok (.ifCond .le 5, 3) := by decide +kernel
theorem dX3_addIssuer_91 : decode cX3_addIssuer 91 = .ok (.iconst 0, 1) := by decide +kernel
theorem dX3_addIssuer_92 : decode cX3_addIssuer 92 = .ok (.ireturn, 1) := by decide +kernel
theorem dX3_addIssuer_93 : decode cX3_addIssuer 93 = .ok (.aload_n 0, 1) := by decide +kernel
theorem dX3_addIssuer_94 : decode cX3_addIssuer 94 = .ok (.getfield 13, 3) := by decide +kernel
theorem dX3_addIssuer_97 : decode cX3_addIssuer 97 = .ok (.aload_n 0, 1) := by decide +kernel
theorem dX3_addIssuer_98 : decode cX3_addIssuer 98 = .ok (.getfield 69, 3) := by decide +kernel
theorem dX3_addIssuer_101 : decode cX3_addIssuer 101 = .ok (.iload_n 2, 1) := by decide +kernel
theorem dX3_addIssuer_102 : decode cX3_addIssuer 102 = .ok (.iastore, 1) := by decide +kernel
theorem dX3_addIssuer_103 : decode cX3_addIssuer 103 = .ok (.aload_n 0, 1) := by decide +kernel
theorem dX3_addIssuer_104 : decode cX3_addIssuer 104 = .ok (.getfield 17, 3) := by decide +kernel
theorem dX3_addIssuer_107 : decode cX3_addIssuer 107 = .ok (.aload_n 0, 1) := by decide +kernel
theorem dX3_addIssuer_108 : decode cX3_addIssuer 108 = .ok (.getfield 69, 3) := by decide +kernel
theorem dX3_addIssuer_111 : decode cX3_addIssuer 111 = .ok (.iload_n 3, 1) := by decide +kernel
theorem dX3_addIssuer_112 : decode cX3_addIssuer 112 = .ok (.iastore, 1) := by decide +kernel
theorem dX3_addIssuer_113 : decode cX3_addIssuer 113 = .ok (.aload_n 0, 1) := by decide +kernel
theorem dX3_addIssuer_114 : decode cX3_addIssuer 114 = .ok (.getfield 20, 3) := by decide +kernel
theorem dX3_addIssuer_117 : decode cX3_addIssuer 117 = .ok (.aload_n 0, 1) := by decide +kernel
theorem dX3_addIssuer_118 : decode cX3_addIssuer 118 = .ok (.getfield 69, 3) := by decide +kernel
theorem dX3_addIssuer_121 : decode cX3_addIssuer 121 = .ok (.iload 4, 2) := by decide +kernel
theorem dX3_addIssuer_123 : decode cX3_addIssuer 123 = .ok (.iastore, 1) := by decide +kernel
theorem dX3_addIssuer_124 : decode cX3_addIssuer 124 = .ok (.aload_n 0, 1) := by decide +kernel
theorem dX3_addIssuer_125 : decode cX3_addIssuer 125 = .ok (.getfield 23, 3) := by decide +kernel
theorem dX3_addIssuer_128 : decode cX3_addIssuer 128 = .ok (.aload_n 0, 1) := by decide +kernel
theorem dX3_addIssuer_129 : decode cX3_addIssuer 129 = .ok (.getfield 69, 3) := by decide +kernel
theorem dX3_addIssuer_132 : decode cX3_addIssuer 132 = .ok (.iload_n 1, 1) := by decide +kernel
theorem dX3_addIssuer_133 : decode cX3_addIssuer 133 = .ok (.iastore, 1) := by decide +kernel
theorem dX3_addIssuer_134 : decode cX3_addIssuer 134 = .ok (.aload_n 0, 1) := by decide +kernel
theorem dX3_addIssuer_135 : decode cX3_addIssuer 135 = .ok (.getfield 26, 3) := by decide +kernel
theorem dX3_addIssuer_138 : decode cX3_addIssuer 138 = .ok (.aload_n 0, 1) := by decide +kernel
theorem dX3_addIssuer_139 : decode cX3_addIssuer 139 = .ok (.getfield 69, 3) := by decide +kernel
theorem dX3_addIssuer_142 : decode cX3_addIssuer 142 = .ok (.iconst (-1), 1) := by decide +kernel
theorem dX3_addIssuer_143 : decode cX3_addIssuer 143 = .ok (.iastore, 1) := by decide +kernel
theorem dX3_addIssuer_144 : decode cX3_addIssuer 144 = .ok (.aload_n 0, 1) := by decide +kernel
theorem dX3_addIssuer_145 : decode cX3_addIssuer 145 = .ok (.getfield 29, 3) := by decide +kernel
theorem dX3_addIssuer_148 : decode cX3_addIssuer 148 = .ok (.aload_n 0, 1) := by decide +kernel
theorem dX3_addIssuer_149 : decode cX3_addIssuer 149 = .ok (.getfield 69, 3) := by decide +kernel
theorem dX3_addIssuer_152 : decode cX3_addIssuer 152 = .ok (.iconst (-1), 1) := by decide +kernel
theorem dX3_addIssuer_153 : decode cX3_addIssuer 153 = .ok (.iastore, 1) := by decide +kernel
theorem dX3_addIssuer_154 : decode cX3_addIssuer 154 = .ok (.aload_n 0, 1) := by decide +kernel
theorem dX3_addIssuer_155 : decode cX3_addIssuer 155 = .ok (.dup, 1) := by decide +kernel
theorem dX3_addIssuer_156 : decode cX3_addIssuer 156 = .ok (.getfield 69, 3) := by decide +kernel
theorem dX3_addIssuer_159 : decode cX3_addIssuer 159 = .ok (.iconst 1, 1) := by decide +kernel
theorem dX3_addIssuer_160 : decode cX3_addIssuer 160 = .ok (.iadd, 1) := by decide +kernel
theorem dX3_addIssuer_161 : decode cX3_addIssuer 161 = .ok (.putfield 69, 3) := by decide +kernel
theorem dX3_addIssuer_164 : decode cX3_addIssuer 164 = .ok (.aload_n 0, 1) := by decide +kernel
theorem dX3_addIssuer_165 : decode cX3_addIssuer 165 = .ok (.getfield 69, 3) := by decide +kernel
theorem dX3_addIssuer_168 : decode cX3_addIssuer 168 = .ok (.iconst 1, 1) := by decide +kernel
theorem dX3_addIssuer_169 : decode cX3_addIssuer 169 = .ok (.isub, 1) := by decide +kernel
theorem dX3_addIssuer_170 : decode cX3_addIssuer 170 = .ok (.ireturn, 1) := by decide +kernel
set_option maxRecDepth 20000 in
theorem ggX3_cross_X3_isIssuer : GoodIn wsX3_cross wsX3_isIssuer := goodIn_r _ [8, 9, 10, 11, 7, 12, 23, 24, 25, 26, 27, 28, 29, 30, 31, 32, 33, 34, 35, 36, 37, 38, 39, 40, 41, 42, 43, 44] (by decide +kernel) (by decide +kernel)
set_option maxRecDepth 20000 in
theorem gX3_cross_X3_isIssuer : GoodIn wsX3_cross (wsV RX3 79 RX3 yX3_isIssuer wsX3_isIssuer) := goodIn_app (goodIn_of _ (by decide +kernel)) ggX3_cross_X3_isIssuer
set_option maxRecDepth 20000 in
theorem ggX3_cross_X3_fails : GoodIn wsX3_cross wsX3_fails := goodIn_r _ [16, 1, 23, 24, 25, 26, 27, 28, 29, 30, 31, 32, 33, 34, 35, 36, 37, 38, 39, 40, 41, 42, 43, 44] (by decide +kernel) (by decide +kernel)
set_option maxRecDepth 20000 in
theorem gX3_cross_X3_fails : GoodIn wsX3_cross (wsV RX3 83 RX3 yX3_fails wsX3_fails) := goodIn_app (goodIn_of _ (by decide +kernel)) ggX3_cross_X3_fails
set_option maxRecDepth 20000 in
theorem ggX3_cross_X3_ends : GoodIn wsX3_cross wsX3_ends := goodIn_r _ [20, 2, 3, 21, 22, 23, 24, 25, 26, 27, 28, 29, 30, 31, 32, 33, 34, 35, 36, 37, 38, 39, 40, 41, 42, 43, 44] (by decide +kernel) (by decide +kernel)
set_option maxRecDepth 20000 in
theorem gX3_cross_X3_ends : GoodIn wsX3_cross (wsV RX3 87 RX3 yX3_ends wsX3_ends) := goodIn_app (goodIn_of _ (by decide +kernel)) ggX3_cross_X3_ends
theorem dX3_cross_0 : decode cX3_cross 0 = .ok (.aload_n 0, 1) := by decide +kernel
theorem dX3_cross_1 : decode cX3_cross 1 = .ok (.aload_n 0, 1) := by decide +kernel
theorem dX3_cross_2 : decode cX3_cross 2 = .ok (.iload_n 1, 1) := by decide +kernel
theorem dX3_cross_3 : decode cX3_cross 3 = .ok (.invokevirtual 79, 3) := by decide +kernel
theorem dX3_cross_6 : decode cX3_cross 6 = .ok (.ifCond .eq 11, 3) := by decide +kernel
theorem dX3_cross_9 : decode cX3_cross 9 = .ok (.aload_n 0, 1) := by decide +kernel
theorem dX3_cross_10 : decode cX3_cross 10 = .ok (.iload_n 2, 1) := by decide +kernel
theorem dX3_cross_11 : decode cX3_cross 11 = .ok (.invokevirtual 79, 3) := by decide +kernel
theorem dX3_cross_14 : decode cX3_cross 14 = .ok (.ifCond .ne 7, 3) := by decide +kernel
theorem dX3_cross_17 : decode cX3_cross 17 = .ok (.iconst 1, 1) := by decide +kernel
theorem dX3_cross_18 : decode cX3_cross 18 = .ok (.goto 13, 3) := by decide +kernel
theorem dX3_cross_21 : decode cX3_cross 21 = .ok (.iload_n 2, 1) := by decide +kernel
theorem dX3_cross_22 : decode cX3_cross 22 = .ok (.iload_n 1, 1) := by decide +kernel
theorem dX3_cross_23 : decode cX3_cross 23 = .ok (.if_icmp .lt 7, 3) := by decide +kernel
theorem dX3_cross_26 : decode cX3_cross 26 = .ok (.iconst 2, 1) := by decide +kernel
theorem dX3_cross_27 : decode cX3_cross 27 = .ok (.goto 4, 3) := by decide +kernel
theorem dX3_cross_30 : decode cX3_cross 30 = .ok (.iconst 0, 1) := by decide +kernel
theorem dX3_cross_31 : decode cX3_cross 31 = .ok (.putfield 66, 3) := by decide +kernel
theorem dX3_cross_34 : decode cX3_cross 34 = .ok (.aload_n 0, 1) := by decide +kernel
theorem dX3_cross_35 : decode cX3_cross 35 = .ok (.getfield 66, 3) := by decide +kernel
theorem dX3_cross_38 : decode cX3_cross 38 = .ok (.ifCond .le 5, 3) := by decide +kernel
theorem dX3_cross_41 : decode cX3_cross 41 = .ok (.iconst 0, 1) := by decide +kernel
theorem dX3_cross_42 : decode cX3_cross 42 = .ok (.ireturn, 1) := by decide +kernel
theorem dX3_cross_43 : decode cX3_cross 43 = .ok (.aload_n 0, 1) := by decide +kernel
theorem dX3_cross_44 : decode cX3_cross 44 = .ok (.getfield 23, 3) := by decide +kernel
theorem dX3_cross_47 : decode cX3_cross 47 = .ok (.iload_n 1, 1) := by decide +kernel
theorem dX3_cross_48 : decode cX3_cross 48 = .ok (.iaload, 1) := by decide +kernel
theorem dX3_cross_49 : decode cX3_cross 49 = .ok (.iconst (-1), 1) := by decide +kernel
theorem dX3_cross_50 : decode cX3_cross 50 = .ok (.if_icmp .eq 23, 3) := by decide +kernel
theorem dX3_cross_53 : decode cX3_cross 53 = .ok (.aload_n 0, 1) := by decide +kernel
theorem dX3_cross_54 : decode cX3_cross 54 = .ok (.getfield 26, 3) := by decide +kernel
theorem dX3_cross_57 : decode cX3_cross 57 = .ok (.iload_n 1, 1) := by decide +kernel
theorem dX3_cross_58 : decode cX3_cross 58 = .ok (.iaload, 1) := by decide +kernel
theorem dX3_cross_59 : decode cX3_cross 59 = .ok (.iconst (-1), 1) := by decide +kernel
theorem dX3_cross_60 : decode cX3_cross 60 = .ok (.if_icmp .ne 13, 3) := by decide +kernel
theorem dX3_cross_63 : decode cX3_cross 63 = .ok (.aload_n 0, 1) := by decide +kernel
theorem dX3_cross_64 : decode cX3_cross 64 = .ok (.getfield 23, 3) := by decide +kernel
theorem dX3_cross_67 : decode cX3_cross 67 = .ok (.iload_n 1, 1) := by decide +kernel
theorem dX3_cross_68 : decode cX3_cross 68 = .ok (.iaload, 1) := by decide +kernel
theorem dX3_cross_69 : decode cX3_cross 69 = .ok (.iload_n 2, 1) := by decide +kernel
theorem dX3_cross_70 : decode cX3_cross 70 = .ok (.if_icmp .ne 7, 3) := by decide +kernel
theorem dX3_cross_73 : decode cX3_cross 73 = .ok (.iconst 1, 1) := by decide +kernel
theorem dX3_cross_74 : decode cX3_cross 74 = .ok (.goto 4, 3) := by decide +kernel
theorem dX3_cross_77 : decode cX3_cross 77 = .ok (.iconst 0, 1) := by decide +kernel
theorem dX3_cross_78 : decode cX3_cross 78 = .ok (.istore_n 3, 1) := by decide +kernel
theorem dX3_cross_79 : decode cX3_cross 79 = .ok (.iload_n 3, 1) := by decide +kernel
theorem dX3_cross_80 : decode cX3_cross 80 = .ok (.ifCond .eq 9, 3) := by decide +kernel
theorem dX3_cross_83 : decode cX3_cross 83 = .ok (.aload_n 0, 1) := by decide +kernel
theorem dX3_cross_84 : decode cX3_cross 84 = .ok (.iconst 3, 1) := by decide +kernel
theorem dX3_cross_85 : decode cX3_cross 85 = .ok (.invokevirtual 83, 3) := by decide +kernel
theorem dX3_cross_88 : decode cX3_cross 88 = .ok (.ireturn, 1) := by decide +kernel
theorem dX3_cross_89 : decode cX3_cross 89 = .ok (.aload_n 0, 1) := by decide +kernel
theorem dX3_cross_90 : decode cX3_cross 90 = .ok (.getfield 26, 3) := by decide +kernel
theorem dX3_cross_93 : decode cX3_cross 93 = .ok (.iload_n 1, 1) := by decide +kernel
theorem dX3_cross_94 : decode cX3_cross 94 = .ok (.iload_n 2, 1) := by decide +kernel
theorem dX3_cross_95 : decode cX3_cross 95 = .ok (.iastore, 1) := by decide +kernel
theorem dX3_cross_96 : decode cX3_cross 96 = .ok (.aload_n 0, 1) := by decide +kernel
theorem dX3_cross_97 : decode cX3_cross 97 = .ok (.iload_n 1, 1) := by decide +kernel
theorem dX3_cross_98 : decode cX3_cross 98 = .ok (.invokevirtual 87, 3) := by decide +kernel
theorem dX3_cross_101 : decode cX3_cross 101 = .ok (.ireturn, 1) := by decide +kernel
set_option maxRecDepth 20000 in
theorem ggX3_distrust_X3_isIssuer : GoodIn wsX3_distrust wsX3_isIssuer := goodIn_r _ [7, 8, 9, 10, 6, 11, 15, 16, 17, 18, 19, 20, 21, 22, 23, 24, 25, 26, 27, 28, 29, 30, 31, 32, 33, 34, 35, 36] (by decide +kernel) (by decide +kernel)
set_option maxRecDepth 20000 in
theorem gX3_distrust_X3_isIssuer : GoodIn wsX3_distrust (wsV RX3 79 RX3 yX3_isIssuer wsX3_isIssuer) := goodIn_app (goodIn_of _ (by decide +kernel)) ggX3_distrust_X3_isIssuer
set_option maxRecDepth 20000 in
theorem ggX3_distrust_X3_isDay : GoodIn wsX3_distrust wsX3_isDay := goodIn_r _ [14, 9, 10, 6, 11] (by decide +kernel) (by decide +kernel)
set_option maxRecDepth 20000 in
theorem gX3_distrust_X3_isDay : GoodIn wsX3_distrust (va_wsS RX3 90 yX3_isDay wsX3_isDay) := goodIn_app (goodIn_of _ (by decide +kernel)) ggX3_distrust_X3_isDay
theorem dX3_distrust_0 : decode cX3_distrust 0 = .ok (.aload_n 0, 1) := by decide +kernel
theorem dX3_distrust_1 : decode cX3_distrust 1 = .ok (.aload_n 0, 1) := by decide +kernel
theorem dX3_distrust_2 : decode cX3_distrust 2 = .ok (.iload_n 1, 1) := by decide +kernel
theorem dX3_distrust_3 : decode cX3_distrust 3 = .ok (.invokevirtual 79, 3) := by decide +kernel
theorem dX3_distrust_6 : decode cX3_distrust 6 = .ok (.ifCond .ne 7, 3) := by decide +kernel
theorem dX3_distrust_9 : decode cX3_distrust 9 = .ok (.iconst 1, 1) := by decide +kernel
theorem dX3_distrust_10 : decode cX3_distrust 10 = .ok (.goto 20, 3) := by decide +kernel
theorem dX3_distrust_13 : decode cX3_distrust 13 = .ok (.iload_n 2, 1) := by decide +kernel
theorem dX3_distrust_14 : decode cX3_distrust 14 = .ok (.iconst (-1), 1) := by decide +kernel
theorem dX3_distrust_15 : decode cX3_distrust 15 = .ok (.if_icmp .eq 10, 3) := by decide +kernel
theorem dX3_distrust_18 : decode cX3_distrust 18 = .ok (.iload_n 2, 1) := by decide +kernel
theorem dX3_distrust_19 : decode cX3_distrust 19 = .ok (.invokestatic 90, 3) := by decide +kernel
theorem dX3_distrust_22 : decode cX3_distrust 22 = .ok (.ifCond .eq 7, 3) := by decide +kernel
theorem dX3_distrust_25 : decode cX3_distrust 25 = .ok (.iconst 0, 1) := by decide +kernel
theorem dX3_distrust_26 : decode cX3_distrust 26 = .ok (.goto 4, 3) := by decide +kernel
theorem dX3_distrust_29 : decode cX3_distrust 29 = .ok (.iconst 2, 1) := by decide +kernel
theorem dX3_distrust_30 : decode cX3_distrust 30 = .ok (.putfield 66, 3) := by decide +kernel
theorem dX3_distrust_33 : decode cX3_distrust 33 = .ok (.aload_n 0, 1) := by decide +kernel
theorem dX3_distrust_34 : decode cX3_distrust 34 = .ok (.getfield 66, 3) := by decide +kernel
theorem dX3_distrust_37 : decode cX3_distrust 37 = .ok (.ifCond .le 5, 3) := by decide +kernel
theorem dX3_distrust_40 : decode cX3_distrust 40 = .ok (.iconst 0, 1) := by decide +kernel
theorem dX3_distrust_41 : decode cX3_distrust 41 = .ok (.ireturn, 1) := by decide +kernel
theorem dX3_distrust_42 : decode cX3_distrust 42 = .ok (.aload_n 0, 1) := by decide +kernel
theorem dX3_distrust_43 : decode cX3_distrust 43 = .ok (.getfield 29, 3) := by decide +kernel
theorem dX3_distrust_46 : decode cX3_distrust 46 = .ok (.iload_n 1, 1) := by decide +kernel
theorem dX3_distrust_47 : decode cX3_distrust 47 = .ok (.iaload, 1) := by decide +kernel
theorem dX3_distrust_48 : decode cX3_distrust 48 = .ok (.istore_n 3, 1) := by decide +kernel
theorem dX3_distrust_49 : decode cX3_distrust 49 = .ok (.aload_n 0, 1) := by decide +kernel
theorem dX3_distrust_50 : decode cX3_distrust 50 = .ok (.getfield 29, 3) := by decide +kernel
theorem dX3_distrust_53 : decode cX3_distrust 53 = .ok (.iload_n 1, 1) := by decide +kernel
theorem dX3_distrust_54 : decode cX3_distrust 54 = .ok (.iload_n 2, 1) := by decide +kernel
theorem dX3_distrust_55 : decode cX3_distrust 55 = .ok (.iastore, 1) := by decide +kernel
theorem dX3_distrust_56 : decode cX3_distrust 56 = .ok (.iload_n 3, 1) := by decide +kernel
theorem dX3_distrust_57 : decode cX3_distrust 57 = .ok (.ireturn, 1) := by decide +kernel
set_option maxRecDepth 20000 in
theorem ggX3_pin_X3_isName : GoodIn wsX3_pin wsX3_isName := goodIn_r _ [6, 7, 8, 5, 9] (by decide +kernel) (by decide +kernel)
set_option maxRecDepth 20000 in
theorem gX3_pin_X3_isName : GoodIn wsX3_pin (va_wsS RX3 93 yX3_isName wsX3_isName) := goodIn_app (goodIn_of _ (by decide +kernel)) ggX3_pin_X3_isName
set_option maxRecDepth 20000 in
theorem ggX3_pin_X3_in : GoodIn wsX3_pin wsX3_in := goodIn_r _ [9] (by decide +kernel) (by decide +kernel)
set_option maxRecDepth 20000 in
theorem gX3_pin_X3_in : GoodIn wsX3_pin (va_wsS RX3 72 yX3_in wsX3_in) := goodIn_app (goodIn_of _ (by decide +kernel)) ggX3_pin_X3_in
theorem dX3_pin_0 : decode cX3_pin 0 = .ok (.aload_n 0, 1) := by decide +kernel
theorem dX3_pin_1 : decode cX3_pin 1 = .ok (.iload_n 1, 1) := by decide +kernel
theorem dX3_pin_2 : decode cX3_pin 2 = .ok (.invokestatic 93, 3) := by decide +kernel
theorem dX3_pin_5 : decode cX3_pin 5 = .ok (.ifCond .ne 7, 3) := by decide +kernel
theorem dX3_pin_8 : decode cX3_pin 8 = .ok (.iconst 1, 1) := by decide +kernel
theorem dX3_pin_9 : decode cX3_pin 9 = .ok (.goto 19, 3) := by decide +kernel
theorem dX3_pin_12 : decode cX3_pin 12 = .ok (.iload_n 2, 1) := by decide +kernel
theorem dX3_pin_13 : decode cX3_pin 13 = .ok (.iconst 0, 1) := by decide +kernel
theorem dX3_pin_14 : decode cX3_pin 14 = .ok (.sipush 255, 3) := by decide +kernel
theorem dX3_pin_17 : decode cX3_pin 17 = .ok (.invokestatic 72, 3) := by decide +kernel
theorem dX3_pin_20 : decode cX3_pin 20 = .ok (.ifCond .eq 7, 3) := by decide +kernel
theorem dX3_pin_23 : decode cX3_pin 23 = .ok (.iconst 0, 1) := by decide +kernel
theorem dX3_pin_24 : decode cX3_pin 24 = .ok (.goto 4, 3) := by decide +kernel
theorem dX3_pin_27 : decode cX3_pin 27 = .ok (.iconst 2, 1) := by decide +kernel
theorem dX3_pin_28 : decode cX3_pin 28 = .ok (.putfield 66, 3) := by decide +kernel
theorem dX3_pin_31 : decode cX3_pin 31 = .ok (.aload_n 0, 1) := by decide +kernel
theorem dX3_pin_32 : decode cX3_pin 32 = .ok (.getfield 66, 3) := by decide +kernel
theorem dX3_pin_35 : decode cX3_pin 35 = .ok (.ifCond .le 5, 3) := by decide +kernel
theorem dX3_pin_38 : decode cX3_pin 38 = .ok (.iconst 0, 1) := by decide +kernel
theorem dX3_pin_39 : decode cX3_pin 39 = .ok (.ireturn, 1) := by decide +kernel
theorem dX3_pin_40 : decode cX3_pin 40 = .ok (.aload_n 0, 1) := by decide +kernel
theorem dX3_pin_41 : decode cX3_pin 41 = .ok (.getfield 32, 3) := by decide +kernel
theorem dX3_pin_44 : decode cX3_pin 44 = .ok (.iload_n 1, 1) := by decide +kernel
theorem dX3_pin_45 : decode cX3_pin 45 = .ok (.iaload, 1) := by decide +kernel
theorem dX3_pin_46 : decode cX3_pin 46 = .ok (.istore_n 3, 1) := by decide +kernel
theorem dX3_pin_47 : decode cX3_pin 47 = .ok (.aload_n 0, 1) := by decide +kernel
theorem dX3_pin_48 : decode cX3_pin 48 = .ok (.getfield 32, 3) := by decide +kernel
theorem dX3_pin_51 : decode cX3_pin 51 = .ok (.iload_n 1, 1) := by decide +kernel
theorem dX3_pin_52 : decode cX3_pin 52 = .ok (.iload_n 2, 1) := by decide +kernel
theorem dX3_pin_53 : decode cX3_pin 53 = .ok (.iastore, 1) := by decide +kernel
theorem dX3_pin_54 : decode cX3_pin 54 = .ok (.iload_n 3, 1) := by decide +kernel
theorem dX3_pin_55 : decode cX3_pin 55 = .ok (.ireturn, 1) := by decide +kernel
theorem dX3_setSeed_0 : decode cX3_setSeed 0 = .ok (.aload_n 0, 1) := by decide +kernel
theorem dX3_setSeed_1 : decode cX3_setSeed 1 = .ok (.iconst 0, 1) := by decide +kernel
theorem dX3_setSeed_2 : decode cX3_setSeed 2 = .ok (.putfield 66, 3) := by decide +kernel
theorem dX3_setSeed_5 : decode cX3_setSeed 5 = .ok (.aload_n 0, 1) := by decide +kernel
theorem dX3_setSeed_6 : decode cX3_setSeed 6 = .ok (.iload_n 1, 1) := by decide +kernel
theorem dX3_setSeed_7 : decode cX3_setSeed 7 = .ok (.putfield 7, 3) := by decide +kernel
theorem dX3_setSeed_10 : decode cX3_setSeed 10 = .ok (.return_, 1) := by decide +kernel
set_option maxRecDepth 20000 in
theorem ggX3_holds_X3_in : GoodIn wsX3_holds wsX3_in := goodIn_r _ [10] (by decide +kernel) (by decide +kernel)
set_option maxRecDepth 20000 in
theorem gX3_holds_X3_in : GoodIn wsX3_holds (va_wsS RX3 72 yX3_in wsX3_in) := goodIn_app (goodIn_of _ (by decide +kernel)) ggX3_holds_X3_in
theorem dX3_holds_0 : decode cX3_holds 0 = .ok (.iconst 0, 1) := by decide +kernel
theorem dX3_holds_1 : decode cX3_holds 1 = .ok (.istore 4, 2) := by decide +kernel
theorem dX3_holds_3 : decode cX3_holds 3 = .ok (.iload 4, 2) := by decide +kernel
theorem dX3_holds_5 : decode cX3_holds 5 = .ok (.iload_n 1, 1) := by decide +kernel
theorem dX3_holds_6 : decode cX3_holds 6 = .ok (.if_icmp .gt 132, 3) := by decide +kernel
theorem dX3_holds_9 : decode cX3_holds 9 = .ok (.iload 4, 2) := by decide +kernel
theorem dX3_holds_11 : decode cX3_holds 11 = .ok (.iload_n 3, 1) := by decide +kernel
theorem dX3_holds_12 : decode cX3_holds 12 = .ok (.if_icmp .eq 50, 3) := by decide +kernel
theorem dX3_holds_15 : decode cX3_holds 15 = .ok (.iload_n 2, 1) := by decide +kernel
theorem dX3_holds_16 : decode cX3_holds 16 = .ok (.aload_n 0, 1) := by decide +kernel
theorem dX3_holds_17 : decode cX3_holds 17 = .ok (.getfield 13, 3) := by decide +kernel
theorem dX3_holds_20 : decode cX3_holds 20 = .ok (.iload 4, 2) := by decide +kernel
theorem dX3_holds_22 : decode cX3_holds 22 = .ok (.iaload, 1) := by decide +kernel
theorem dX3_holds_23 : decode cX3_holds 23 = .ok (.aload_n 0, 1) := by decide +kernel
theorem dX3_holds_24 : decode cX3_holds 24 = .ok (.getfield 17, 3) := by decide +kernel
theorem dX3_holds_27 : decode cX3_holds 27 = .ok (.iload 4, 2) := by decide +kernel
theorem dX3_holds_29 : decode cX3_holds 29 = .ok (.iaload, 1) := by decide +kernel
theorem dX3_holds_30 : decode cX3_holds 30 = .ok (.invokestatic 72, 3) := by decide +kernel
theorem dX3_holds_33 : decode cX3_holds 33 = .ok (.ifCond .eq 29, 3) := by decide +kernel
theorem dX3_holds_36 : decode cX3_holds 36 = .ok (.aload_n 0, 1) := by decide +kernel
theorem dX3_holds_37 : decode cX3_holds 37 = .ok (.getfield 29, 3) := by decide +kernel
theorem dX3_holds_40 : decode cX3_holds 40 = .ok (.iload 4, 2) := by decide +kernel
theorem dX3_holds_42 : decode cX3_holds 42 = .ok (.iaload, 1) := by decide +kernel
theorem dX3_holds_43 : decode cX3_holds 43 = .ok (.iconst (-1), 1) := by decide +kernel
theorem dX3_holds_44 : decode cX3_holds 44 = .ok (.if_icmp .eq 14, 3) := by decide +kernel
theorem dX3_holds_47 : decode cX3_holds 47 = .ok (.iload_n 2, 1) := by decide +kernel
theorem dX3_holds_48 : decode cX3_holds 48 = .ok (.aload_n 0, 1) := by decide +kernel
theorem dX3_holds_49 : decode cX3_holds 49 = .ok (.getfield 29, 3) := by decide +kernel
theorem dX3_holds_52 : decode cX3_holds 52 = .ok (.iload 4, 2) := by decide +kernel
theorem dX3_holds_54 : decode cX3_holds 54 = .ok (.iaload, 1) := by decide +kernel
theorem dX3_holds_55 : decode cX3_holds 55 = .ok (.if_icmp .ge 7, 3) := by decide +kernel
theorem dX3_holds_58 : decode cX3_holds 58 = .ok (.iconst 1, 1) := by decide +kernel
theorem dX3_holds_59 : decode cX3_holds 59 = .ok (.goto 4, 3) := by decide +kernel
theorem dX3_holds_62 : decode cX3_holds 62 = .ok (.iconst 0, 1) := by decide +kernel
theorem dX3_holds_63 : decode cX3_holds 63 = .ok (.istore 5, 2) := by decide +kernel
theorem dX3_holds_65 : decode cX3_holds 65 = .ok (.aload_n 0, 1) := by decide +kernel
theorem dX3_holds_66 : decode cX3_holds 66 = .ok (.getfield 23, 3) := by decide +kernel
theorem dX3_holds_69 : decode cX3_holds 69 = .ok (.iload 4, 2) := by decide +kernel
theorem dX3_holds_71 : decode cX3_holds 71 = .ok (.iaload, 1) := by decide +kernel
theorem dX3_holds_72 : decode cX3_holds 72 = .ok (.istore 6, 2) := by decide +kernel
theorem dX3_holds_74 : decode cX3_holds 74 = .ok (.aload_n 0, 1) := by decide +kernel
theorem dX3_holds_75 : decode cX3_holds 75 = .ok (.getfield 26, 3) := by decide +kernel
theorem dX3_holds_78 : decode cX3_holds 78 = .ok (.iload 4, 2) := by decide +kernel
theorem dX3_holds_80 : decode cX3_holds 80 = .ok (.iaload, 1) := by decide +kernel
theorem dX3_holds_81 : decode cX3_holds 81 = .ok (.istore 7, 2) := by decide +kernel
theorem dX3_holds_83 : decode cX3_holds 83 = .ok (.aload_n 0, 1) := by decide +kernel
theorem dX3_holds_84 : decode cX3_holds 84 = .ok (.getfield 35, 3) := by decide +kernel
theorem dX3_holds_87 : decode cX3_holds 87 = .ok (.iload 4, 2) := by decide +kernel
theorem dX3_holds_89 : decode cX3_holds 89 = .ok (.iload 5, 2) := by decide +kernel
theorem dX3_holds_91 : decode cX3_holds 91 = .ok (.ifCond .eq 39, 3) := by decide +kernel
theorem dX3_holds_94 : decode cX3_holds 94 = .ok (.iload 6, 2) := by decide +kernel
theorem dX3_holds_96 : decode cX3_holds 96 = .ok (.iconst (-1), 1) := by decide +kernel
theorem dX3_holds_97 : decode cX3_holds 97 = .ok (.if_icmp .eq 29, 3) := by decide +kernel
theorem dX3_holds_100 : decode cX3_holds 100 = .ok (.aload_n 0, 1) := by decide +kernel
theorem dX3_holds_101 : decode cX3_holds 101 = .ok (.getfield 35, 3) := by decide +kernel
theorem dX3_holds_104 : decode cX3_holds 104 = .ok (.iload 6, 2) := by decide +kernel
theorem dX3_holds_106 : decode cX3_holds 106 = .ok (.baload, 1) := by decide +kernel
theorem dX3_holds_107 : decode cX3_holds 107 = .ok (.ifCond .ne 19, 3) := by decide +kernel
theorem dX3_holds_110 : decode cX3_holds 110 = .ok (.iload 7, 2) := by decide +kernel
theorem dX3_holds_112 : decode cX3_holds 112 = .ok (.iconst (-1), 1) := by decide +kernel
theorem dX3_holds_113 : decode cX3_holds 113 = .ok (.if_icmp .eq 17, 3) := by decide +kernel
theorem dX3_holds_116 : decode cX3_holds 116 = .ok (.aload_n 0, 1) := by decide +kernel
theorem dX3_holds_117 : decode cX3_holds 117 = .ok (.getfield 35, 3) := by decide +kernel
theorem dX3_holds_120 : decode cX3_holds 120 = .ok (.iload 7, 2) := by decide +kernel
theorem dX3_holds_122 : decode cX3_holds 122 = .ok (.baload, 1) := by decide +kernel
theorem dX3_holds_123 : decode cX3_holds 123 = .ok (.ifCond .eq 7, 3) := by decide +kernel
theorem dX3_holds_126 : decode cX3_holds 126 = .ok (.iconst 1, 1) := by decide +kernel
theorem dX3_holds_127 : decode cX3_holds 127 = .ok (.goto 4, 3) := by decide +kernel
theorem dX3_holds_130 : decode cX3_holds 130 = .ok (.iconst 0, 1) := by decide +kernel
theorem dX3_holds_131 : decode cX3_holds 131 = .ok (.bastore, 1) := by decide +kernel
theorem dX3_holds_132 : decode cX3_holds 132 = .ok (.iinc 4 1, 3) := by decide +kernel
theorem dX3_holds_135 : decode cX3_holds 135 = .ok (.goto (-132), 3) := by decide +kernel
theorem dX3_holds_138 : decode cX3_holds 138 = .ok (.aload_n 0, 1) := by decide +kernel
theorem dX3_holds_139 : decode cX3_holds 139 = .ok (.getfield 35, 3) := by decide +kernel
theorem dX3_holds_142 : decode cX3_holds 142 = .ok (.iload_n 1, 1) := by decide +kernel
theorem dX3_holds_143 : decode cX3_holds 143 = .ok (.baload, 1) := by decide +kernel
theorem dX3_holds_144 : decode cX3_holds 144 = .ok (.ireturn, 1) := by decide +kernel
theorem dX3_ends_0 : decode cX3_ends 0 = .ok (.iconst 0, 1) := by decide +kernel
theorem dX3_ends_1 : decode cX3_ends 1 = .ok (.istore_n 2, 1) := by decide +kernel
theorem dX3_ends_2 : decode cX3_ends 2 = .ok (.iload_n 2, 1) := by decide +kernel
theorem dX3_ends_3 : decode cX3_ends 3 = .ok (.iload_n 1, 1) := by decide +kernel
theorem dX3_ends_4 : decode cX3_ends 4 = .ok (.if_icmp .gt 103, 3) := by decide +kernel
theorem dX3_ends_7 : decode cX3_ends 7 = .ok (.aload_n 0, 1) := by decide +kernel
theorem dX3_ends_8 : decode cX3_ends 8 = .ok (.getfield 23, 3) := by decide +kernel
theorem dX3_ends_11 : decode cX3_ends 11 = .ok (.iload_n 2, 1) := by decide +kernel
theorem dX3_ends_12 : decode cX3_ends 12 = .ok (.iaload, 1) := by decide +kernel
theorem dX3_ends_13 : decode cX3_ends 13 = .ok (.istore_n 3, 1) := by decide +kernel
theorem dX3_ends_14 : decode cX3_ends 14 = .ok (.aload_n 0, 1) := by decide +kernel
theorem dX3_ends_15 : decode cX3_ends 15 = .ok (.getfield 26, 3) := by decide +kernel
theorem dX3_ends_18 : decode cX3_ends 18 = .ok (.iload_n 2, 1) := by decide +kernel
theorem dX3_ends_19 : decode cX3_ends 19 = .ok (.iaload, 1) := by decide +kernel
theorem dX3_ends_20 : decode cX3_ends 20 = .ok (.istore 4, 2) := by decide +kernel
theorem dX3_ends_22 : decode cX3_ends 22 = .ok (.iload_n 3, 1) := by decide +kernel
theorem dX3_ends_23 : decode cX3_ends 23 = .ok (.iconst (-1), 1) := by decide +kernel
theorem dX3_ends_24 : decode cX3_ends 24 = .ok (.if_icmp .ne 9, 3) := by decide +kernel
theorem dX3_ends_27 : decode cX3_ends 27 = .ok (.sipush 5000, 3) := by decide +kernel
theorem dX3_ends_30 : decode cX3_ends 30 = .ok (.goto 41, 3) := by decide +kernel
theorem dX3_ends_33 : decode cX3_ends 33 = .ok (.iload 4, 2) := by decide +kernel
theorem dX3_ends_35 : decode cX3_ends 35 = .ok (.iconst (-1), 1) := by decide +kernel
theorem dX3_ends_36 : decode cX3_ends 36 = .ok (.if_icmp .eq 29, 3) := by decide +kernel
theorem dX3_ends_39 : decode cX3_ends 39 = .ok (.aload_n 0, 1) := by decide +kernel
theorem dX3_ends_40 : decode cX3_ends 40 = .ok (.getfield 39, 3) := by decide +kernel
theorem dX3_ends_43 : decode cX3_ends 43 = .ok (.iload 4, 2) := by decide +kernel
theorem dX3_ends_45 : decode cX3_ends 45 = .ok (.iaload, 1) := by decide +kernel
theorem dX3_ends_46 : decode cX3_ends 46 = .ok (.aload_n 0, 1) := by decide +kernel
theorem dX3_ends_47 : decode cX3_ends 47 = .ok (.getfield 39, 3) := by decide +kernel
theorem dX3_ends_50 : decode cX3_ends 50 = .ok (.iload_n 3, 1) := by decide +kernel
theorem dX3_ends_51 : decode cX3_ends 51 = .ok (.iaload, 1) := by decide +kernel
theorem dX3_ends_52 : decode cX3_ends 52 = .ok (.if_icmp .le 13, 3) := by decide +kernel
theorem dX3_ends_55 : decode cX3_ends 55 = .ok (.aload_n 0, 1) := by decide +kernel
theorem dX3_ends_56 : decode cX3_ends 56 = .ok (.getfield 39, 3) := by decide +kernel
theorem dX3_ends_59 : decode cX3_ends 59 = .ok (.iload 4, 2) := by decide +kernel
theorem dX3_ends_61 : decode cX3_ends 61 = .ok (.iaload, 1) := by decide +kernel
theorem dX3_ends_62 : decode cX3_ends 62 = .ok (.goto 9, 3) := by decide +kernel
theorem dX3_ends_65 : decode cX3_ends 65 = .ok (.aload_n 0, 1) := by decide +kernel
theorem dX3_ends_66 : decode cX3_ends 66 = .ok (.getfield 39, 3) := by decide +kernel
theorem dX3_ends_69 : decode cX3_ends 69 = .ok (.iload_n 3, 1) := by decide +kernel
theorem dX3_ends_70 : decode cX3_ends 70 = .ok (.iaload, 1) := by decide +kernel
theorem dX3_ends_71 : decode cX3_ends 71 = .ok (.istore 5, 2) := by decide +kernel
theorem dX3_ends_73 : decode cX3_ends 73 = .ok (.aload_n 0, 1) := by decide +kernel
theorem dX3_ends_74 : decode cX3_ends 74 = .ok (.getfield 39, 3) := by decide +kernel
theorem dX3_ends_77 : decode cX3_ends 77 = .ok (.iload_n 2, 1) := by decide +kernel
theorem dX3_ends_78 : decode cX3_ends 78 = .ok (.iload 5, 2) := by decide +kernel
theorem dX3_ends_80 : decode cX3_ends 80 = .ok (.aload_n 0, 1) := by decide +kernel
theorem dX3_ends_81 : decode cX3_ends 81 = .ok (.getfield 17, 3) := by decide +kernel
theorem dX3_ends_84 : decode cX3_ends 84 = .ok (.iload_n 2, 1) := by decide +kernel
theorem dX3_ends_85 : decode cX3_ends 85 = .ok (.iaload, 1) := by decide +kernel
theorem dX3_ends_86 : decode cX3_ends 86 = .ok (.if_icmp .ge 8, 3) := by decide +kernel
theorem dX3_ends_89 : decode cX3_ends 89 = .ok (.iload 5, 2) := by decide +kernel
theorem dX3_ends_91 : decode cX3_ends 91 = .ok (.goto 9, 3) := by decide +kernel
theorem dX3_ends_94 : decode cX3_ends 94 = .ok (.aload_n 0, 1) := by decide +kernel
theorem dX3_ends_95 : decode cX3_ends 95 = .ok (.getfield 17, 3) := by decide +kernel
theorem dX3_ends_98 : decode cX3_ends 98 = .ok (.iload_n 2, 1) := by decide +kernel
theorem dX3_ends_99 : decode cX3_ends 99 = .ok (.iaload, 1) := by decide +kernel
theorem dX3_ends_100 : decode cX3_ends 100 = .ok (.iastore, 1) := by decide +kernel
theorem dX3_ends_101 : decode cX3_ends 101 = .ok (.iinc 2 1, 3) := by decide +kernel
theorem dX3_ends_104 : decode cX3_ends 104 = .ok (.goto (-102), 3) := by decide +kernel
theorem dX3_ends_107 : decode cX3_ends 107 = .ok (.aload_n 0, 1) := by decide +kernel
theorem dX3_ends_108 : decode cX3_ends 108 = .ok (.getfield 39, 3) := by decide +kernel
theorem dX3_ends_111 : decode cX3_ends 111 = .ok (.iload_n 1, 1) := by decide +kernel
theorem dX3_ends_112 : decode cX3_ends 112 = .ok (.iaload, 1) := by decide +kernel
theorem dX3_ends_113 : decode cX3_ends 113 = .ok (.ireturn, 1) := by decide +kernel
theorem dX3_ways_0 : decode cX3_ways 0 = .ok (.iconst 0, 1) := by decide +kernel
theorem dX3_ways_1 : decode cX3_ways 1 = .ok (.istore_n 2, 1) := by decide +kernel
theorem dX3_ways_2 : decode cX3_ways 2 = .ok (.iload_n 2, 1) := by decide +kernel
theorem dX3_ways_3 : decode cX3_ways 3 = .ok (.iload_n 1, 1) := by decide +kernel
theorem dX3_ways_4 : decode cX3_ways 4 = .ok (.if_icmp .gt 63, 3) := by decide +kernel
theorem dX3_ways_7 : decode cX3_ways 7 = .ok (.aload_n 0, 1) := by decide +kernel
theorem dX3_ways_8 : decode cX3_ways 8 = .ok (.getfield 23, 3) := by decide +kernel
theorem dX3_ways_11 : decode cX3_ways 11 = .ok (.iload_n 2, 1) := by decide +kernel
theorem dX3_ways_12 : decode cX3_ways 12 = .ok (.iaload, 1) := by decide +kernel
theorem dX3_ways_13 : decode cX3_ways 13 = .ok (.istore_n 3, 1) := by decide +kernel
theorem dX3_ways_14 : decode cX3_ways 14 = .ok (.aload_n 0, 1) := by decide +kernel
theorem dX3_ways_15 : decode cX3_ways 15 = .ok (.getfield 26, 3) := by decide +kernel
theorem dX3_ways_18 : decode cX3_ways 18 = .ok (.iload_n 2, 1) := by decide +kernel
theorem dX3_ways_19 : decode cX3_ways 19 = .ok (.iaload, 1) := by decide +kernel
theorem dX3_ways_20 : decode cX3_ways 20 = .ok (.istore 4, 2) := by decide +kernel
theorem dX3_ways_22 : decode cX3_ways 22 = .ok (.aload_n 0, 1) := by decide +kernel
theorem dX3_ways_23 : decode cX3_ways 23 = .ok (.getfield 42, 3) := by decide +kernel
theorem dX3_ways_26 : decode cX3_ways 26 = .ok (.iload_n 2, 1) := by decide +kernel
theorem dX3_ways_27 : decode cX3_ways 27 = .ok (.iload_n 3, 1) := by decide +kernel
theorem dX3_ways_28 : decode cX3_ways 28 = .ok (.iconst (-1), 1) := by decide +kernel
theorem dX3_ways_29 : decode cX3_ways 29 = .ok (.if_icmp .ne 7, 3) := by decide +kernel
theorem dX3_ways_32 : decode cX3_ways 32 = .ok (.iconst 1, 1) := by decide +kernel
theorem dX3_ways_33 : decode cX3_ways 33 = .ok (.goto 27, 3) := by decide +kernel
theorem dX3_ways_36 : decode cX3_ways 36 = .ok (.aload_n 0, 1) := by decide +kernel
theorem dX3_ways_37 : decode cX3_ways 37 = .ok (.getfield 42, 3) := by decide +kernel
theorem dX3_ways_40 : decode cX3_ways 40 = .ok (.iload_n 3, 1) := by decide +kernel
theorem dX3_ways_41 : decode cX3_ways 41 = .ok (.iaload, 1) := by decide +kernel
theorem dX3_ways_42 : decode cX3_ways 42 = .ok (.iload 4, 2) := by decide +kernel
theorem dX3_ways_44 : decode cX3_ways 44 = .ok (.iconst (-1), 1) := by decide +kernel
theorem dX3_ways_45 : decode cX3_ways 45 = .ok (.if_icmp .ne 7, 3) := by decide +kernel
theorem dX3_ways_48 : decode cX3_ways 48 = .ok (.iconst 0, 1) := by decide +kernel
theorem dX3_ways_49 : decode cX3_ways 49 = .ok (.goto 10, 3) := by decide +kernel
theorem dX3_ways_52 : decode cX3_ways 52 = .ok (.aload_n 0, 1) := by decide +kernel
theorem dX3_ways_53 : decode cX3_ways 53 = .ok (.getfield 42, 3) := by decide +kernel
theorem dX3_ways_56 : decode cX3_ways 56 = .ok (.iload 4, 2) := by decide +kernel
theorem dX3_ways_58 : decode cX3_ways 58 = .ok (.iaload, 1) := by decide +kernel
theorem dX3_ways_59 : decode cX3_ways 59 = .ok (.iadd, 1) := by decide +kernel
theorem dX3_ways_60 : decode cX3_ways 60 = .ok (.iastore, 1) := by decide +kernel
theorem dX3_ways_61 : decode cX3_ways 61 = .ok (.iinc 2 1, 3) := by decide +kernel
theorem dX3_ways_64 : decode cX3_ways 64 = .ok (.goto (-62), 3) := by decide +kernel
theorem dX3_ways_67 : decode cX3_ways 67 = .ok (.aload_n 0, 1) := by decide +kernel
theorem dX3_ways_68 : decode cX3_ways 68 = .ok (.getfield 42, 3) := by decide +kernel
theorem dX3_ways_71 : decode cX3_ways 71 = .ok (.iload_n 1, 1) := by decide +kernel
theorem dX3_ways_72 : decode cX3_ways 72 = .ok (.iaload, 1) := by decide +kernel
theorem dX3_ways_73 : decode cX3_ways 73 = .ok (.ireturn, 1) := by decide +kernel
theorem dX3_covers_0 : decode cX3_covers 0 = .ok (.iload_n 0, 1) := by decide +kernel
theorem dX3_covers_1 : decode cX3_covers 1 = .ok (.iload_n 1, 1) := by decide +kernel
theorem dX3_covers_2 : decode cX3_covers 2 = .ok (.if_icmp .eq 13, 3) := by decide +kernel
theorem dX3_covers_5 : decode cX3_covers 5 = .ok (.iload_n 0, 1) := by decide +kernel
theorem dX3_covers_6 : decode cX3_covers 6 = .ok (.bipush 16, 2) := by decide +kernel
theorem dX3_covers_8 : decode cX3_covers 8 = .ok (.iload_n 1, 1) := by decide +kernel
theorem dX3_covers_9 : decode cX3_covers 9 = .ok (.iconst 4, 1) := by decide +kernel
theorem dX3_covers_10 : decode cX3_covers 10 = .ok (.idiv, 1) := by decide +kernel
theorem dX3_covers_11 : decode cX3_covers 11 = .ok (.iadd, 1) := by decide +kernel
theorem dX3_covers_12 : decode cX3_covers 12 = .ok (.if_icmp .ne 7, 3) := by decide +kernel
theorem dX3_covers_15 : decode cX3_covers 15 = .ok (.iconst 1, 1) := by decide +kernel
theorem dX3_covers_16 : decode cX3_covers 16 = .ok (.goto 4, 3) := by decide +kernel
theorem dX3_covers_19 : decode cX3_covers 19 = .ok (.iconst 0, 1) := by decide +kernel
theorem dX3_covers_20 : decode cX3_covers 20 = .ok (.ireturn, 1) := by decide +kernel
theorem dX3_issued_0 : decode cX3_issued 0 = .ok (.iconst 0, 1) := by decide +kernel
theorem dX3_issued_1 : decode cX3_issued 1 = .ok (.istore_n 2, 1) := by decide +kernel
theorem dX3_issued_2 : decode cX3_issued 2 = .ok (.iconst 0, 1) := by decide +kernel
theorem dX3_issued_3 : decode cX3_issued 3 = .ok (.istore_n 3, 1) := by decide +kernel
theorem dX3_issued_4 : decode cX3_issued 4 = .ok (.iload_n 3, 1) := by decide +kernel
theorem dX3_issued_5 : decode cX3_issued 5 = .ok (.aload_n 0, 1) := by decide +kernel
theorem dX3_issued_6 : decode cX3_issued 6 = .ok (.getfield 76, 3) := by decide +kernel
theorem dX3_issued_9 : decode cX3_issued 9 = .ok (.if_icmp .ge 46, 3) := by decide +kernel
theorem dX3_issued_12 : decode cX3_issued 12 = .ok (.iload_n 2, 1) := by decide +kernel
theorem dX3_issued_13 : decode cX3_issued 13 = .ok (.aload_n 0, 1) := by decide +kernel
theorem dX3_issued_14 : decode cX3_issued 14 = .ok (.getfield 48, 3) := by decide +kernel
theorem dX3_issued_17 : decode cX3_issued 17 = .ok (.iload_n 3, 1) := by decide +kernel
theorem dX3_issued_18 : decode cX3_issued 18 = .ok (.iaload, 1) := by decide +kernel
theorem dX3_issued_19 : decode cX3_issued 19 = .ok (.iload_n 1, 1) := by decide +kernel
theorem dX3_issued_20 : decode cX3_issued 20 = .ok (.if_icmp .ne 26, 3) := by decide +kernel
theorem dX3_issued_23 : decode cX3_issued 23 = .ok (.aload_n 0, 1) := by decide +kernel
theorem dX3_issued_24 : decode cX3_issued 24 = .ok (.getfield 51, 3) := by decide +kernel
theorem dX3_issued_27 : decode cX3_issued 27 = .ok (.iload_n 3, 1) := by decide +kernel
theorem dX3_issued_28 : decode cX3_issued 28 = .ok (.iaload, 1) := by decide +kernel
theorem dX3_issued_29 : decode cX3_issued 29 = .ok (.bipush 7, 2) := by decide +kernel
theorem dX3_issued_31 : decode cX3_issued 31 = .ok (.idiv, 1) := by decide +kernel
theorem dX3_issued_32 : decode cX3_issued 32 = .ok (.aload_n 0, 1) := by decide +kernel
theorem dX3_issued_33 : decode cX3_issued 33 = .ok (.getfield 96, 3) := by decide +kernel
theorem dX3_issued_36 : decode cX3_issued 36 = .ok (.bipush 7, 2) := by decide +kernel
theorem dX3_issued_38 : decode cX3_issued 38 = .ok (.idiv, 1) := by decide +kernel
theorem dX3_issued_39 : decode cX3_issued 39 = .ok (.if_icmp .ne 7, 3) := by decide +kernel
theorem dX3_issued_42 : decode cX3_issued 42 = .ok (.iconst 1, 1) := by decide +kernel
theorem dX3_issued_43 : decode cX3_issued 43 = .ok (.goto 4, 3) := by decide +kernel
theorem dX3_issued_46 : decode cX3_issued 46 = .ok (.iconst 0, 1) := by decide +kernel
theorem dX3_issued_47 : decode cX3_issued 47 = .ok (.iadd, 1) := by decide +kernel
theorem dX3_issued_48 : decode cX3_issued 48 = .ok (.istore_n 2, 1) := by decide +kernel
theorem dX3_issued_49 : decode cX3_issued 49 = .ok (.iinc 3 1, 3) := by decide +kernel
theorem dX3_issued_52 : decode cX3_issued 52 = .ok (.goto (-48), 3) := by decide +kernel
theorem dX3_issued_55 : decode cX3_issued 55 = .ok (.iload_n 2, 1) := by decide +kernel
theorem dX3_issued_56 : decode cX3_issued 56 = .ok (.ireturn, 1) := by decide +kernel
set_option maxRecDepth 20000 in
theorem ggX3_canIssue_X3_holds : GoodIn wsX3_canIssue wsX3_holds := goodIn_r _ [9, 10, 11, 12, 13, 14, 15, 16, 17, 8, 18, 28, 29, 30, 31, 32, 33, 34, 35, 36, 37, 38, 39, 40, 41, 42, 43, 44, 45, 46, 47, 48, 49] (by decide +kernel) (by decide +kernel)
set_option maxRecDepth 20000 in
theorem gX3_canIssue_X3_holds : GoodIn wsX3_canIssue (wsV RX3 99 RX3 yX3_holds wsX3_holds) := goodIn_app (goodIn_of _ (by decide +kernel)) ggX3_canIssue_X3_holds
set_option maxRecDepth 20000 in
theorem ggX3_canIssue_X3_issued : GoodIn wsX3_canIssue wsX3_issued := goodIn_r _ [22, 3, 23, 24, 1, 28, 29, 30, 31, 32, 33, 34, 35, 36, 37, 38, 39, 40, 41, 42, 43, 44, 45, 46, 47, 48, 49] (by decide +kernel) (by decide +kernel)
set_option maxRecDepth 20000 in
theorem gX3_canIssue_X3_issued : GoodIn wsX3_canIssue (wsV RX3 102 RX3 yX3_issued wsX3_issued) := goodIn_app (goodIn_of _ (by decide +kernel)) ggX3_canIssue_X3_issued
set_option maxRecDepth 20000 in
theorem ggX3_canIssue_X3_covers : GoodIn wsX3_canIssue wsX3_covers := goodIn_r _ [27] (by decide +kernel) (by decide +kernel)
set_option maxRecDepth 20000 in
theorem gX3_canIssue_X3_covers : GoodIn wsX3_canIssue (va_wsS RX3 105 yX3_covers wsX3_covers) := goodIn_app (goodIn_of _ (by decide +kernel)) ggX3_canIssue_X3_covers
theorem dX3_canIssue_0 : decode cX3_canIssue 0 = .ok (.aload_n 0, 1) := by decide +kernel
theorem dX3_canIssue_1 : decode cX3_canIssue 1 = .ok (.iload_n 1, 1) := by decide +kernel
theorem dX3_canIssue_2 : decode cX3_canIssue 2 = .ok (.aload_n 0, 1) := by decide +kernel
theorem dX3_canIssue_3 : decode cX3_canIssue 3 = .ok (.getfield 96, 3) := by decide +kernel
theorem dX3_canIssue_6 : decode cX3_canIssue 6 = .ok (.iconst (-1), 1) := by decide +kernel
theorem dX3_canIssue_7 : decode cX3_canIssue 7 = .ok (.invokevirtual 99, 3) := by decide +kernel
theorem dX3_canIssue_10 : decode cX3_canIssue 10 = .ok (.ifCond .eq 30, 3) := by decide +kernel
theorem dX3_canIssue_13 : decode cX3_canIssue 13 = .ok (.aload_n 0, 1) := by decide +kernel
theorem dX3_canIssue_14 : decode cX3_canIssue 14 = .ok (.iload_n 1, 1) := by decide +kernel
theorem dX3_canIssue_15 : decode cX3_canIssue 15 = .ok (.invokevirtual 102, 3) := by decide +kernel
theorem dX3_canIssue_18 : decode cX3_canIssue 18 = .ok (.aload_n 0, 1) := by decide +kernel
theorem dX3_canIssue_19 : decode cX3_canIssue 19 = .ok (.getfield 20, 3) := by decide +kernel
theorem dX3_canIssue_22 : decode cX3_canIssue 22 = .ok (.iload_n 1, 1) := by decide +kernel
theorem dX3_canIssue_23 : decode cX3_canIssue 23 = .ok (.iaload, 1) := by decide +kernel
theorem dX3_canIssue_24 : decode cX3_canIssue 24 = .ok (.if_icmp .ge 16, 3) := by decide +kernel
theorem dX3_canIssue_27 : decode cX3_canIssue 27 = .ok (.aload_n 0, 1) := by decide +kernel
theorem dX3_canIssue_28 : decode cX3_canIssue 28 = .ok (.getfield 76, 3) := by decide +kernel
theorem dX3_canIssue_31 : decode cX3_canIssue 31 = .ok (.bipush 60, 2) := by decide +kernel
theorem dX3_canIssue_33 : decode cX3_canIssue 33 = .ok (.if_icmp .ge 7, 3) := by decide +kernel
theorem dX3_canIssue_36 : decode cX3_canIssue 36 = .ok (.iconst 1, 1) := by decide +kernel
theorem dX3_canIssue_37 : decode cX3_canIssue 37 = .ok (.goto 4, 3) := by decide +kernel
theorem dX3_canIssue_40 : decode cX3_canIssue 40 = .ok (.iconst 0, 1) := by decide +kernel
theorem dX3_canIssue_41 : decode cX3_canIssue 41 = .ok (.istore_n 3, 1) := by decide +kernel
theorem dX3_canIssue_42 : decode cX3_canIssue 42 = .ok (.iconst 0, 1) := by decide +kernel
theorem dX3_canIssue_43 : decode cX3_canIssue 43 = .ok (.istore 4, 2) := by decide +kernel
theorem dX3_canIssue_45 : decode cX3_canIssue 45 = .ok (.iload 4, 2) := by decide +kernel
theorem dX3_canIssue_47 : decode cX3_canIssue 47 = .ok (.bipush 16, 2) := by decide +kernel
theorem dX3_canIssue_49 : decode cX3_canIssue 49 = .ok (.if_icmp .ge 53, 3) := by decide +kernel
theorem dX3_canIssue_52 : decode cX3_canIssue 52 = .ok (.iload_n 3, 1) := by decide +kernel
theorem dX3_canIssue_53 : decode cX3_canIssue 53 = .ok (.ifCond .eq 41, 3) := by decide +kernel
theorem dX3_canIssue_56 : decode cX3_canIssue 56 = .ok (.iload_n 2, 1) := by decide +kernel
theorem dX3_canIssue_57 : decode cX3_canIssue 57 = .ok (.iload 4, 2) := by decide +kernel
theorem dX3_canIssue_59 : decode cX3_canIssue 59 = .ok (.invokestatic 105, 3) := by decide +kernel
theorem dX3_canIssue_62 : decode cX3_canIssue 62 = .ok (.ifCond .eq 28, 3) := by decide +kernel
theorem dX3_canIssue_65 : decode cX3_canIssue 65 = .ok (.aload_n 0, 1) := by decide +kernel
theorem dX3_canIssue_66 : decode cX3_canIssue 66 = .ok (.getfield 32, 3) := by decide +kernel
theorem dX3_canIssue_69 : decode cX3_canIssue 69 = .ok (.iload 4, 2) := by decide +kernel
theorem dX3_canIssue_71 : decode cX3_canIssue 71 = .ok (.iaload, 1) := by decide +kernel
theorem dX3_canIssue_72 : decode cX3_canIssue 72 = .ok (.ifCond .eq 18, 3) := by decide +kernel
theorem dX3_canIssue_75 : decode cX3_canIssue 75 = .ok (.aload_n 0, 1) := by decide +kernel
theorem dX3_canIssue_76 : decode cX3_canIssue 76 = .ok (.getfield 32, 3) := by decide +kernel
theorem dX3_canIssue_79 : decode cX3_canIssue 79 = .ok (.iload 4, 2) := by decide +kernel
theorem dX3_canIssue_81 : decode cX3_canIssue 81 = .ok (.iaload, 1) := by decide +kernel
theorem dX3_canIssue_82 : decode cX3_canIssue 82 = .ok (.iload_n 1, 1) := by decide +kernel
theorem dX3_canIssue_83 : decode cX3_canIssue 83 = .ok (.ishr, 1) := by decide +kernel
theorem dX3_canIssue_84 : decode cX3_canIssue 84 = .ok (.iconst 1, 1) := by decide +kernel
theorem dX3_canIssue_85 : decode cX3_canIssue 85 = .ok (.iand, 1) := by decide +kernel
theorem dX3_canIssue_86 : decode cX3_canIssue 86 = .ok (.iconst 1, 1) := by decide +kernel
theorem dX3_canIssue_87 : decode cX3_canIssue 87 = .ok (.if_icmp .ne 7, 3) := by decide +kernel
theorem dX3_canIssue_90 : decode cX3_canIssue 90 = .ok (.iconst 1, 1) := by decide +kernel
theorem dX3_canIssue_91 : decode cX3_canIssue 91 = .ok (.goto 4, 3) := by decide +kernel
theorem dX3_canIssue_94 : decode cX3_canIssue 94 = .ok (.iconst 0, 1) := by decide +kernel
theorem dX3_canIssue_95 : decode cX3_canIssue 95 = .ok (.istore_n 3, 1) := by decide +kernel
theorem dX3_canIssue_96 : decode cX3_canIssue 96 = .ok (.iinc 4 1, 3) := by decide +kernel
theorem dX3_canIssue_99 : decode cX3_canIssue 99 = .ok (.goto (-54), 3) := by decide +kernel
theorem dX3_canIssue_102 : decode cX3_canIssue 102 = .ok (.iload_n 3, 1) := by decide +kernel
theorem dX3_canIssue_103 : decode cX3_canIssue 103 = .ok (.ireturn, 1) := by decide +kernel
theorem dX3_makes_0 : decode cX3_makes 0 = .ok (.aload_n 0, 1) := by decide +kernel
theorem dX3_makes_1 : decode cX3_makes 1 = .ok (.aload_n 0, 1) := by decide +kernel
theorem dX3_makes_2 : decode cX3_makes 2 = .ok (.getfield 7, 3) := by decide +kernel
theorem dX3_makes_5 : decode cX3_makes 5 = .ok (.ldc 109, 2) := by decide +kernel
theorem dX3_makes_7 : decode cX3_makes 7 = .ok (.imul, 1) := by decide +kernel
theorem dX3_makes_8 : decode cX3_makes 8 = .ok (.sipush 12345, 3) := by decide +kernel
theorem dX3_makes_11 : decode cX3_makes 11 = .ok (.iadd, 1) := by decide +kernel
theorem dX3_makes_12 : decode cX3_makes 12 = .ok (.putfield 7, 3) := by decide +kernel
theorem dX3_makes_15 : decode cX3_makes 15 = .ok (.aload_n 0, 1) := by decide +kernel
theorem dX3_makes_16 : decode cX3_makes 16 = .ok (.getfield 45, 3) := by decide +kernel
theorem dX3_makes_19 : decode cX3_makes 19 = .ok (.aload_n 0, 1) := by decide +kernel
theorem dX3_makes_20 : decode cX3_makes 20 = .ok (.getfield 76, 3) := by decide +kernel
theorem dX3_makes_23 : decode cX3_makes 23 = .ok (.iload_n 2, 1) := by decide +kernel
theorem dX3_makes_24 : decode cX3_makes 24 = .ok (.iastore, 1) := by decide +kernel
theorem dX3_makes_25 : decode cX3_makes 25 = .ok (.aload_n 0, 1) := by decide +kernel
theorem dX3_makes_26 : decode cX3_makes 26 = .ok (.getfield 48, 3) := by decide +kernel
theorem dX3_makes_29 : decode cX3_makes 29 = .ok (.aload_n 0, 1) := by decide +kernel
theorem dX3_makes_30 : decode cX3_makes 30 = .ok (.getfield 76, 3) := by decide +kernel
theorem dX3_makes_33 : decode cX3_makes 33 = .ok (.iload_n 1, 1) := by decide +kernel
theorem dX3_makes_34 : decode cX3_makes 34 = .ok (.iastore, 1) := by decide +kernel
theorem dX3_makes_35 : decode cX3_makes 35 = .ok (.aload_n 0, 1) := by decide +kernel
theorem dX3_makes_36 : decode cX3_makes 36 = .ok (.getfield 51, 3) := by decide +kernel
theorem dX3_makes_39 : decode cX3_makes 39 = .ok (.aload_n 0, 1) := by decide +kernel
theorem dX3_makes_40 : decode cX3_makes 40 = .ok (.getfield 76, 3) := by decide +kernel
theorem dX3_makes_43 : decode cX3_makes 43 = .ok (.aload_n 0, 1) := by decide +kernel
theorem dX3_makes_44 : decode cX3_makes 44 = .ok (.getfield 96, 3) := by decide +kernel
theorem dX3_makes_47 : decode cX3_makes 47 = .ok (.iastore, 1) := by decide +kernel
theorem dX3_makes_48 : decode cX3_makes 48 = .ok (.aload_n 0, 1) := by decide +kernel
theorem dX3_makes_49 : decode cX3_makes 49 = .ok (.getfield 54, 3) := by decide +kernel
theorem dX3_makes_52 : decode cX3_makes 52 = .ok (.aload_n 0, 1) := by decide +kernel
theorem dX3_makes_53 : decode cX3_makes 53 = .ok (.getfield 76, 3) := by decide +kernel
theorem dX3_makes_56 : decode cX3_makes 56 = .ok (.iload_n 3, 1) := by decide +kernel
theorem dX3_makes_57 : decode cX3_makes 57 = .ok (.iastore, 1) := by decide +kernel
theorem dX3_makes_58 : decode cX3_makes 58 = .ok (.aload_n 0, 1) := by decide +kernel
theorem dX3_makes_59 : decode cX3_makes 59 = .ok (.getfield 57, 3) := by decide +kernel
theorem dX3_makes_62 : decode cX3_makes 62 = .ok (.aload_n 0, 1) := by decide +kernel
theorem dX3_makes_63 : decode cX3_makes 63 = .ok (.getfield 76, 3) := by decide +kernel
theorem dX3_makes_66 : decode cX3_makes 66 = .ok (.aload_n 0, 1) := by decide +kernel
theorem dX3_makes_67 : decode cX3_makes 67 = .ok (.getfield 7, 3) := by decide +kernel
theorem dX3_makes_70 : decode cX3_makes 70 = .ok (.bipush 16, 2) := by decide +kernel
theorem dX3_makes_72 : decode cX3_makes 72 = .ok (.iushr, 1) := by decide +kernel
theorem dX3_makes_73 : decode cX3_makes 73 = .ok (.iload_n 3, 1) := by decide +kernel
theorem dX3_makes_74 : decode cX3_makes 74 = .ok (.bipush 6, 2) := by decide +kernel
theorem dX3_makes_76 : decode cX3_makes 76 = .ok (.idiv, 1) := by decide +kernel
theorem dX3_makes_77 : decode cX3_makes 77 = .ok (.iconst 1, 1) := by decide +kernel
theorem dX3_makes_78 : decode cX3_makes 78 = .ok (.iadd, 1) := by decide +kernel
theorem dX3_makes_79 : decode cX3_makes 79 = .ok (.irem, 1) := by decide +kernel
theorem dX3_makes_80 : decode cX3_makes 80 = .ok (.iastore, 1) := by decide +kernel
theorem dX3_makes_81 : decode cX3_makes 81 = .ok (.aload_n 0, 1) := by decide +kernel
theorem dX3_makes_82 : decode cX3_makes 82 = .ok (.getfield 60, 3) := by decide +kernel
theorem dX3_makes_85 : decode cX3_makes 85 = .ok (.aload_n 0, 1) := by decide +kernel
theorem dX3_makes_86 : decode cX3_makes 86 = .ok (.getfield 76, 3) := by decide +kernel
theorem dX3_makes_89 : decode cX3_makes 89 = .ok (.iconst (-1), 1) := by decide +kernel
theorem dX3_makes_90 : decode cX3_makes 90 = .ok (.iastore, 1) := by decide +kernel
theorem dX3_makes_91 : decode cX3_makes 91 = .ok (.aload_n 0, 1) := by decide +kernel
theorem dX3_makes_92 : decode cX3_makes 92 = .ok (.dup, 1) := by decide +kernel
theorem dX3_makes_93 : decode cX3_makes 93 = .ok (.getfield 76, 3) := by decide +kernel
theorem dX3_makes_96 : decode cX3_makes 96 = .ok (.iconst 1, 1) := by decide +kernel
theorem dX3_makes_97 : decode cX3_makes 97 = .ok (.iadd, 1) := by decide +kernel
theorem dX3_makes_98 : decode cX3_makes 98 = .ok (.putfield 76, 3) := by decide +kernel
theorem dX3_makes_101 : decode cX3_makes 101 = .ok (.aload_n 0, 1) := by decide +kernel
theorem dX3_makes_102 : decode cX3_makes 102 = .ok (.getfield 76, 3) := by decide +kernel
theorem dX3_makes_105 : decode cX3_makes 105 = .ok (.iconst 1, 1) := by decide +kernel
theorem dX3_makes_106 : decode cX3_makes 106 = .ok (.isub, 1) := by decide +kernel
theorem dX3_makes_107 : decode cX3_makes 107 = .ok (.ireturn, 1) := by decide +kernel
set_option maxRecDepth 20000 in
theorem ggX3_issue_X3_isIssuer : GoodIn wsX3_issue wsX3_isIssuer := goodIn_r _ [6, 7, 8, 9, 5, 10, 48, 49, 50, 51, 52, 53, 54, 55, 56, 57, 58, 59, 60, 61, 62, 63, 64, 65, 66, 67, 68, 69] (by decide +kernel) (by decide +kernel)
set_option maxRecDepth 20000 in
theorem gX3_issue_X3_isIssuer : GoodIn wsX3_issue (wsV RX3 79 RX3 yX3_isIssuer wsX3_isIssuer) := goodIn_app (goodIn_of _ (by decide +kernel)) ggX3_issue_X3_isIssuer
set_option maxRecDepth 20000 in
theorem ggX3_issue_X3_in : GoodIn wsX3_issue wsX3_in := goodIn_r _ [10] (by decide +kernel) (by decide +kernel)
set_option maxRecDepth 20000 in
theorem gX3_issue_X3_in : GoodIn wsX3_issue (va_wsS RX3 72 yX3_in wsX3_in) := goodIn_app (goodIn_of _ (by decide +kernel)) ggX3_issue_X3_in
set_option maxRecDepth 20000 in
theorem ggX3_issue_X3_canIssue : GoodIn wsX3_issue wsX3_canIssue := goodIn_r _ [14, 15, 16, 17, 18, 19, 20, 21, 5, 22, 23, 24, 25, 26, 27, 28, 8, 9, 10, 29, 30, 31, 32, 33, 34, 35, 36, 37, 48, 49, 50, 51, 52, 53, 54, 55, 56, 57, 58, 59, 60, 61, 62, 63, 64, 65, 66, 67, 68, 69] (by decide +kernel) (by decide +kernel)
set_option maxRecDepth 20000 in
theorem gX3_issue_X3_canIssue : GoodIn wsX3_issue (wsV RX3 110 RX3 yX3_canIssue wsX3_canIssue) := goodIn_app (goodIn_of _ (by decide +kernel)) ggX3_issue_X3_canIssue
set_option maxRecDepth 20000 in
theorem ggX3_issue_X3_makes : GoodIn wsX3_issue wsX3_makes := goodIn_r _ [41, 42, 43, 44, 17, 33, 34, 15, 45, 46, 47, 48, 49, 50, 51, 52, 53, 54, 55, 56, 57, 58, 59, 60, 61, 62, 63, 64, 65, 66, 67, 68, 69] (by decide +kernel) (by decide +kernel)
set_option maxRecDepth 20000 in
theorem gX3_issue_X3_makes : GoodIn wsX3_issue (wsV RX3 113 RX3 yX3_makes wsX3_makes) := goodIn_app (goodIn_of _ (by decide +kernel)) ggX3_issue_X3_makes
theorem dX3_issue_0 : decode cX3_issue 0 = .ok (.aload_n 0, 1) := by decide +kernel
theorem dX3_issue_1 : decode cX3_issue 1 = .ok (.aload_n 0, 1) := by decide +kernel
theorem dX3_issue_2 : decode cX3_issue 2 = .ok (.iload_n 1, 1) := by decide +kernel
theorem dX3_issue_3 : decode cX3_issue 3 = .ok (.invokevirtual 79, 3) := by decide +kernel
theorem dX3_issue_6 : decode cX3_issue 6 = .ok (.ifCond .ne 7, 3) := by decide +kernel
theorem dX3_issue_9 : decode cX3_issue 9 = .ok (.iconst 1, 1) := by decide +kernel
theorem dX3_issue_10 : decode cX3_issue 10 = .ok (.goto 42, 3) := by decide +kernel
theorem dX3_issue_13 : decode cX3_issue 13 = .ok (.iload_n 2, 1) := by decide +kernel
theorem dX3_issue_14 : decode cX3_issue 14 = .ok (.iconst 0, 1) := by decide +kernel
theorem dX3_issue_15 : decode cX3_issue 15 = .ok (.bipush 19, 2) := by decide +kernel
theorem dX3_issue_17 : decode cX3_issue 17 = .ok (.invokestatic 72, 3) := by decide +kernel
theorem dX3_issue_20 : decode cX3_issue 20 = .ok (.ifCond .eq 14, 3) := by decide +kernel
theorem dX3_issue_23 : decode cX3_issue 23 = .ok (.iload_n 3, 1) := by decide +kernel
theorem dX3_issue_24 : decode cX3_issue 24 = .ok (.iconst 1, 1) := by decide +kernel
theorem dX3_issue_25 : decode cX3_issue 25 = .ok (.sipush 400, 3) := by decide +kernel
theorem dX3_issue_28 : decode cX3_issue 28 = .ok (.invokestatic 72, 3) := by decide +kernel
theorem dX3_issue_31 : decode cX3_issue 31 = .ok (.ifCond .ne 7, 3) := by decide +kernel
theorem dX3_issue_34 : decode cX3_issue 34 = .ok (.iconst 2, 1) := by decide +kernel
theorem dX3_issue_35 : decode cX3_issue 35 = .ok (.goto 17, 3) := by decide +kernel
theorem dX3_issue_38 : decode cX3_issue 38 = .ok (.aload_n 0, 1) := by decide +kernel
theorem dX3_issue_39 : decode cX3_issue 39 = .ok (.iload_n 1, 1) := by decide +kernel
theorem dX3_issue_40 : decode cX3_issue 40 = .ok (.iload_n 2, 1) := by decide +kernel
theorem dX3_issue_41 : decode cX3_issue 41 = .ok (.invokevirtual 110, 3) := by decide +kernel
theorem dX3_issue_44 : decode cX3_issue 44 = .ok (.ifCond .eq 7, 3) := by decide +kernel
theorem dX3_issue_47 : decode cX3_issue 47 = .ok (.iconst 0, 1) := by decide +kernel
theorem dX3_issue_48 : decode cX3_issue 48 = .ok (.goto 4, 3) := by decide +kernel
theorem dX3_issue_51 : decode cX3_issue 51 = .ok (.iconst 3, 1) := by decide +kernel
theorem dX3_issue_52 : decode cX3_issue 52 = .ok (.putfield 66, 3) := by decide +kernel
theorem dX3_issue_55 : decode cX3_issue 55 = .ok (.aload_n 0, 1) := by decide +kernel
theorem dX3_issue_56 : decode cX3_issue 56 = .ok (.getfield 66, 3) := by decide +kernel
theorem dX3_issue_59 : decode cX3_issue 59 = .ok (.ifCond .le 7, 3) := by decide +kernel
theorem dX3_issue_62 : decode cX3_issue 62 = .ok (.iconst 0, 1) := by decide +kernel
theorem dX3_issue_63 : decode cX3_issue 63 = .ok (.goto 10, 3) := by decide +kernel
theorem dX3_issue_66 : decode cX3_issue 66 = .ok (.aload_n 0, 1) := by decide +kernel
theorem dX3_issue_67 : decode cX3_issue 67 = .ok (.iload_n 1, 1) := by decide +kernel
theorem dX3_issue_68 : decode cX3_issue 68 = .ok (.iload_n 2, 1) := by decide +kernel
theorem dX3_issue_69 : decode cX3_issue 69 = .ok (.iload_n 3, 1) := by decide +kernel
theorem dX3_issue_70 : decode cX3_issue 70 = .ok (.invokevirtual 113, 3) := by decide +kernel
theorem dX3_issue_73 : decode cX3_issue 73 = .ok (.ireturn, 1) := by decide +kernel
theorem dX3_last_0 : decode cX3_last 0 = .ok (.aload_n 0, 1) := by decide +kernel
theorem dX3_last_1 : decode cX3_last 1 = .ok (.getfield 51, 3) := by decide +kernel
theorem dX3_last_4 : decode cX3_last 4 = .ok (.iload_n 1, 1) := by decide +kernel
theorem dX3_last_5 : decode cX3_last 5 = .ok (.iaload, 1) := by decide +kernel
theorem dX3_last_6 : decode cX3_last 6 = .ok (.aload_n 0, 1) := by decide +kernel
theorem dX3_last_7 : decode cX3_last 7 = .ok (.getfield 54, 3) := by decide +kernel
theorem dX3_last_10 : decode cX3_last 10 = .ok (.iload_n 1, 1) := by decide +kernel
theorem dX3_last_11 : decode cX3_last 11 = .ok (.iaload, 1) := by decide +kernel
theorem dX3_last_12 : decode cX3_last 12 = .ok (.iadd, 1) := by decide +kernel
theorem dX3_last_13 : decode cX3_last 13 = .ok (.iconst 1, 1) := by decide +kernel
theorem dX3_last_14 : decode cX3_last 14 = .ok (.isub, 1) := by decide +kernel
theorem dX3_last_15 : decode cX3_last 15 = .ok (.ireturn, 1) := by decide +kernel
theorem dX3_due_0 : decode cX3_due 0 = .ok (.aload_n 0, 1) := by decide +kernel
theorem dX3_due_1 : decode cX3_due 1 = .ok (.getfield 51, 3) := by decide +kernel
theorem dX3_due_4 : decode cX3_due 4 = .ok (.iload_n 1, 1) := by decide +kernel
theorem dX3_due_5 : decode cX3_due 5 = .ok (.iaload, 1) := by decide +kernel
theorem dX3_due_6 : decode cX3_due 6 = .ok (.iconst 2, 1) := by decide +kernel
theorem dX3_due_7 : decode cX3_due 7 = .ok (.aload_n 0, 1) := by decide +kernel
theorem dX3_due_8 : decode cX3_due 8 = .ok (.getfield 54, 3) := by decide +kernel
theorem dX3_due_11 : decode cX3_due 11 = .ok (.iload_n 1, 1) := by decide +kernel
theorem dX3_due_12 : decode cX3_due 12 = .ok (.iaload, 1) := by decide +kernel
theorem dX3_due_13 : decode cX3_due 13 = .ok (.imul, 1) := by decide +kernel
theorem dX3_due_14 : decode cX3_due 14 = .ok (.iconst 3, 1) := by decide +kernel
theorem dX3_due_15 : decode cX3_due 15 = .ok (.idiv, 1) := by decide +kernel
theorem dX3_due_16 : decode cX3_due 16 = .ok (.iadd, 1) := by decide +kernel
theorem dX3_due_17 : decode cX3_due 17 = .ok (.aload_n 0, 1) := by decide +kernel
theorem dX3_due_18 : decode cX3_due 18 = .ok (.getfield 57, 3) := by decide +kernel
theorem dX3_due_21 : decode cX3_due 21 = .ok (.iload_n 1, 1) := by decide +kernel
theorem dX3_due_22 : decode cX3_due 22 = .ok (.iaload, 1) := by decide +kernel
theorem dX3_due_23 : decode cX3_due 23 = .ok (.iadd, 1) := by decide +kernel
theorem dX3_due_24 : decode cX3_due 24 = .ok (.ireturn, 1) := by decide +kernel
set_option maxRecDepth 20000 in
theorem ggX3_waits_X3_due : GoodIn wsX3_waits wsX3_due := goodIn_r _ [7, 8, 9, 10, 15, 16, 17, 18, 19, 20, 21, 22, 23, 24, 25, 26, 27, 28, 29, 30, 31, 32, 33, 34, 35, 36] (by decide +kernel) (by decide +kernel)
set_option maxRecDepth 20000 in
theorem gX3_waits_X3_due : GoodIn wsX3_waits (wsV RX3 117 RX3 yX3_due wsX3_due) := goodIn_app (goodIn_of _ (by decide +kernel)) ggX3_waits_X3_due
set_option maxRecDepth 20000 in
theorem ggX3_waits_X3_last : GoodIn wsX3_waits wsX3_last := goodIn_r _ [14, 8, 9, 15, 16, 17, 18, 19, 20, 21, 22, 23, 24, 25, 26, 27, 28, 29, 30, 31, 32, 33, 34, 35, 36] (by decide +kernel) (by decide +kernel)
set_option maxRecDepth 20000 in
theorem gX3_waits_X3_last : GoodIn wsX3_waits (wsV RX3 120 RX3 yX3_last wsX3_last) := goodIn_app (goodIn_of _ (by decide +kernel)) ggX3_waits_X3_last
theorem dX3_waits_0 : decode cX3_waits 0 = .ok (.aload_n 0, 1) := by decide +kernel
theorem dX3_waits_1 : decode cX3_waits 1 = .ok (.iload_n 1, 1) := by decide +kernel
theorem dX3_waits_2 : decode cX3_waits 2 = .ok (.invokevirtual 117, 3) := by decide +kernel
theorem dX3_waits_5 : decode cX3_waits 5 = .ok (.aload_n 0, 1) := by decide +kernel
theorem dX3_waits_6 : decode cX3_waits 6 = .ok (.getfield 96, 3) := by decide +kernel
theorem dX3_waits_9 : decode cX3_waits 9 = .ok (.if_icmp .gt 29, 3) := by decide +kernel
theorem dX3_waits_12 : decode cX3_waits 12 = .ok (.aload_n 0, 1) := by decide +kernel
theorem dX3_waits_13 : decode cX3_waits 13 = .ok (.getfield 60, 3) := by decide +kernel
theorem dX3_waits_16 : decode cX3_waits 16 = .ok (.iload_n 1, 1) := by decide +kernel
theorem dX3_waits_17 : decode cX3_waits 17 = .ok (.iaload, 1) := by decide +kernel
theorem dX3_waits_18 : decode cX3_waits 18 = .ok (.iconst (-1), 1) := by decide +kernel
theorem dX3_waits_19 : decode cX3_waits 19 = .ok (.if_icmp .ne 19, 3) := by decide +kernel
theorem dX3_waits_22 : decode cX3_waits 22 = .ok (.aload_n 0, 1) := by decide +kernel
theorem dX3_waits_23 : decode cX3_waits 23 = .ok (.iload_n 1, 1) := by decide +kernel
theorem dX3_waits_24 : decode cX3_waits 24 = .ok (.invokevirtual 120, 3) := by decide +kernel
theorem dX3_waits_27 : decode cX3_waits 27 = .ok (.aload_n 0, 1) := by decide +kernel
theorem dX3_waits_28 : decode cX3_waits 28 = .ok (.getfield 96, 3) := by decide +kernel
theorem dX3_waits_31 : decode cX3_waits 31 = .ok (.if_icmp .lt 7, 3) := by decide +kernel
theorem dX3_waits_34 : decode cX3_waits 34 = .ok (.iconst 1, 1) := by decide +kernel
theorem dX3_waits_35 : decode cX3_waits 35 = .ok (.goto 4, 3) := by decide +kernel
theorem dX3_waits_38 : decode cX3_waits 38 = .ok (.iconst 0, 1) := by decide +kernel
theorem dX3_waits_39 : decode cX3_waits 39 = .ok (.ireturn, 1) := by decide +kernel
set_option maxRecDepth 20000 in
theorem ggX3_nextWaiting_X3_waits : GoodIn wsX3_nextWaiting wsX3_waits := goodIn_r _ [6, 7, 8, 9, 10, 11, 5, 12, 13, 14, 15, 16, 17, 18, 19, 20, 21, 22, 23, 24, 25, 26, 27, 28, 29, 30, 31, 32, 33, 34, 35, 36, 37, 38, 39, 40, 41] (by decide +kernel) (by decide +kernel)
set_option maxRecDepth 20000 in
theorem gX3_nextWaiting_X3_waits : GoodIn wsX3_nextWaiting (wsV RX3 123 RX3 yX3_waits wsX3_waits) := goodIn_app (goodIn_of _ (by decide +kernel)) ggX3_nextWaiting_X3_waits
set_option maxRecDepth 20000 in
theorem ggX3_nextWaiting_X3_last : GoodIn wsX3_nextWaiting wsX3_last := goodIn_r _ [19, 13, 14, 20, 21, 22, 23, 24, 25, 26, 27, 28, 29, 30, 31, 32, 33, 34, 35, 36, 37, 38, 39, 40, 41] (by decide +kernel) (by decide +kernel)
set_option maxRecDepth 20000 in
theorem gX3_nextWaiting_X3_last : GoodIn wsX3_nextWaiting (wsV RX3 120 RX3 yX3_last wsX3_last) := goodIn_app (goodIn_of _ (by decide +kernel)) ggX3_nextWaiting_X3_last
theorem dX3_nextWaiting_0 : decode cX3_nextWaiting 0 = .ok (.iconst (-1), 1) := by decide +kernel
theorem dX3_nextWaiting_1 : decode cX3_nextWaiting 1 = .ok (.istore_n 2, 1) := by decide +kernel
theorem dX3_nextWaiting_2 : decode cX3_nextWaiting 2 = .ok (.iconst 0, 1) := by decide +kernel
theorem dX3_nextWaiting_3 : decode cX3_nextWaiting 3 = .ok (.istore_n 3, 1) := by decide +kernel
theorem dX3_nextWaiting_4 : decode cX3_nextWaiting 4 = .ok (.iload_n 3, 1) := by decide +kernel
theorem dX3_nextWaiting_5 : decode cX3_nextWaiting 5 = .ok (.iload_n 1, 1) := by decide +kernel
theorem dX3_nextWaiting_6 : decode cX3_nextWaiting 6 = .ok (.if_icmp .ge 50, 3) := by decide +kernel
theorem dX3_nextWaiting_9 : decode cX3_nextWaiting 9 = .ok (.aload_n 0, 1) := by decide +kernel
theorem dX3_nextWaiting_10 : decode cX3_nextWaiting 10 = .ok (.iload_n 3, 1) := by decide +kernel
theorem dX3_nextWaiting_11 : decode cX3_nextWaiting 11 = .ok (.invokevirtual 123, 3) := by decide +kernel
theorem dX3_nextWaiting_14 : decode cX3_nextWaiting 14 = .ok (.ifCond .eq 34, 3) := by decide +kernel
theorem dX3_nextWaiting_17 : decode cX3_nextWaiting 17 = .ok (.aload_n 0, 1) := by decide +kernel
theorem dX3_nextWaiting_18 : decode cX3_nextWaiting 18 = .ok (.getfield 63, 3) := by decide +kernel
theorem dX3_nextWaiting_21 : decode cX3_nextWaiting 21 = .ok (.iload_n 3, 1) := by decide +kernel
theorem dX3_nextWaiting_22 : decode cX3_nextWaiting 22 = .ok (.baload, 1) := by decide +kernel
theorem dX3_nextWaiting_23 : decode cX3_nextWaiting 23 = .ok (.ifCond .ne 25, 3) := by decide +kernel
theorem dX3_nextWaiting_26 : decode cX3_nextWaiting 26 = .ok (.iload_n 2, 1) := by decide +kernel
theorem dX3_nextWaiting_27 : decode cX3_nextWaiting 27 = .ok (.iconst (-1), 1) := by decide +kernel
theorem dX3_nextWaiting_28 : decode cX3_nextWaiting 28 = .ok (.if_icmp .eq 16, 3) := by decide +kernel
theorem dX3_nextWaiting_31 : decode cX3_nextWaiting 31 = .ok (.aload_n 0, 1) := by decide +kernel
theorem dX3_nextWaiting_32 : decode cX3_nextWaiting 32 = .ok (.iload_n 3, 1) := by decide +kernel
theorem dX3_nextWaiting_33 : decode cX3_nextWaiting 33 = .ok (.invokevirtual 120, 3) := by decide +kernel
theorem dX3_nextWaiting_36 : decode cX3_nextWaiting 36 = .ok (.aload_n 0, 1) := by decide +kernel
theorem dX3_nextWaiting_37 : decode cX3_nextWaiting 37 = .ok (.iload_n 2, 1) := by decide +kernel
theorem dX3_nextWaiting_38 : decode cX3_nextWaiting 38 = .ok (.invokevirtual 120, 3) := by decide +kernel
theorem dX3_nextWaiting_41 : decode cX3_nextWaiting 41 = .ok (.if_icmp .ge 7, 3) := by decide +kernel
theorem dX3_nextWaiting_44 : decode cX3_nextWaiting 44 = .ok (.iload_n 3, 1) := by decide +kernel
theorem dX3_nextWaiting_45 : decode cX3_nextWaiting 45 = .ok (.goto 4, 3) := by decide +kernel
theorem dX3_nextWaiting_48 : decode cX3_nextWaiting 48 = .ok (.iload_n 2, 1) := by decide +kernel
theorem dX3_nextWaiting_49 : decode cX3_nextWaiting 49 = .ok (.istore_n 2, 1) := by decide +kernel
theorem dX3_nextWaiting_50 : decode cX3_nextWaiting 50 = .ok (.iinc 3 1, 3) := by decide +kernel
theorem dX3_nextWaiting_53 : decode cX3_nextWaiting 53 = .ok (.goto (-49), 3) := by decide +kernel
theorem dX3_nextWaiting_56 : decode cX3_nextWaiting 56 = .ok (.iload_n 2, 1) := by decide +kernel
theorem dX3_nextWaiting_57 : decode cX3_nextWaiting 57 = .ok (.ireturn, 1) := by decide +kernel
theorem dX3_sees_0 : decode cX3_sees 0 = .ok (.iconst 0, 1) := by decide +kernel
theorem dX3_sees_1 : decode cX3_sees 1 = .ok (.istore_n 2, 1) := by decide +kernel
theorem dX3_sees_2 : decode cX3_sees 2 = .ok (.iload_n 2, 1) := by decide +kernel
theorem dX3_sees_3 : decode cX3_sees 3 = .ok (.bipush 60, 2) := by decide +kernel
theorem dX3_sees_5 : decode cX3_sees 5 = .ok (.if_icmp .ge 16, 3) := by decide +kernel
theorem dX3_sees_8 : decode cX3_sees 8 = .ok (.aload_n 0, 1) := by decide +kernel
theorem dX3_sees_9 : decode cX3_sees 9 = .ok (.getfield 63, 3) := by decide +kernel
theorem dX3_sees_12 : decode cX3_sees 12 = .ok (.iload_n 2, 1) := by decide +kernel
theorem dX3_sees_13 : decode cX3_sees 13 = .ok (.iload_n 1, 1) := by decide +kernel
theorem dX3_sees_14 : decode cX3_sees 14 = .ok (.bastore, 1) := by decide +kernel
theorem dX3_sees_15 : decode cX3_sees 15 = .ok (.iinc 2 1, 3) := by decide +kernel
theorem dX3_sees_18 : decode cX3_sees 18 = .ok (.goto (-16), 3) := by decide +kernel
theorem dX3_sees_21 : decode cX3_sees 21 = .ok (.return_, 1) := by decide +kernel
set_option maxRecDepth 20000 in
theorem ggX3_day_X3_sees : GoodIn wsX3_day wsX3_sees := goodIn_r _ [12, 3, 63, 64, 65, 66, 67, 68, 69, 70, 71, 72, 73, 74, 75, 76, 77, 78, 79, 80, 81, 82, 83, 84] (by decide +kernel) (by decide +kernel)
set_option maxRecDepth 20000 in
theorem gX3_day_X3_sees : GoodIn wsX3_day (wsV RX3 126 RX3 yX3_sees wsX3_sees) := goodIn_app (goodIn_of _ (by decide +kernel)) ggX3_day_X3_sees
set_option maxRecDepth 20000 in
theorem ggX3_day_X3_nextWaiting : GoodIn wsX3_day wsX3_nextWaiting := goodIn_r _ [16, 3, 17, 18, 19, 11, 20, 2, 6, 21, 22, 23, 24, 25, 7, 26, 27, 28, 29, 30, 63, 64, 65, 66, 67, 68, 69, 70, 71, 72, 73, 74, 75, 76, 77, 78, 79, 80, 81, 82, 83, 84] (by decide +kernel) (by decide +kernel)
set_option maxRecDepth 20000 in
theorem gX3_day_X3_nextWaiting : GoodIn wsX3_day (wsV RX3 130 RX3 yX3_nextWaiting wsX3_nextWaiting) := goodIn_app (goodIn_of _ (by decide +kernel)) ggX3_day_X3_nextWaiting
set_option maxRecDepth 20000 in
theorem ggX3_day_X3_canIssue : GoodIn wsX3_day wsX3_canIssue := goodIn_r _ [34, 2, 35, 1, 36, 37, 38, 39, 11, 40, 41, 42, 43, 44, 45, 46, 47, 48, 49, 50, 51, 52, 53, 4, 25, 54, 55, 56, 63, 64, 65, 66, 67, 68, 69, 70, 71, 72, 73, 74, 75, 76, 77, 78, 79, 80, 81, 82, 83, 84] (by decide +kernel) (by decide +kernel)
set_option maxRecDepth 20000 in
theorem gX3_day_X3_canIssue : GoodIn wsX3_day (wsV RX3 110 RX3 yX3_canIssue wsX3_canIssue) := goodIn_app (goodIn_of _ (by decide +kernel)) ggX3_day_X3_canIssue
set_option maxRecDepth 20000 in
theorem ggX3_day_X3_makes : GoodIn wsX3_day wsX3_makes := goodIn_r _ [60, 61, 62, 5, 1, 4, 25, 2, 7, 26, 6, 63, 64, 65, 66, 67, 68, 69, 70, 71, 72, 73, 74, 75, 76, 77, 78, 79, 80, 81, 82, 83, 84] (by decide +kernel) (by decide +kernel)
set_option maxRecDepth 20000 in
theorem gX3_day_X3_makes : GoodIn wsX3_day (wsV RX3 113 RX3 yX3_makes wsX3_makes) := goodIn_app (goodIn_of _ (by decide +kernel)) ggX3_day_X3_makes
theorem dX3_day_0 : decode cX3_day 0 = .ok (.iconst 0, 1) := by decide +kernel
theorem dX3_day_1 : decode cX3_day 1 = .ok (.istore_n 1, 1) := by decide +kernel
theorem dX3_day_2 : decode cX3_day 2 = .ok (.aload_n 0, 1) := by decide +kernel
theorem dX3_day_3 : decode cX3_day 3 = .ok (.getfield 76, 3) := by decide +kernel
theorem dX3_day_6 : decode cX3_day 6 = .ok (.istore_n 2, 1) := by decide +kernel
theorem dX3_day_7 : decode cX3_day 7 = .ok (.aload_n 0, 1) := by decide +kernel
theorem dX3_day_8 : decode cX3_day 8 = .ok (.dup, 1) := by decide +kernel
theorem dX3_day_9 : decode cX3_day 9 = .ok (.getfield 96, 3) := by decide +kernel
theorem dX3_day_12 : decode cX3_day 12 = .ok (.iconst 1, 1) := by decide +kernel
theorem dX3_day_13 : decode cX3_day 13 = .ok (.iadd, 1) := by decide +kernel
theorem dX3_day_14 : decode cX3_day 14 = .ok (.putfield 96, 3) := by decide +kernel
theorem dX3_day_17 : decode cX3_day 17 = .ok (.aload_n 0, 1) := by decide +kernel
theorem dX3_day_18 : decode cX3_day 18 = .ok (.iconst 0, 1) := by decide +kernel
theorem dX3_day_19 : decode cX3_day 19 = .ok (.invokevirtual 126, 3) := by decide +kernel
theorem dX3_day_22 : decode cX3_day 22 = .ok (.aload_n 0, 1) := by decide +kernel
theorem dX3_day_23 : decode cX3_day 23 = .ok (.iload_n 2, 1) := by decide +kernel
theorem dX3_day_24 : decode cX3_day 24 = .ok (.invokevirtual 130, 3) := by decide +kernel
theorem dX3_day_27 : decode cX3_day 27 = .ok (.istore_n 3, 1) := by decide +kernel
theorem dX3_day_28 : decode cX3_day 28 = .ok (.iload_n 3, 1) := by decide +kernel
theorem dX3_day_29 : decode cX3_day 29 = .ok (.iconst (-1), 1) := by decide +kernel
theorem dX3_day_30 : decode cX3_day 30 = .ok (.if_icmp .eq 69, 3) := by decide +kernel
theorem dX3_day_33 : decode cX3_day 33 = .ok (.aload_n 0, 1) := by decide +kernel
theorem dX3_day_34 : decode cX3_day 34 = .ok (.getfield 63, 3) := by decide +kernel
theorem dX3_day_37 : decode cX3_day 37 = .ok (.iload_n 3, 1) := by decide +kernel
theorem dX3_day_38 : decode cX3_day 38 = .ok (.iconst 1, 1) := by decide +kernel
theorem dX3_day_39 : decode cX3_day 39 = .ok (.bastore, 1) := by decide +kernel
theorem dX3_day_40 : decode cX3_day 40 = .ok (.aload_n 0, 1) := by decide +kernel
theorem dX3_day_41 : decode cX3_day 41 = .ok (.aload_n 0, 1) := by decide +kernel
theorem dX3_day_42 : decode cX3_day 42 = .ok (.getfield 48, 3) := by decide +kernel
theorem dX3_day_45 : decode cX3_day 45 = .ok (.iload_n 3, 1) := by decide +kernel
theorem dX3_day_46 : decode cX3_day 46 = .ok (.iaload, 1) := by decide +kernel
theorem dX3_day_47 : decode cX3_day 47 = .ok (.aload_n 0, 1) := by decide +kernel
theorem dX3_day_48 : decode cX3_day 48 = .ok (.getfield 45, 3) := by decide +kernel
theorem dX3_day_51 : decode cX3_day 51 = .ok (.iload_n 3, 1) := by decide +kernel
theorem dX3_day_52 : decode cX3_day 52 = .ok (.iaload, 1) := by decide +kernel
theorem dX3_day_53 : decode cX3_day 53 = .ok (.invokevirtual 110, 3) := by decide +kernel
theorem dX3_day_56 : decode cX3_day 56 = .ok (.ifCond .eq 34, 3) := by decide +kernel
theorem dX3_day_59 : decode cX3_day 59 = .ok (.aload_n 0, 1) := by decide +kernel
theorem dX3_day_60 : decode cX3_day 60 = .ok (.getfield 60, 3) := by decide +kernel
theorem dX3_day_63 : decode cX3_day 63 = .ok (.iload_n 3, 1) := by decide +kernel
theorem dX3_day_64 : decode cX3_day 64 = .ok (.aload_n 0, 1) := by decide +kernel
theorem dX3_day_65 : decode cX3_day 65 = .ok (.aload_n 0, 1) := by decide +kernel
theorem dX3_day_66 : decode cX3_day 66 = .ok (.getfield 48, 3) := by decide +kernel
theorem dX3_day_69 : decode cX3_day 69 = .ok (.iload_n 3, 1) := by decide +kernel
theorem dX3_day_70 : decode cX3_day 70 = .ok (.iaload, 1) := by decide +kernel
theorem dX3_day_71 : decode cX3_day 71 = .ok (.aload_n 0, 1) := by decide +kernel
theorem dX3_day_72 : decode cX3_day 72 = .ok (.getfield 45, 3) := by decide +kernel
theorem dX3_day_75 : decode cX3_day 75 = .ok (.iload_n 3, 1) := by decide +kernel
theorem dX3_day_76 : decode cX3_day 76 = .ok (.iaload, 1) := by decide +kernel
theorem dX3_day_77 : decode cX3_day 77 = .ok (.aload_n 0, 1) := by decide +kernel
theorem dX3_day_78 : decode cX3_day 78 = .ok (.getfield 54, 3) := by decide +kernel
theorem dX3_day_81 : decode cX3_day 81 = .ok (.iload_n 3, 1) := by decide +kernel
theorem dX3_day_82 : decode cX3_day 82 = .ok (.iaload, 1) := by decide +kernel
theorem dX3_day_83 : decode cX3_day 83 = .ok (.invokevirtual 113, 3) := by decide +kernel
theorem dX3_day_86 : decode cX3_day 86 = .ok (.iastore, 1) := by decide +kernel
theorem dX3_day_87 : decode cX3_day 87 = .ok (.iinc 1 1, 3) := by decide +kernel
theorem dX3_day_90 : decode cX3_day 90 = .ok (.aload_n 0, 1) := by decide +kernel
theorem dX3_day_91 : decode cX3_day 91 = .ok (.iload_n 2, 1) := by decide +kernel
theorem dX3_day_92 : decode cX3_day 92 = .ok (.invokevirtual 130, 3) := by decide +kernel
theorem dX3_day_95 : decode cX3_day 95 = .ok (.istore_n 3, 1) := by decide +kernel
theorem dX3_day_96 : decode cX3_day 96 = .ok (.goto (-68), 3) := by decide +kernel
theorem dX3_day_99 : decode cX3_day 99 = .ok (.iload_n 1, 1) := by decide +kernel
theorem dX3_day_100 : decode cX3_day 100 = .ok (.ireturn, 1) := by decide +kernel
set_option maxRecDepth 20000 in
theorem ggX3_pass_X3_in : GoodIn wsX3_pass wsX3_in := goodIn_r _ [6] (by decide +kernel) (by decide +kernel)
set_option maxRecDepth 20000 in
theorem gX3_pass_X3_in : GoodIn wsX3_pass (va_wsS RX3 72 yX3_in wsX3_in) := goodIn_app (goodIn_of _ (by decide +kernel)) ggX3_pass_X3_in
set_option maxRecDepth 20000 in
theorem ggX3_pass_X3_day : GoodIn wsX3_pass wsX3_day := goodIn_r _ [10, 11, 1, 12, 13, 14, 15, 16, 17, 18, 19, 5, 20, 21, 22, 23, 24, 25, 26, 27, 28, 29, 30, 31, 32, 33, 34, 35, 36, 37, 38, 39, 40, 41, 42, 43, 44, 45, 46, 47, 48, 49, 50, 51, 52, 53, 54, 3, 4, 6, 55, 56, 57, 58, 59, 60, 61, 62, 63, 64, 65, 66, 67, 68, 69, 70, 71, 72, 73, 74, 75, 76, 77, 78, 79, 80, 81, 82, 83, 84, 85, 86, 87, 88, 89] (by decide +kernel) (by decide +kernel)
set_option maxRecDepth 20000 in
theorem gX3_pass_X3_day : GoodIn wsX3_pass (wsV RX3 133 RX3 yX3_day wsX3_day) := goodIn_app (goodIn_of _ (by decide +kernel)) ggX3_pass_X3_day
theorem dX3_pass_0 : decode cX3_pass 0 = .ok (.aload_n 0, 1) := by decide +kernel
theorem dX3_pass_1 : decode cX3_pass 1 = .ok (.iload_n 1, 1) := by decide +kernel
theorem dX3_pass_2 : decode cX3_pass 2 = .ok (.iconst 1, 1) := by decide +kernel
theorem dX3_pass_3 : decode cX3_pass 3 = .ok (.bipush 100, 2) := by decide +kernel
theorem dX3_pass_5 : decode cX3_pass 5 = .ok (.invokestatic 72, 3) := by decide +kernel
theorem dX3_pass_8 : decode cX3_pass 8 = .ok (.ifCond .ne 7, 3) := by decide +kernel
theorem dX3_pass_11 : decode cX3_pass 11 = .ok (.iconst 1, 1) := by decide +kernel
theorem dX3_pass_12 : decode cX3_pass 12 = .ok (.goto 20, 3) := by decide +kernel
theorem dX3_pass_15 : decode cX3_pass 15 = .ok (.aload_n 0, 1) := by decide +kernel
theorem dX3_pass_16 : decode cX3_pass 16 = .ok (.getfield 96, 3) := by decide +kernel
theorem dX3_pass_19 : decode cX3_pass 19 = .ok (.iload_n 1, 1) := by decide +kernel
theorem dX3_pass_20 : decode cX3_pass 20 = .ok (.iadd, 1) := by decide +kernel
theorem dX3_pass_21 : decode cX3_pass 21 = .ok (.sipush 3000, 3) := by decide +kernel
theorem dX3_pass_24 : decode cX3_pass 24 = .ok (.if_icmp .le 7, 3) := by decide +kernel
theorem dX3_pass_27 : decode cX3_pass 27 = .ok (.iconst 2, 1) := by decide +kernel
theorem dX3_pass_28 : decode cX3_pass 28 = .ok (.goto 4, 3) := by decide +kernel
theorem dX3_pass_31 : decode cX3_pass 31 = .ok (.iconst 0, 1) := by decide +kernel
theorem dX3_pass_32 : decode cX3_pass 32 = .ok (.putfield 66, 3) := by decide +kernel
theorem dX3_pass_35 : decode cX3_pass 35 = .ok (.iconst 0, 1) := by decide +kernel
theorem dX3_pass_36 : decode cX3_pass 36 = .ok (.istore_n 2, 1) := by decide +kernel
theorem dX3_pass_37 : decode cX3_pass 37 = .ok (.iconst 0, 1) := by decide +kernel
theorem dX3_pass_38 : decode cX3_pass 38 = .ok (.istore_n 3, 1) := by decide +kernel
theorem dX3_pass_39 : decode cX3_pass 39 = .ok (.iload_n 3, 1) := by decide +kernel
theorem dX3_pass_40 : decode cX3_pass 40 = .ok (.iload_n 1, 1) := by decide +kernel
theorem dX3_pass_41 : decode cX3_pass 41 = .ok (.if_icmp .ge 23, 3) := by decide +kernel
theorem dX3_pass_44 : decode cX3_pass 44 = .ok (.aload_n 0, 1) := by decide +kernel
theorem dX3_pass_45 : decode cX3_pass 45 = .ok (.getfield 66, 3) := by decide +kernel
theorem dX3_pass_48 : decode cX3_pass 48 = .ok (.ifCond .ne 16, 3) := by decide +kernel
theorem dX3_pass_51 : decode cX3_pass 51 = .ok (.iload_n 2, 1) := by decide +kernel
theorem dX3_pass_52 : decode cX3_pass 52 = .ok (.aload_n 0, 1) := by decide +kernel
theorem dX3_pass_53 : decode cX3_pass 53 = .ok (.invokevirtual 133, 3) := by decide +kernel
theorem dX3_pass_56 : decode cX3_pass 56 = .ok (.iadd, 1) := by decide +kernel
theorem dX3_pass_57 : decode cX3_pass 57 = .ok (.istore_n 2, 1) := by decide +kernel
theorem dX3_pass_58 : decode cX3_pass 58 = .ok (.iinc 3 1, 3) := by decide +kernel
theorem dX3_pass_61 : decode cX3_pass 61 = .ok (.goto (-22), 3) := by decide +kernel
theorem dX3_pass_64 : decode cX3_pass 64 = .ok (.iload_n 2, 1) := by decide +kernel
theorem dX3_pass_65 : decode cX3_pass 65 = .ok (.ireturn, 1) := by decide +kernel
theorem dX3_today_0 : decode cX3_today 0 = .ok (.aload_n 0, 1) := by decide +kernel
theorem dX3_today_1 : decode cX3_today 1 = .ok (.iconst 0, 1) := by decide +kernel
theorem dX3_today_2 : decode cX3_today 2 = .ok (.putfield 66, 3) := by decide +kernel
theorem dX3_today_5 : decode cX3_today 5 = .ok (.aload_n 0, 1) := by decide +kernel
theorem dX3_today_6 : decode cX3_today 6 = .ok (.getfield 96, 3) := by decide +kernel
theorem dX3_today_9 : decode cX3_today 9 = .ok (.ireturn, 1) := by decide +kernel
theorem dX3_issuers_0 : decode cX3_issuers 0 = .ok (.aload_n 0, 1) := by decide +kernel
theorem dX3_issuers_1 : decode cX3_issuers 1 = .ok (.iconst 0, 1) := by decide +kernel
theorem dX3_issuers_2 : decode cX3_issuers 2 = .ok (.putfield 66, 3) := by decide +kernel
theorem dX3_issuers_5 : decode cX3_issuers 5 = .ok (.aload_n 0, 1) := by decide +kernel
theorem dX3_issuers_6 : decode cX3_issuers 6 = .ok (.getfield 69, 3) := by decide +kernel
theorem dX3_issuers_9 : decode cX3_issuers 9 = .ok (.ireturn, 1) := by decide +kernel
theorem dX3_certificates_0 : decode cX3_certificates 0 = .ok (.aload_n 0, 1) := by decide +kernel
theorem dX3_certificates_1 : decode cX3_certificates 1 = .ok (.iconst 0, 1) := by decide +kernel
theorem dX3_certificates_2 : decode cX3_certificates 2 = .ok (.putfield 66, 3) := by decide +kernel
theorem dX3_certificates_5 : decode cX3_certificates 5 = .ok (.aload_n 0, 1) := by decide +kernel
theorem dX3_certificates_6 : decode cX3_certificates 6 = .ok (.getfield 76, 3) := by decide +kernel
theorem dX3_certificates_9 : decode cX3_certificates 9 = .ok (.ireturn, 1) := by decide +kernel
set_option maxRecDepth 20000 in
theorem ggX3_issuerOf_X3_isCert : GoodIn wsX3_issuerOf wsX3_isCert := goodIn_r _ [7, 8, 9, 10, 6, 11, 16, 17, 18, 19, 20, 21, 22, 23, 24, 25, 26, 27, 28, 29, 30, 31, 32, 33, 34, 35, 36, 37] (by decide +kernel) (by decide +kernel)
set_option maxRecDepth 20000 in
theorem gX3_issuerOf_X3_isCert : GoodIn wsX3_issuerOf (wsV RX3 137 RX3 yX3_isCert wsX3_isCert) := goodIn_app (goodIn_of _ (by decide +kernel)) ggX3_issuerOf_X3_isCert
set_option maxRecDepth 20000 in
theorem ggX3_issuerOf_X3_fails : GoodIn wsX3_issuerOf wsX3_fails := goodIn_r _ [15, 1, 16, 17, 18, 19, 20, 21, 22, 23, 24, 25, 26, 27, 28, 29, 30, 31, 32, 33, 34, 35, 36, 37] (by decide +kernel) (by decide +kernel)
set_option maxRecDepth 20000 in
theorem gX3_issuerOf_X3_fails : GoodIn wsX3_issuerOf (wsV RX3 83 RX3 yX3_fails wsX3_fails) := goodIn_app (goodIn_of _ (by decide +kernel)) ggX3_issuerOf_X3_fails
theorem dX3_issuerOf_0 : decode cX3_issuerOf 0 = .ok (.aload_n 0, 1) := by decide +kernel
theorem dX3_issuerOf_1 : decode cX3_issuerOf 1 = .ok (.iconst 0, 1) := by decide +kernel
theorem dX3_issuerOf_2 : decode cX3_issuerOf 2 = .ok (.putfield 66, 3) := by decide +kernel
theorem dX3_issuerOf_5 : decode cX3_issuerOf 5 = .ok (.aload_n 0, 1) := by decide +kernel
theorem dX3_issuerOf_6 : decode cX3_issuerOf 6 = .ok (.iload_n 1, 1) := by decide +kernel
theorem dX3_issuerOf_7 : decode cX3_issuerOf 7 = .ok (.invokevirtual 137, 3) := by decide +kernel
theorem dX3_issuerOf_10 : decode cX3_issuerOf 10 = .ok (.ifCond .eq 12, 3) := by decide +kernel
theorem dX3_issuerOf_13 : decode cX3_issuerOf 13 = .ok (.aload_n 0, 1) := by decide +kernel
theorem dX3_issuerOf_14 : decode cX3_issuerOf 14 = .ok (.getfield 48, 3) := by decide +kernel
theorem dX3_issuerOf_17 : decode cX3_issuerOf 17 = .ok (.iload_n 1, 1) := by decide +kernel
theorem dX3_issuerOf_18 : decode cX3_issuerOf 18 = .ok (.iaload, 1) := by decide +kernel
theorem dX3_issuerOf_19 : decode cX3_issuerOf 19 = .ok (.goto 8, 3) := by decide +kernel
theorem dX3_issuerOf_22 : decode cX3_issuerOf 22 = .ok (.aload_n 0, 1) := by decide +kernel
theorem dX3_issuerOf_23 : decode cX3_issuerOf 23 = .ok (.iconst 1, 1) := by decide +kernel
theorem dX3_issuerOf_24 : decode cX3_issuerOf 24 = .ok (.invokevirtual 83, 3) := by decide +kernel
theorem dX3_issuerOf_27 : decode cX3_issuerOf 27 = .ok (.ireturn, 1) := by decide +kernel
set_option maxRecDepth 20000 in
theorem ggX3_lastDay_X3_isCert : GoodIn wsX3_lastDay wsX3_isCert := goodIn_r _ [6, 7, 8, 9, 5, 10, 21, 22, 23, 24, 25, 26, 27, 28, 29, 30, 31, 32, 33, 34, 35, 36, 37, 38, 39, 40, 41, 42] (by decide +kernel) (by decide +kernel)
set_option maxRecDepth 20000 in
theorem gX3_lastDay_X3_isCert : GoodIn wsX3_lastDay (wsV RX3 137 RX3 yX3_isCert wsX3_isCert) := goodIn_app (goodIn_of _ (by decide +kernel)) ggX3_lastDay_X3_isCert
set_option maxRecDepth 20000 in
theorem ggX3_lastDay_X3_last : GoodIn wsX3_lastDay wsX3_last := goodIn_r _ [14, 15, 16, 21, 22, 23, 24, 25, 26, 27, 28, 29, 30, 31, 32, 33, 34, 35, 36, 37, 38, 39, 40, 41, 42] (by decide +kernel) (by decide +kernel)
set_option maxRecDepth 20000 in
theorem gX3_lastDay_X3_last : GoodIn wsX3_lastDay (wsV RX3 120 RX3 yX3_last wsX3_last) := goodIn_app (goodIn_of _ (by decide +kernel)) ggX3_lastDay_X3_last
set_option maxRecDepth 20000 in
theorem ggX3_lastDay_X3_fails : GoodIn wsX3_lastDay wsX3_fails := goodIn_r _ [20, 1, 21, 22, 23, 24, 25, 26, 27, 28, 29, 30, 31, 32, 33, 34, 35, 36, 37, 38, 39, 40, 41, 42] (by decide +kernel) (by decide +kernel)
set_option maxRecDepth 20000 in
theorem gX3_lastDay_X3_fails : GoodIn wsX3_lastDay (wsV RX3 83 RX3 yX3_fails wsX3_fails) := goodIn_app (goodIn_of _ (by decide +kernel)) ggX3_lastDay_X3_fails
theorem dX3_lastDay_0 : decode cX3_lastDay 0 = .ok (.aload_n 0, 1) := by decide +kernel
theorem dX3_lastDay_1 : decode cX3_lastDay 1 = .ok (.iconst 0, 1) := by decide +kernel
theorem dX3_lastDay_2 : decode cX3_lastDay 2 = .ok (.putfield 66, 3) := by decide +kernel
theorem dX3_lastDay_5 : decode cX3_lastDay 5 = .ok (.aload_n 0, 1) := by decide +kernel
theorem dX3_lastDay_6 : decode cX3_lastDay 6 = .ok (.iload_n 1, 1) := by decide +kernel
theorem dX3_lastDay_7 : decode cX3_lastDay 7 = .ok (.invokevirtual 137, 3) := by decide +kernel
theorem dX3_lastDay_10 : decode cX3_lastDay 10 = .ok (.ifCond .eq 11, 3) := by decide +kernel
theorem dX3_lastDay_13 : decode cX3_lastDay 13 = .ok (.aload_n 0, 1) := by decide +kernel
theorem dX3_lastDay_14 : decode cX3_lastDay 14 = .ok (.iload_n 1, 1) := by decide +kernel
theorem dX3_lastDay_15 : decode cX3_lastDay 15 = .ok (.invokevirtual 120, 3) := by decide +kernel
theorem dX3_lastDay_18 : decode cX3_lastDay 18 = .ok (.goto 8, 3) := by decide +kernel
theorem dX3_lastDay_21 : decode cX3_lastDay 21 = .ok (.aload_n 0, 1) := by decide +kernel
theorem dX3_lastDay_22 : decode cX3_lastDay 22 = .ok (.iconst 1, 1) := by decide +kernel
theorem dX3_lastDay_23 : decode cX3_lastDay 23 = .ok (.invokevirtual 83, 3) := by decide +kernel
theorem dX3_lastDay_26 : decode cX3_lastDay 26 = .ok (.ireturn, 1) := by decide +kernel
set_option maxRecDepth 20000 in
theorem ggX3_dueOn_X3_isCert : GoodIn wsX3_dueOn wsX3_isCert := goodIn_r _ [6, 7, 8, 9, 5, 10, 22, 23, 24, 25, 26, 27, 28, 29, 30, 31, 32, 33, 34, 35, 36, 37, 38, 39, 40, 41, 42, 43] (by decide +kernel) (by decide +kernel)
set_option maxRecDepth 20000 in
theorem gX3_dueOn_X3_isCert : GoodIn wsX3_dueOn (wsV RX3 137 RX3 yX3_isCert wsX3_isCert) := goodIn_app (goodIn_of _ (by decide +kernel)) ggX3_dueOn_X3_isCert
set_option maxRecDepth 20000 in
theorem ggX3_dueOn_X3_due : GoodIn wsX3_dueOn wsX3_due := goodIn_r _ [14, 15, 16, 17, 22, 23, 24, 25, 26, 27, 28, 29, 30, 31, 32, 33, 34, 35, 36, 37, 38, 39, 40, 41, 42, 43] (by decide +kernel) (by decide +kernel)
set_option maxRecDepth 20000 in
theorem gX3_dueOn_X3_due : GoodIn wsX3_dueOn (wsV RX3 117 RX3 yX3_due wsX3_due) := goodIn_app (goodIn_of _ (by decide +kernel)) ggX3_dueOn_X3_due
set_option maxRecDepth 20000 in
theorem ggX3_dueOn_X3_fails : GoodIn wsX3_dueOn wsX3_fails := goodIn_r _ [21, 1, 22, 23, 24, 25, 26, 27, 28, 29, 30, 31, 32, 33, 34, 35, 36, 37, 38, 39, 40, 41, 42, 43] (by decide +kernel) (by decide +kernel)
set_option maxRecDepth 20000 in
theorem gX3_dueOn_X3_fails : GoodIn wsX3_dueOn (wsV RX3 83 RX3 yX3_fails wsX3_fails) := goodIn_app (goodIn_of _ (by decide +kernel)) ggX3_dueOn_X3_fails
theorem dX3_dueOn_0 : decode cX3_dueOn 0 = .ok (.aload_n 0, 1) := by decide +kernel
theorem dX3_dueOn_1 : decode cX3_dueOn 1 = .ok (.iconst 0, 1) := by decide +kernel
theorem dX3_dueOn_2 : decode cX3_dueOn 2 = .ok (.putfield 66, 3) := by decide +kernel
theorem dX3_dueOn_5 : decode cX3_dueOn 5 = .ok (.aload_n 0, 1) := by decide +kernel
theorem dX3_dueOn_6 : decode cX3_dueOn 6 = .ok (.iload_n 1, 1) := by decide +kernel
theorem dX3_dueOn_7 : decode cX3_dueOn 7 = .ok (.invokevirtual 137, 3) := by decide +kernel
theorem dX3_dueOn_10 : decode cX3_dueOn 10 = .ok (.ifCond .eq 11, 3) := by decide +kernel
theorem dX3_dueOn_13 : decode cX3_dueOn 13 = .ok (.aload_n 0, 1) := by decide +kernel
theorem dX3_dueOn_14 : decode cX3_dueOn 14 = .ok (.iload_n 1, 1) := by decide +kernel
theorem dX3_dueOn_15 : decode cX3_dueOn 15 = .ok (.invokevirtual 117, 3) := by decide +kernel
theorem dX3_dueOn_18 : decode cX3_dueOn 18 = .ok (.goto 8, 3) := by decide +kernel
theorem dX3_dueOn_21 : decode cX3_dueOn 21 = .ok (.aload_n 0, 1) := by decide +kernel
theorem dX3_dueOn_22 : decode cX3_dueOn 22 = .ok (.iconst 1, 1) := by decide +kernel
theorem dX3_dueOn_23 : decode cX3_dueOn 23 = .ok (.invokevirtual 83, 3) := by decide +kernel
theorem dX3_dueOn_26 : decode cX3_dueOn 26 = .ok (.ireturn, 1) := by decide +kernel
set_option maxRecDepth 20000 in
theorem ggX3_renewal_X3_isCert : GoodIn wsX3_renewal wsX3_isCert := goodIn_r _ [7, 8, 9, 10, 6, 11, 16, 17, 18, 19, 20, 21, 22, 23, 24, 25, 26, 27, 28, 29, 30, 31, 32, 33, 34, 35, 36, 37] (by decide +kernel) (by decide +kernel)
set_option maxRecDepth 20000 in
theorem gX3_renewal_X3_isCert : GoodIn wsX3_renewal (wsV RX3 137 RX3 yX3_isCert wsX3_isCert) := goodIn_app (goodIn_of _ (by decide +kernel)) ggX3_renewal_X3_isCert
set_option maxRecDepth 20000 in
theorem ggX3_renewal_X3_fails : GoodIn wsX3_renewal wsX3_fails := goodIn_r _ [15, 1, 16, 17, 18, 19, 20, 21, 22, 23, 24, 25, 26, 27, 28, 29, 30, 31, 32, 33, 34, 35, 36, 37] (by decide +kernel) (by decide +kernel)
set_option maxRecDepth 20000 in
theorem gX3_renewal_X3_fails : GoodIn wsX3_renewal (wsV RX3 83 RX3 yX3_fails wsX3_fails) := goodIn_app (goodIn_of _ (by decide +kernel)) ggX3_renewal_X3_fails
theorem dX3_renewal_0 : decode cX3_renewal 0 = .ok (.aload_n 0, 1) := by decide +kernel
theorem dX3_renewal_1 : decode cX3_renewal 1 = .ok (.iconst 0, 1) := by decide +kernel
theorem dX3_renewal_2 : decode cX3_renewal 2 = .ok (.putfield 66, 3) := by decide +kernel
theorem dX3_renewal_5 : decode cX3_renewal 5 = .ok (.aload_n 0, 1) := by decide +kernel
theorem dX3_renewal_6 : decode cX3_renewal 6 = .ok (.iload_n 1, 1) := by decide +kernel
theorem dX3_renewal_7 : decode cX3_renewal 7 = .ok (.invokevirtual 137, 3) := by decide +kernel
theorem dX3_renewal_10 : decode cX3_renewal 10 = .ok (.ifCond .eq 12, 3) := by decide +kernel
theorem dX3_renewal_13 : decode cX3_renewal 13 = .ok (.aload_n 0, 1) := by decide +kernel
theorem dX3_renewal_14 : decode cX3_renewal 14 = .ok (.getfield 60, 3) := by decide +kernel
theorem dX3_renewal_17 : decode cX3_renewal 17 = .ok (.iload_n 1, 1) := by decide +kernel
theorem dX3_renewal_18 : decode cX3_renewal 18 = .ok (.iaload, 1) := by decide +kernel
theorem dX3_renewal_19 : decode cX3_renewal 19 = .ok (.goto 8, 3) := by decide +kernel
theorem dX3_renewal_22 : decode cX3_renewal 22 = .ok (.aload_n 0, 1) := by decide +kernel
theorem dX3_renewal_23 : decode cX3_renewal 23 = .ok (.iconst 1, 1) := by decide +kernel
theorem dX3_renewal_24 : decode cX3_renewal 24 = .ok (.invokevirtual 83, 3) := by decide +kernel
theorem dX3_renewal_27 : decode cX3_renewal 27 = .ok (.ireturn, 1) := by decide +kernel
set_option maxRecDepth 20000 in
theorem ggX3_waiting_X3_waits : GoodIn wsX3_waiting wsX3_waits := goodIn_r _ [7, 8, 9, 10, 11, 12, 6, 13, 14, 15, 16, 17, 18, 19, 20, 21, 22, 23, 24, 25, 26, 27, 28, 29, 30, 31, 32, 33, 34, 35, 36, 37, 38, 39, 40, 41, 42] (by decide +kernel) (by decide +kernel)
set_option maxRecDepth 20000 in
theorem gX3_waiting_X3_waits : GoodIn wsX3_waiting (wsV RX3 123 RX3 yX3_waits wsX3_waits) := goodIn_app (goodIn_of _ (by decide +kernel)) ggX3_waiting_X3_waits
theorem dX3_waiting_0 : decode cX3_waiting 0 = .ok (.aload_n 0, 1) := by decide +kernel
theorem dX3_waiting_1 : decode cX3_waiting 1 = .ok (.iconst 0, 1) := by decide +kernel
theorem dX3_waiting_2 : decode cX3_waiting 2 = .ok (.putfield 66, 3) := by decide +kernel
theorem dX3_waiting_5 : decode cX3_waiting 5 = .ok (.iconst 0, 1) := by decide +kernel
theorem dX3_waiting_6 : decode cX3_waiting 6 = .ok (.istore_n 1, 1) := by decide +kernel
theorem dX3_waiting_7 : decode cX3_waiting 7 = .ok (.iconst 0, 1) := by decide +kernel
theorem dX3_waiting_8 : decode cX3_waiting 8 = .ok (.istore_n 2, 1) := by decide +kernel
theorem dX3_waiting_9 : decode cX3_waiting 9 = .ok (.iload_n 2, 1) := by decide +kernel
theorem dX3_waiting_10 : decode cX3_waiting 10 = .ok (.aload_n 0, 1) := by decide +kernel
theorem dX3_waiting_11 : decode cX3_waiting 11 = .ok (.getfield 76, 3) := by decide +kernel
theorem dX3_waiting_14 : decode cX3_waiting 14 = .ok (.if_icmp .ge 25, 3) := by decide +kernel
theorem dX3_waiting_17 : decode cX3_waiting 17 = .ok (.iload_n 1, 1) := by decide +kernel
theorem dX3_waiting_18 : decode cX3_waiting 18 = .ok (.aload_n 0, 1) := by decide +kernel
theorem dX3_waiting_19 : decode cX3_waiting 19 = .ok (.iload_n 2, 1) := by decide +kernel
theorem dX3_waiting_20 : decode cX3_waiting 20 = .ok (.invokevirtual 123, 3) := by decide +kernel
theorem dX3_waiting_23 : decode cX3_waiting 23 = .ok (.ifCond .eq 7, 3) := by decide +kernel
theorem dX3_waiting_26 : decode cX3_waiting 26 = .ok (.iconst 1, 1) := by decide +kernel
theorem dX3_waiting_27 : decode cX3_waiting 27 = .ok (.goto 4, 3) := by decide +kernel
theorem dX3_waiting_30 : decode cX3_waiting 30 = .ok (.iconst 0, 1) := by decide +kernel
theorem dX3_waiting_31 : decode cX3_waiting 31 = .ok (.iadd, 1) := by decide +kernel
theorem dX3_waiting_32 : decode cX3_waiting 32 = .ok (.istore_n 1, 1) := by decide +kernel
theorem dX3_waiting_33 : decode cX3_waiting 33 = .ok (.iinc 2 1, 3) := by decide +kernel
theorem dX3_waiting_36 : decode cX3_waiting 36 = .ok (.goto (-27), 3) := by decide +kernel
theorem dX3_waiting_39 : decode cX3_waiting 39 = .ok (.iload_n 1, 1) := by decide +kernel
theorem dX3_waiting_40 : decode cX3_waiting 40 = .ok (.ireturn, 1) := by decide +kernel
set_option maxRecDepth 20000 in
theorem ggX3_waitingAt_X3_sees : GoodIn wsX3_waitingAt wsX3_sees := goodIn_r _ [8, 3, 34, 35, 36, 37, 38, 39, 40, 41, 42, 43, 44, 45, 46, 47, 48, 49, 50, 51, 52, 53, 54, 55] (by decide +kernel) (by decide +kernel)
set_option maxRecDepth 20000 in
theorem gX3_waitingAt_X3_sees : GoodIn wsX3_waitingAt (wsV RX3 126 RX3 yX3_sees wsX3_sees) := goodIn_app (goodIn_of _ (by decide +kernel)) ggX3_waitingAt_X3_sees
set_option maxRecDepth 20000 in
theorem ggX3_waitingAt_X3_nextWaiting : GoodIn wsX3_waitingAt wsX3_nextWaiting := goodIn_r _ [12, 3, 13, 14, 15, 7, 16, 17, 18, 19, 20, 21, 22, 23, 24, 25, 26, 27, 28, 29, 34, 35, 36, 37, 38, 39, 40, 41, 42, 43, 44, 45, 46, 47, 48, 49, 50, 51, 52, 53, 54, 55] (by decide +kernel) (by decide +kernel)
set_option maxRecDepth 20000 in
theorem gX3_waitingAt_X3_nextWaiting : GoodIn wsX3_waitingAt (wsV RX3 130 RX3 yX3_nextWaiting wsX3_nextWaiting) := goodIn_app (goodIn_of _ (by decide +kernel)) ggX3_waitingAt_X3_nextWaiting
set_option maxRecDepth 20000 in
theorem ggX3_waitingAt_X3_fails : GoodIn wsX3_waitingAt wsX3_fails := goodIn_r _ [33, 1, 34, 35, 36, 37, 38, 39, 40, 41, 42, 43, 44, 45, 46, 47, 48, 49, 50, 51, 52, 53, 54, 55] (by decide +kernel) (by decide +kernel)
set_option maxRecDepth 20000 in
theorem gX3_waitingAt_X3_fails : GoodIn wsX3_waitingAt (wsV RX3 83 RX3 yX3_fails wsX3_fails) := goodIn_app (goodIn_of _ (by decide +kernel)) ggX3_waitingAt_X3_fails
theorem dX3_waitingAt_0 : decode cX3_waitingAt 0 = .ok (.aload_n 0, 1) := by decide +kernel
theorem dX3_waitingAt_1 : decode cX3_waitingAt 1 = .ok (.iconst 0, 1) := by decide +kernel
theorem dX3_waitingAt_2 : decode cX3_waitingAt 2 = .ok (.putfield 66, 3) := by decide +kernel
theorem dX3_waitingAt_5 : decode cX3_waitingAt 5 = .ok (.aload_n 0, 1) := by decide +kernel
theorem dX3_waitingAt_6 : decode cX3_waitingAt 6 = .ok (.iconst 0, 1) := by decide +kernel
theorem dX3_waitingAt_7 : decode cX3_waitingAt 7 = .ok (.invokevirtual 126, 3) := by decide +kernel
theorem dX3_waitingAt_10 : decode cX3_waitingAt 10 = .ok (.iload_n 1, 1) := by decide +kernel
theorem dX3_waitingAt_11 : decode cX3_waitingAt 11 = .ok (.ifCond .ge 7, 3) := by decide +kernel
theorem dX3_waitingAt_14 : decode cX3_waitingAt 14 = .ok (.iconst (-1), 1) := by decide +kernel
theorem dX3_waitingAt_15 : decode cX3_waitingAt 15 = .ok (.goto 11, 3) := by decide +kernel
theorem dX3_waitingAt_18 : decode cX3_waitingAt 18 = .ok (.aload_n 0, 1) := by decide +kernel
theorem dX3_waitingAt_19 : decode cX3_waitingAt 19 = .ok (.aload_n 0, 1) := by decide +kernel
theorem dX3_waitingAt_20 : decode cX3_waitingAt 20 = .ok (.getfield 76, 3) := by decide +kernel
theorem dX3_waitingAt_23 : decode cX3_waitingAt 23 = .ok (.invokevirtual 130, 3) := by decide +kernel
theorem dX3_waitingAt_26 : decode cX3_waitingAt 26 = .ok (.istore_n 2, 1) := by decide +kernel
theorem dX3_waitingAt_27 : decode cX3_waitingAt 27 = .ok (.iconst 0, 1) := by decide +kernel
theorem dX3_waitingAt_28 : decode cX3_waitingAt 28 = .ok (.istore_n 3, 1) := by decide +kernel
theorem dX3_waitingAt_29 : decode cX3_waitingAt 29 = .ok (.iload_n 3, 1) := by decide +kernel
theorem dX3_waitingAt_30 : decode cX3_waitingAt 30 = .ok (.iload_n 1, 1) := by decide +kernel
theorem dX3_waitingAt_31 : decode cX3_waitingAt 31 = .ok (.if_icmp .ge 30, 3) := by decide +kernel
theorem dX3_waitingAt_34 : decode cX3_waitingAt 34 = .ok (.iload_n 2, 1) := by decide +kernel
theorem dX3_waitingAt_35 : decode cX3_waitingAt 35 = .ok (.iconst (-1), 1) := by decide +kernel
theorem dX3_waitingAt_36 : decode cX3_waitingAt 36 = .ok (.if_icmp .eq 25, 3) := by decide +kernel
theorem dX3_waitingAt_39 : decode cX3_waitingAt 39 = .ok (.aload_n 0, 1) := by decide +kernel
theorem dX3_waitingAt_40 : decode cX3_waitingAt 40 = .ok (.getfield 63, 3) := by decide +kernel
theorem dX3_waitingAt_43 : decode cX3_waitingAt 43 = .ok (.iload_n 2, 1) := by decide +kernel
theorem dX3_waitingAt_44 : decode cX3_waitingAt 44 = .ok (.iconst 1, 1) := by decide +kernel
theorem dX3_waitingAt_45 : decode cX3_waitingAt 45 = .ok (.bastore, 1) := by decide +kernel
theorem dX3_waitingAt_46 : decode cX3_waitingAt 46 = .ok (.aload_n 0, 1) := by decide +kernel
theorem dX3_waitingAt_47 : decode cX3_waitingAt 47 = .ok (.aload_n 0, 1) := by decide +kernel
theorem dX3_waitingAt_48 : decode cX3_waitingAt 48 = .ok (.getfield 76, 3) := by decide +kernel
theorem dX3_waitingAt_51 : decode cX3_waitingAt 51 = .ok (.invokevirtual 130, 3) := by decide +kernel
theorem dX3_waitingAt_54 : decode cX3_waitingAt 54 = .ok (.istore_n 2, 1) := by decide +kernel
theorem dX3_waitingAt_55 : decode cX3_waitingAt 55 = .ok (.iinc 3 1, 3) := by decide +kernel
theorem dX3_waitingAt_58 : decode cX3_waitingAt 58 = .ok (.goto (-29), 3) := by decide +kernel
theorem dX3_waitingAt_61 : decode cX3_waitingAt 61 = .ok (.iload_n 2, 1) := by decide +kernel
theorem dX3_waitingAt_62 : decode cX3_waitingAt 62 = .ok (.iconst (-1), 1) := by decide +kernel
theorem dX3_waitingAt_63 : decode cX3_waitingAt 63 = .ok (.if_icmp .ne 11, 3) := by decide +kernel
theorem dX3_waitingAt_66 : decode cX3_waitingAt 66 = .ok (.aload_n 0, 1) := by decide +kernel
theorem dX3_waitingAt_67 : decode cX3_waitingAt 67 = .ok (.iconst 1, 1) := by decide +kernel
theorem dX3_waitingAt_68 : decode cX3_waitingAt 68 = .ok (.invokevirtual 83, 3) := by decide +kernel
theorem dX3_waitingAt_71 : decode cX3_waitingAt 71 = .ok (.goto 4, 3) := by decide +kernel
theorem dX3_waitingAt_74 : decode cX3_waitingAt 74 = .ok (.iload_n 2, 1) := by decide +kernel
theorem dX3_waitingAt_75 : decode cX3_waitingAt 75 = .ok (.ireturn, 1) := by decide +kernel
set_option maxRecDepth 20000 in
theorem ggX3_room_X3_isIssuer : GoodIn wsX3_room wsX3_isIssuer := goodIn_r _ [7, 8, 9, 10, 6, 11, 24, 25, 26, 27, 28, 29, 30, 31, 32, 33, 34, 35, 36, 37, 38, 39, 40, 41, 42, 43, 44, 45] (by decide +kernel) (by decide +kernel)
set_option maxRecDepth 20000 in
theorem gX3_room_X3_isIssuer : GoodIn wsX3_room (wsV RX3 79 RX3 yX3_isIssuer wsX3_isIssuer) := goodIn_app (goodIn_of _ (by decide +kernel)) ggX3_room_X3_isIssuer
set_option maxRecDepth 20000 in
theorem ggX3_room_X3_issued : GoodIn wsX3_room wsX3_issued := goodIn_r _ [15, 16, 17, 18, 19, 24, 25, 26, 27, 28, 29, 30, 31, 32, 33, 34, 35, 36, 37, 38, 39, 40, 41, 42, 43, 44, 45] (by decide +kernel) (by decide +kernel)
set_option maxRecDepth 20000 in
theorem gX3_room_X3_issued : GoodIn wsX3_room (wsV RX3 102 RX3 yX3_issued wsX3_issued) := goodIn_app (goodIn_of _ (by decide +kernel)) ggX3_room_X3_issued
set_option maxRecDepth 20000 in
theorem ggX3_room_X3_fails : GoodIn wsX3_room wsX3_fails := goodIn_r _ [23, 1, 24, 25, 26, 27, 28, 29, 30, 31, 32, 33, 34, 35, 36, 37, 38, 39, 40, 41, 42, 43, 44, 45] (by decide +kernel) (by decide +kernel)
set_option maxRecDepth 20000 in
theorem gX3_room_X3_fails : GoodIn wsX3_room (wsV RX3 83 RX3 yX3_fails wsX3_fails) := goodIn_app (goodIn_of _ (by decide +kernel)) ggX3_room_X3_fails
theorem dX3_room_0 : decode cX3_room 0 = .ok (.aload_n 0, 1) := by decide +kernel
theorem dX3_room_1 : decode cX3_room 1 = .ok (.iconst 0, 1) := by decide +kernel
theorem dX3_room_2 : decode cX3_room 2 = .ok (.putfield 66, 3) := by decide +kernel
theorem dX3_room_5 : decode cX3_room 5 = .ok (.aload_n 0, 1) := by decide +kernel
theorem dX3_room_6 : decode cX3_room 6 = .ok (.iload_n 1, 1) := by decide +kernel
theorem dX3_room_7 : decode cX3_room 7 = .ok (.invokevirtual 79, 3) := by decide +kernel
theorem dX3_room_10 : decode cX3_room 10 = .ok (.ifCond .eq 18, 3) := by decide +kernel
theorem dX3_room_13 : decode cX3_room 13 = .ok (.aload_n 0, 1) := by decide +kernel
theorem dX3_room_14 : decode cX3_room 14 = .ok (.getfield 20, 3) := by decide +kernel
theorem dX3_room_17 : decode cX3_room 17 = .ok (.iload_n 1, 1) := by decide +kernel
theorem dX3_room_18 : decode cX3_room 18 = .ok (.iaload, 1) := by decide +kernel
theorem dX3_room_19 : decode cX3_room 19 = .ok (.aload_n 0, 1) := by decide +kernel
theorem dX3_room_20 : decode cX3_room 20 = .ok (.iload_n 1, 1) := by decide +kernel
theorem dX3_room_21 : decode cX3_room 21 = .ok (.invokevirtual 102, 3) := by decide +kernel
theorem dX3_room_24 : decode cX3_room 24 = .ok (.isub, 1) := by decide +kernel
theorem dX3_room_25 : decode cX3_room 25 = .ok (.goto 8, 3) := by decide +kernel
theorem dX3_room_28 : decode cX3_room 28 = .ok (.aload_n 0, 1) := by decide +kernel
theorem dX3_room_29 : decode cX3_room 29 = .ok (.iconst 1, 1) := by decide +kernel
theorem dX3_room_30 : decode cX3_room 30 = .ok (.invokevirtual 83, 3) := by decide +kernel
theorem dX3_room_33 : decode cX3_room 33 = .ok (.ireturn, 1) := by decide +kernel
set_option maxRecDepth 20000 in
theorem ggX3_isGood_X3_isIssuer : GoodIn wsX3_isGood wsX3_isIssuer := goodIn_r _ [6, 7, 8, 9, 5, 10, 24, 25, 26, 27, 28, 29, 30, 31, 32, 33, 34, 35, 36, 37, 38, 39, 40, 41, 42, 43, 44, 45] (by decide +kernel) (by decide +kernel)
set_option maxRecDepth 20000 in
theorem gX3_isGood_X3_isIssuer : GoodIn wsX3_isGood (wsV RX3 79 RX3 yX3_isIssuer wsX3_isIssuer) := goodIn_app (goodIn_of _ (by decide +kernel)) ggX3_isGood_X3_isIssuer
set_option maxRecDepth 20000 in
theorem ggX3_isGood_X3_isDay : GoodIn wsX3_isGood wsX3_isDay := goodIn_r _ [13, 8, 9, 5, 10] (by decide +kernel) (by decide +kernel)
set_option maxRecDepth 20000 in
theorem gX3_isGood_X3_isDay : GoodIn wsX3_isGood (va_wsS RX3 90 yX3_isDay wsX3_isDay) := goodIn_app (goodIn_of _ (by decide +kernel)) ggX3_isGood_X3_isDay
set_option maxRecDepth 20000 in
theorem ggX3_isGood_X3_holds : GoodIn wsX3_isGood wsX3_holds := goodIn_r _ [17, 18, 19, 20, 21, 22, 23, 8, 9, 5, 10, 24, 25, 26, 27, 28, 29, 30, 31, 32, 33, 34, 35, 36, 37, 38, 39, 40, 41, 42, 43, 44, 45] (by decide +kernel) (by decide +kernel)
set_option maxRecDepth 20000 in
theorem gX3_isGood_X3_holds : GoodIn wsX3_isGood (wsV RX3 99 RX3 yX3_holds wsX3_holds) := goodIn_app (goodIn_of _ (by decide +kernel)) ggX3_isGood_X3_holds
theorem dX3_isGood_0 : decode cX3_isGood 0 = .ok (.aload_n 0, 1) := by decide +kernel
theorem dX3_isGood_1 : decode cX3_isGood 1 = .ok (.aload_n 0, 1) := by decide +kernel
theorem dX3_isGood_2 : decode cX3_isGood 2 = .ok (.iload_n 1, 1) := by decide +kernel
theorem dX3_isGood_3 : decode cX3_isGood 3 = .ok (.invokevirtual 79, 3) := by decide +kernel
theorem dX3_isGood_6 : decode cX3_isGood 6 = .ok (.ifCond .ne 7, 3) := by decide +kernel
theorem dX3_isGood_9 : decode cX3_isGood 9 = .ok (.iconst 1, 1) := by decide +kernel
theorem dX3_isGood_10 : decode cX3_isGood 10 = .ok (.goto 15, 3) := by decide +kernel
theorem dX3_isGood_13 : decode cX3_isGood 13 = .ok (.iload_n 2, 1) := by decide +kernel
theorem dX3_isGood_14 : decode cX3_isGood 14 = .ok (.invokestatic 90, 3) := by decide +kernel
theorem dX3_isGood_17 : decode cX3_isGood 17 = .ok (.ifCond .eq 7, 3) := by decide +kernel
theorem dX3_isGood_20 : decode cX3_isGood 20 = .ok (.iconst 0, 1) := by decide +kernel
theorem dX3_isGood_21 : decode cX3_isGood 21 = .ok (.goto 4, 3) := by decide +kernel
theorem dX3_isGood_24 : decode cX3_isGood 24 = .ok (.iconst 2, 1) := by decide +kernel
theorem dX3_isGood_25 : decode cX3_isGood 25 = .ok (.putfield 66, 3) := by decide +kernel
theorem dX3_isGood_28 : decode cX3_isGood 28 = .ok (.aload_n 0, 1) := by decide +kernel
theorem dX3_isGood_29 : decode cX3_isGood 29 = .ok (.getfield 66, 3) := by decide +kernel
theorem dX3_isGood_32 : decode cX3_isGood 32 = .ok (.ifCond .ne 17, 3) := by decide +kernel
theorem dX3_isGood_35 : decode cX3_isGood 35 = .ok (.aload_n 0, 1) := by decide +kernel
theorem dX3_isGood_36 : decode cX3_isGood 36 = .ok (.iload_n 1, 1) := by decide +kernel
theorem dX3_isGood_37 : decode cX3_isGood 37 = .ok (.iload_n 2, 1) := by decide +kernel
theorem dX3_isGood_38 : decode cX3_isGood 38 = .ok (.iconst (-1), 1) := by decide +kernel
theorem dX3_isGood_39 : decode cX3_isGood 39 = .ok (.invokevirtual 99, 3) := by decide +kernel
theorem dX3_isGood_42 : decode cX3_isGood 42 = .ok (.ifCond .eq 7, 3) := by decide +kernel
theorem dX3_isGood_45 : decode cX3_isGood 45 = .ok (.iconst 1, 1) := by decide +kernel
theorem dX3_isGood_46 : decode cX3_isGood 46 = .ok (.goto 4, 3) := by decide +kernel
theorem dX3_isGood_49 : decode cX3_isGood 49 = .ok (.iconst 0, 1) := by decide +kernel
theorem dX3_isGood_50 : decode cX3_isGood 50 = .ok (.ireturn, 1) := by decide +kernel
set_option maxRecDepth 20000 in
theorem ggX3_chainEnd_X3_isIssuer : GoodIn wsX3_chainEnd wsX3_isIssuer := goodIn_r _ [6, 7, 8, 9, 5, 10, 23, 24, 25, 26, 27, 28, 29, 30, 31, 32, 33, 34, 35, 36, 37, 38, 39, 40, 41, 42, 43, 44] (by decide +kernel) (by decide +kernel)
set_option maxRecDepth 20000 in
theorem gX3_chainEnd_X3_isIssuer : GoodIn wsX3_chainEnd (wsV RX3 79 RX3 yX3_isIssuer wsX3_isIssuer) := goodIn_app (goodIn_of _ (by decide +kernel)) ggX3_chainEnd_X3_isIssuer
set_option maxRecDepth 20000 in
theorem ggX3_chainEnd_X3_ends : GoodIn wsX3_chainEnd wsX3_ends := goodIn_r _ [14, 15, 16, 17, 18, 23, 24, 25, 26, 27, 28, 29, 30, 31, 32, 33, 34, 35, 36, 37, 38, 39, 40, 41, 42, 43, 44] (by decide +kernel) (by decide +kernel)
set_option maxRecDepth 20000 in
theorem gX3_chainEnd_X3_ends : GoodIn wsX3_chainEnd (wsV RX3 87 RX3 yX3_ends wsX3_ends) := goodIn_app (goodIn_of _ (by decide +kernel)) ggX3_chainEnd_X3_ends
set_option maxRecDepth 20000 in
theorem ggX3_chainEnd_X3_fails : GoodIn wsX3_chainEnd wsX3_fails := goodIn_r _ [22, 1, 23, 24, 25, 26, 27, 28, 29, 30, 31, 32, 33, 34, 35, 36, 37, 38, 39, 40, 41, 42, 43, 44] (by decide +kernel) (by decide +kernel)
set_option maxRecDepth 20000 in
theorem gX3_chainEnd_X3_fails : GoodIn wsX3_chainEnd (wsV RX3 83 RX3 yX3_fails wsX3_fails) := goodIn_app (goodIn_of _ (by decide +kernel)) ggX3_chainEnd_X3_fails
theorem dX3_chainEnd_0 : decode cX3_chainEnd 0 = .ok (.aload_n 0, 1) := by decide +kernel
theorem dX3_chainEnd_1 : decode cX3_chainEnd 1 = .ok (.iconst 0, 1) := by decide +kernel
theorem dX3_chainEnd_2 : decode cX3_chainEnd 2 = .ok (.putfield 66, 3) := by decide +kernel
theorem dX3_chainEnd_5 : decode cX3_chainEnd 5 = .ok (.aload_n 0, 1) := by decide +kernel
theorem dX3_chainEnd_6 : decode cX3_chainEnd 6 = .ok (.iload_n 1, 1) := by decide +kernel
theorem dX3_chainEnd_7 : decode cX3_chainEnd 7 = .ok (.invokevirtual 79, 3) := by decide +kernel
theorem dX3_chainEnd_10 : decode cX3_chainEnd 10 = .ok (.ifCond .eq 11, 3) := by decide +kernel
theorem dX3_chainEnd_13 : decode cX3_chainEnd 13 = .ok (.aload_n 0, 1) := by decide +kernel
theorem dX3_chainEnd_14 : decode cX3_chainEnd 14 = .ok (.iload_n 1, 1) := by decide +kernel
theorem dX3_chainEnd_15 : decode cX3_chainEnd 15 = .ok (.invokevirtual 87, 3) := by decide +kernel
theorem dX3_chainEnd_18 : decode cX3_chainEnd 18 = .ok (.goto 8, 3) := by decide +kernel
theorem dX3_chainEnd_21 : decode cX3_chainEnd 21 = .ok (.aload_n 0, 1) := by decide +kernel
theorem dX3_chainEnd_22 : decode cX3_chainEnd 22 = .ok (.iconst 1, 1) := by decide +kernel
theorem dX3_chainEnd_23 : decode cX3_chainEnd 23 = .ok (.invokevirtual 83, 3) := by decide +kernel
theorem dX3_chainEnd_26 : decode cX3_chainEnd 26 = .ok (.ireturn, 1) := by decide +kernel
set_option maxRecDepth 20000 in
theorem ggX3_chains_X3_isIssuer : GoodIn wsX3_chains wsX3_isIssuer := goodIn_r _ [6, 7, 8, 9, 5, 10, 22, 23, 24, 25, 26, 27, 28, 29, 30, 31, 32, 33, 34, 35, 36, 37, 38, 39, 40, 41, 42, 43] (by decide +kernel) (by decide +kernel)
set_option maxRecDepth 20000 in
theorem gX3_chains_X3_isIssuer : GoodIn wsX3_chains (wsV RX3 79 RX3 yX3_isIssuer wsX3_isIssuer) := goodIn_app (goodIn_of _ (by decide +kernel)) ggX3_chains_X3_isIssuer
set_option maxRecDepth 20000 in
theorem ggX3_chains_X3_ways : GoodIn wsX3_chains wsX3_ways := goodIn_r _ [14, 15, 16, 17, 22, 23, 24, 25, 26, 27, 28, 29, 30, 31, 32, 33, 34, 35, 36, 37, 38, 39, 40, 41, 42, 43] (by decide +kernel) (by decide +kernel)
set_option maxRecDepth 20000 in
theorem gX3_chains_X3_ways : GoodIn wsX3_chains (wsV RX3 140 RX3 yX3_ways wsX3_ways) := goodIn_app (goodIn_of _ (by decide +kernel)) ggX3_chains_X3_ways
set_option maxRecDepth 20000 in
theorem ggX3_chains_X3_fails : GoodIn wsX3_chains wsX3_fails := goodIn_r _ [21, 1, 22, 23, 24, 25, 26, 27, 28, 29, 30, 31, 32, 33, 34, 35, 36, 37, 38, 39, 40, 41, 42, 43] (by decide +kernel) (by decide +kernel)
set_option maxRecDepth 20000 in
theorem gX3_chains_X3_fails : GoodIn wsX3_chains (wsV RX3 83 RX3 yX3_fails wsX3_fails) := goodIn_app (goodIn_of _ (by decide +kernel)) ggX3_chains_X3_fails
theorem dX3_chains_0 : decode cX3_chains 0 = .ok (.aload_n 0, 1) := by decide +kernel
theorem dX3_chains_1 : decode cX3_chains 1 = .ok (.iconst 0, 1) := by decide +kernel
theorem dX3_chains_2 : decode cX3_chains 2 = .ok (.putfield 66, 3) := by decide +kernel
theorem dX3_chains_5 : decode cX3_chains 5 = .ok (.aload_n 0, 1) := by decide +kernel
theorem dX3_chains_6 : decode cX3_chains 6 = .ok (.iload_n 1, 1) := by decide +kernel
theorem dX3_chains_7 : decode cX3_chains 7 = .ok (.invokevirtual 79, 3) := by decide +kernel
theorem dX3_chains_10 : decode cX3_chains 10 = .ok (.ifCond .eq 11, 3) := by decide +kernel
theorem dX3_chains_13 : decode cX3_chains 13 = .ok (.aload_n 0, 1) := by decide +kernel
theorem dX3_chains_14 : decode cX3_chains 14 = .ok (.iload_n 1, 1) := by decide +kernel
theorem dX3_chains_15 : decode cX3_chains 15 = .ok (.invokevirtual 140, 3) := by decide +kernel
theorem dX3_chains_18 : decode cX3_chains 18 = .ok (.goto 8, 3) := by decide +kernel
theorem dX3_chains_21 : decode cX3_chains 21 = .ok (.aload_n 0, 1) := by decide +kernel
theorem dX3_chains_22 : decode cX3_chains 22 = .ok (.iconst 1, 1) := by decide +kernel
theorem dX3_chains_23 : decode cX3_chains 23 = .ok (.invokevirtual 83, 3) := by decide +kernel
theorem dX3_chains_26 : decode cX3_chains 26 = .ok (.ireturn, 1) := by decide +kernel
set_option maxRecDepth 20000 in
theorem ggX3_names_X3_last : GoodIn wsX3_names wsX3_last := goodIn_r _ [9, 2, 10, 27, 28, 29, 30, 31, 32, 33, 34, 35, 36, 37, 38, 39, 40, 41, 42, 43, 44, 45, 46, 47, 48] (by decide +kernel) (by decide +kernel)
set_option maxRecDepth 20000 in
theorem gX3_names_X3_last : GoodIn wsX3_names (wsV RX3 120 RX3 yX3_last wsX3_last) := goodIn_app (goodIn_of _ (by decide +kernel)) ggX3_names_X3_last
set_option maxRecDepth 20000 in
theorem ggX3_names_X3_in : GoodIn wsX3_names wsX3_in := goodIn_r _ [13] (by decide +kernel) (by decide +kernel)
set_option maxRecDepth 20000 in
theorem gX3_names_X3_in : GoodIn wsX3_names (va_wsS RX3 72 yX3_in wsX3_in) := goodIn_app (goodIn_of _ (by decide +kernel)) ggX3_names_X3_in
set_option maxRecDepth 20000 in
theorem ggX3_names_X3_holds : GoodIn wsX3_names wsX3_holds := goodIn_r _ [17, 18, 19, 20, 21, 22, 23, 11, 12, 8, 13, 27, 28, 29, 30, 31, 32, 33, 34, 35, 36, 37, 38, 39, 40, 41, 42, 43, 44, 45, 46, 47, 48] (by decide +kernel) (by decide +kernel)
set_option maxRecDepth 20000 in
theorem gX3_names_X3_holds : GoodIn wsX3_names (wsV RX3 99 RX3 yX3_holds wsX3_holds) := goodIn_app (goodIn_of _ (by decide +kernel)) ggX3_names_X3_holds
set_option maxRecDepth 20000 in
theorem ggX3_names_X3_covers : GoodIn wsX3_names wsX3_covers := goodIn_r _ [26] (by decide +kernel) (by decide +kernel)
set_option maxRecDepth 20000 in
theorem gX3_names_X3_covers : GoodIn wsX3_names (va_wsS RX3 105 yX3_covers wsX3_covers) := goodIn_app (goodIn_of _ (by decide +kernel)) ggX3_names_X3_covers
theorem dX3_names_0 : decode cX3_names 0 = .ok (.iconst 0, 1) := by decide +kernel
theorem dX3_names_1 : decode cX3_names 1 = .ok (.istore_n 3, 1) := by decide +kernel
theorem dX3_names_2 : decode cX3_names 2 = .ok (.iconst 0, 1) := by decide +kernel
theorem dX3_names_3 : decode cX3_names 3 = .ok (.istore 4, 2) := by decide +kernel
theorem dX3_names_5 : decode cX3_names 5 = .ok (.iload 4, 2) := by decide +kernel
theorem dX3_names_7 : decode cX3_names 7 = .ok (.aload_n 0, 1) := by decide +kernel
theorem dX3_names_8 : decode cX3_names 8 = .ok (.getfield 76, 3) := by decide +kernel
theorem dX3_names_11 : decode cX3_names 11 = .ok (.if_icmp .ge 99, 3) := by decide +kernel
theorem dX3_names_14 : decode cX3_names 14 = .ok (.iload_n 1, 1) := by decide +kernel
theorem dX3_names_15 : decode cX3_names 15 = .ok (.aload_n 0, 1) := by decide +kernel
theorem dX3_names_16 : decode cX3_names 16 = .ok (.getfield 51, 3) := by decide +kernel
theorem dX3_names_19 : decode cX3_names 19 = .ok (.iload 4, 2) := by decide +kernel
theorem dX3_names_21 : decode cX3_names 21 = .ok (.iaload, 1) := by decide +kernel
theorem dX3_names_22 : decode cX3_names 22 = .ok (.aload_n 0, 1) := by decide +kernel
theorem dX3_names_23 : decode cX3_names 23 = .ok (.iload 4, 2) := by decide +kernel
theorem dX3_names_25 : decode cX3_names 25 = .ok (.invokevirtual 120, 3) := by decide +kernel
theorem dX3_names_28 : decode cX3_names 28 = .ok (.invokestatic 72, 3) := by decide +kernel
theorem dX3_names_31 : decode cX3_names 31 = .ok (.ifCond .eq 23, 3) := by decide +kernel
theorem dX3_names_34 : decode cX3_names 34 = .ok (.aload_n 0, 1) := by decide +kernel
theorem dX3_names_35 : decode cX3_names 35 = .ok (.aload_n 0, 1) := by decide +kernel
theorem dX3_names_36 : decode cX3_names 36 = .ok (.getfield 48, 3) := by decide +kernel
theorem dX3_names_39 : decode cX3_names 39 = .ok (.iload 4, 2) := by decide +kernel
theorem dX3_names_41 : decode cX3_names 41 = .ok (.iaload, 1) := by decide +kernel
theorem dX3_names_42 : decode cX3_names 42 = .ok (.iload_n 1, 1) := by decide +kernel
theorem dX3_names_43 : decode cX3_names 43 = .ok (.iload_n 2, 1) := by decide +kernel
theorem dX3_names_44 : decode cX3_names 44 = .ok (.invokevirtual 99, 3) := by decide +kernel
theorem dX3_names_47 : decode cX3_names 47 = .ok (.ifCond .eq 7, 3) := by decide +kernel
theorem dX3_names_50 : decode cX3_names 50 = .ok (.iconst 1, 1) := by decide +kernel
theorem dX3_names_51 : decode cX3_names 51 = .ok (.goto 4, 3) := by decide +kernel
theorem dX3_names_54 : decode cX3_names 54 = .ok (.iconst 0, 1) := by decide +kernel
theorem dX3_names_55 : decode cX3_names 55 = .ok (.istore 5, 2) := by decide +kernel
theorem dX3_names_57 : decode cX3_names 57 = .ok (.iconst 0, 1) := by decide +kernel
theorem dX3_names_58 : decode cX3_names 58 = .ok (.istore 6, 2) := by decide +kernel
theorem dX3_names_60 : decode cX3_names 60 = .ok (.iload 6, 2) := by decide +kernel
theorem dX3_names_62 : decode cX3_names 62 = .ok (.bipush 16, 2) := by decide +kernel
theorem dX3_names_64 : decode cX3_names 64 = .ok (.if_icmp .ge 40, 3) := by decide +kernel
theorem dX3_names_67 : decode cX3_names 67 = .ok (.iload 5, 2) := by decide +kernel
theorem dX3_names_69 : decode cX3_names 69 = .ok (.ifCond .eq 35, 3) := by decide +kernel
theorem dX3_names_72 : decode cX3_names 72 = .ok (.iload_n 3, 1) := by decide +kernel
theorem dX3_names_73 : decode cX3_names 73 = .ok (.aload_n 0, 1) := by decide +kernel
theorem dX3_names_74 : decode cX3_names 74 = .ok (.getfield 45, 3) := by decide +kernel
theorem dX3_names_77 : decode cX3_names 77 = .ok (.iload 4, 2) := by decide +kernel
theorem dX3_names_79 : decode cX3_names 79 = .ok (.iaload, 1) := by decide +kernel
theorem dX3_names_80 : decode cX3_names 80 = .ok (.iload 6, 2) := by decide +kernel
theorem dX3_names_82 : decode cX3_names 82 = .ok (.invokestatic 105, 3) := by decide +kernel
theorem dX3_names_85 : decode cX3_names 85 = .ok (.ifCond .eq 10, 3) := by decide +kernel
theorem dX3_names_88 : decode cX3_names 88 = .ok (.iconst 1, 1) := by decide +kernel
theorem dX3_names_89 : decode cX3_names 89 = .ok (.iload 6, 2) := by decide +kernel
theorem dX3_names_91 : decode cX3_names 91 = .ok (.ishl, 1) := by decide +kernel
theorem dX3_names_92 : decode cX3_names 92 = .ok (.goto 4, 3) := by decide +kernel
theorem dX3_names_95 : decode cX3_names 95 = .ok (.iconst 0, 1) := by decide +kernel
theorem dX3_names_96 : decode cX3_names 96 = .ok (.ior, 1) := by decide +kernel
theorem dX3_names_97 : decode cX3_names 97 = .ok (.istore_n 3, 1) := by decide +kernel
theorem dX3_names_98 : decode cX3_names 98 = .ok (.iinc 6 1, 3) := by decide +kernel
theorem dX3_names_101 : decode cX3_names 101 = .ok (.goto (-41), 3) := by decide +kernel
theorem dX3_names_104 : decode cX3_names 104 = .ok (.iinc 4 1, 3) := by decide +kernel
theorem dX3_names_107 : decode cX3_names 107 = .ok (.goto (-102), 3) := by decide +kernel
theorem dX3_names_110 : decode cX3_names 110 = .ok (.iload_n 3, 1) := by decide +kernel
theorem dX3_names_111 : decode cX3_names 111 = .ok (.ireturn, 1) := by decide +kernel
set_option maxRecDepth 20000 in
theorem ggX3_isCovered_X3_isName : GoodIn wsX3_isCovered wsX3_isName := goodIn_r _ [5, 6, 7, 4, 8] (by decide +kernel) (by decide +kernel)
set_option maxRecDepth 20000 in
theorem gX3_isCovered_X3_isName : GoodIn wsX3_isCovered (va_wsS RX3 93 yX3_isName wsX3_isName) := goodIn_app (goodIn_of _ (by decide +kernel)) ggX3_isCovered_X3_isName
set_option maxRecDepth 20000 in
theorem ggX3_isCovered_X3_isDay : GoodIn wsX3_isCovered wsX3_isDay := goodIn_r _ [11, 6, 7, 4, 8] (by decide +kernel) (by decide +kernel)
set_option maxRecDepth 20000 in
theorem gX3_isCovered_X3_isDay : GoodIn wsX3_isCovered (va_wsS RX3 90 yX3_isDay wsX3_isDay) := goodIn_app (goodIn_of _ (by decide +kernel)) ggX3_isCovered_X3_isDay
set_option maxRecDepth 20000 in
theorem ggX3_isCovered_X3_names : GoodIn wsX3_isCovered wsX3_names := goodIn_r _ [15, 16, 17, 18, 19, 20, 21, 22, 4, 23, 24, 6, 7, 8, 25, 26, 27, 28, 29, 30, 31, 32, 33, 34, 35, 36, 37, 38, 39, 40, 41, 42, 43, 44, 45, 46, 47, 48, 49, 50, 51, 52, 53, 54, 55, 56, 57, 58, 59] (by decide +kernel) (by decide +kernel)
set_option maxRecDepth 20000 in
theorem gX3_isCovered_X3_names : GoodIn wsX3_isCovered (wsV RX3 143 RX3 yX3_names wsX3_names) := goodIn_app (goodIn_of _ (by decide +kernel)) ggX3_isCovered_X3_names
theorem dX3_isCovered_0 : decode cX3_isCovered 0 = .ok (.aload_n 0, 1) := by decide +kernel
theorem dX3_isCovered_1 : decode cX3_isCovered 1 = .ok (.iload_n 1, 1) := by decide +kernel
theorem dX3_isCovered_2 : decode cX3_isCovered 2 = .ok (.invokestatic 93, 3) := by decide +kernel
theorem dX3_isCovered_5 : decode cX3_isCovered 5 = .ok (.ifCond .ne 7, 3) := by decide +kernel
theorem dX3_isCovered_8 : decode cX3_isCovered 8 = .ok (.iconst 1, 1) := by decide +kernel
theorem dX3_isCovered_9 : decode cX3_isCovered 9 = .ok (.goto 15, 3) := by decide +kernel
theorem dX3_isCovered_12 : decode cX3_isCovered 12 = .ok (.iload_n 2, 1) := by decide +kernel
theorem dX3_isCovered_13 : decode cX3_isCovered 13 = .ok (.invokestatic 90, 3) := by decide +kernel
theorem dX3_isCovered_16 : decode cX3_isCovered 16 = .ok (.ifCond .eq 7, 3) := by decide +kernel
theorem dX3_isCovered_19 : decode cX3_isCovered 19 = .ok (.iconst 0, 1) := by decide +kernel
theorem dX3_isCovered_20 : decode cX3_isCovered 20 = .ok (.goto 4, 3) := by decide +kernel
theorem dX3_isCovered_23 : decode cX3_isCovered 23 = .ok (.iconst 2, 1) := by decide +kernel
theorem dX3_isCovered_24 : decode cX3_isCovered 24 = .ok (.putfield 66, 3) := by decide +kernel
theorem dX3_isCovered_27 : decode cX3_isCovered 27 = .ok (.aload_n 0, 1) := by decide +kernel
theorem dX3_isCovered_28 : decode cX3_isCovered 28 = .ok (.getfield 66, 3) := by decide +kernel
theorem dX3_isCovered_31 : decode cX3_isCovered 31 = .ok (.ifCond .ne 21, 3) := by decide +kernel
theorem dX3_isCovered_34 : decode cX3_isCovered 34 = .ok (.aload_n 0, 1) := by decide +kernel
theorem dX3_isCovered_35 : decode cX3_isCovered 35 = .ok (.iload_n 2, 1) := by decide +kernel
theorem dX3_isCovered_36 : decode cX3_isCovered 36 = .ok (.iconst (-1), 1) := by decide +kernel
theorem dX3_isCovered_37 : decode cX3_isCovered 37 = .ok (.invokevirtual 143, 3) := by decide +kernel
theorem dX3_isCovered_40 : decode cX3_isCovered 40 = .ok (.iload_n 1, 1) := by decide +kernel
theorem dX3_isCovered_41 : decode cX3_isCovered 41 = .ok (.ishr, 1) := by decide +kernel
theorem dX3_isCovered_42 : decode cX3_isCovered 42 = .ok (.iconst 1, 1) := by decide +kernel
theorem dX3_isCovered_43 : decode cX3_isCovered 43 = .ok (.iand, 1) := by decide +kernel
theorem dX3_isCovered_44 : decode cX3_isCovered 44 = .ok (.iconst 1, 1) := by decide +kernel
theorem dX3_isCovered_45 : decode cX3_isCovered 45 = .ok (.if_icmp .ne 7, 3) := by decide +kernel
theorem dX3_isCovered_48 : decode cX3_isCovered 48 = .ok (.iconst 1, 1) := by decide +kernel
theorem dX3_isCovered_49 : decode cX3_isCovered 49 = .ok (.goto 4, 3) := by decide +kernel
theorem dX3_isCovered_52 : decode cX3_isCovered 52 = .ok (.iconst 0, 1) := by decide +kernel
theorem dX3_isCovered_53 : decode cX3_isCovered 53 = .ok (.ireturn, 1) := by decide +kernel
set_option maxRecDepth 20000 in
theorem ggX3_nextGap_X3_isName : GoodIn wsX3_nextGap wsX3_isName := goodIn_r _ [5, 6, 7, 4, 8] (by decide +kernel) (by decide +kernel)
set_option maxRecDepth 20000 in
theorem gX3_nextGap_X3_isName : GoodIn wsX3_nextGap (va_wsS RX3 93 yX3_isName wsX3_isName) := goodIn_app (goodIn_of _ (by decide +kernel)) ggX3_nextGap_X3_isName
set_option maxRecDepth 20000 in
theorem ggX3_nextGap_X3_isDay : GoodIn wsX3_nextGap wsX3_isDay := goodIn_r _ [11, 6, 7, 4, 8] (by decide +kernel) (by decide +kernel)
set_option maxRecDepth 20000 in
theorem gX3_nextGap_X3_isDay : GoodIn wsX3_nextGap (va_wsS RX3 90 yX3_isDay wsX3_isDay) := goodIn_app (goodIn_of _ (by decide +kernel)) ggX3_nextGap_X3_isDay
set_option maxRecDepth 20000 in
theorem ggX3_nextGap_X3_names : GoodIn wsX3_nextGap wsX3_names := goodIn_r _ [15, 16, 17, 18, 19, 20, 21, 22, 4, 23, 24, 6, 7, 8, 25, 26, 27, 28, 29, 30, 31, 32, 33, 34, 35, 36, 37, 38, 39, 40, 41, 42, 43, 44, 45, 46, 47, 48, 49, 50, 51, 52, 53, 54, 55, 56, 57, 58, 59] (by decide +kernel) (by decide +kernel)
set_option maxRecDepth 20000 in
theorem gX3_nextGap_X3_names : GoodIn wsX3_nextGap (wsV RX3 143 RX3 yX3_names wsX3_names) := goodIn_app (goodIn_of _ (by decide +kernel)) ggX3_nextGap_X3_names
theorem dX3_nextGap_0 : decode cX3_nextGap 0 = .ok (.aload_n 0, 1) := by decide +kernel
theorem dX3_nextGap_1 : decode cX3_nextGap 1 = .ok (.iload_n 1, 1) := by decide +kernel
theorem dX3_nextGap_2 : decode cX3_nextGap 2 = .ok (.invokestatic 93, 3) := by decide +kernel
theorem dX3_nextGap_5 : decode cX3_nextGap 5 = .ok (.ifCond .ne 7, 3) := by decide +kernel
theorem dX3_nextGap_8 : decode cX3_nextGap 8 = .ok (.iconst 1, 1) := by decide +kernel
theorem dX3_nextGap_9 : decode cX3_nextGap 9 = .ok (.goto 15, 3) := by decide +kernel
theorem dX3_nextGap_12 : decode cX3_nextGap 12 = .ok (.iload_n 2, 1) := by decide +kernel
theorem dX3_nextGap_13 : decode cX3_nextGap 13 = .ok (.invokestatic 90, 3) := by decide +kernel
theorem dX3_nextGap_16 : decode cX3_nextGap 16 = .ok (.ifCond .eq 7, 3) := by decide +kernel
theorem dX3_nextGap_19 : decode cX3_nextGap 19 = .ok (.iconst 0, 1) := by decide +kernel
theorem dX3_nextGap_20 : decode cX3_nextGap 20 = .ok (.goto 4, 3) := by decide +kernel
theorem dX3_nextGap_23 : decode cX3_nextGap 23 = .ok (.iconst 2, 1) := by decide +kernel
theorem dX3_nextGap_24 : decode cX3_nextGap 24 = .ok (.putfield 66, 3) := by decide +kernel
theorem dX3_nextGap_27 : decode cX3_nextGap 27 = .ok (.aload_n 0, 1) := by decide +kernel
theorem dX3_nextGap_28 : decode cX3_nextGap 28 = .ok (.getfield 66, 3) := by decide +kernel
theorem dX3_nextGap_31 : decode cX3_nextGap 31 = .ok (.ifCond .le 5, 3) := by decide +kernel
theorem dX3_nextGap_34 : decode cX3_nextGap 34 = .ok (.iconst 0, 1) := by decide +kernel
theorem dX3_nextGap_35 : decode cX3_nextGap 35 = .ok (.ireturn, 1) := by decide +kernel
theorem dX3_nextGap_36 : decode cX3_nextGap 36 = .ok (.iload_n 2, 1) := by decide +kernel
theorem dX3_nextGap_37 : decode cX3_nextGap 37 = .ok (.istore_n 3, 1) := by decide +kernel
theorem dX3_nextGap_38 : decode cX3_nextGap 38 = .ok (.iload_n 3, 1) := by decide +kernel
theorem dX3_nextGap_39 : decode cX3_nextGap 39 = .ok (.sipush 5000, 3) := by decide +kernel
theorem dX3_nextGap_42 : decode cX3_nextGap 42 = .ok (.if_icmp .gt 23, 3) := by decide +kernel
theorem dX3_nextGap_45 : decode cX3_nextGap 45 = .ok (.aload_n 0, 1) := by decide +kernel
theorem dX3_nextGap_46 : decode cX3_nextGap 46 = .ok (.iload_n 3, 1) := by decide +kernel
theorem dX3_nextGap_47 : decode cX3_nextGap 47 = .ok (.iconst (-1), 1) := by decide +kernel
theorem dX3_nextGap_48 : decode cX3_nextGap 48 = .ok (.invokevirtual 143, 3) := by decide +kernel
theorem dX3_nextGap_51 : decode cX3_nextGap 51 = .ok (.iload_n 1, 1) := by decide +kernel
theorem dX3_nextGap_52 : decode cX3_nextGap 52 = .ok (.ishr, 1) := by decide +kernel
theorem dX3_nextGap_53 : decode cX3_nextGap 53 = .ok (.iconst 1, 1) := by decide +kernel
theorem dX3_nextGap_54 : decode cX3_nextGap 54 = .ok (.iand, 1) := by decide +kernel
theorem dX3_nextGap_55 : decode cX3_nextGap 55 = .ok (.iconst 1, 1) := by decide +kernel
theorem dX3_nextGap_56 : decode cX3_nextGap 56 = .ok (.if_icmp .ne 9, 3) := by decide +kernel
theorem dX3_nextGap_59 : decode cX3_nextGap 59 = .ok (.iinc 3 1, 3) := by decide +kernel
theorem dX3_nextGap_62 : decode cX3_nextGap 62 = .ok (.goto (-24), 3) := by decide +kernel
theorem dX3_nextGap_65 : decode cX3_nextGap 65 = .ok (.iload_n 3, 1) := by decide +kernel
theorem dX3_nextGap_66 : decode cX3_nextGap 66 = .ok (.sipush 5000, 3) := by decide +kernel
theorem dX3_nextGap_69 : decode cX3_nextGap 69 = .ok (.if_icmp .le 7, 3) := by decide +kernel
theorem dX3_nextGap_72 : decode cX3_nextGap 72 = .ok (.iconst (-1), 1) := by decide +kernel
theorem dX3_nextGap_73 : decode cX3_nextGap 73 = .ok (.goto 4, 3) := by decide +kernel
theorem dX3_nextGap_76 : decode cX3_nextGap 76 = .ok (.iload_n 3, 1) := by decide +kernel
theorem dX3_nextGap_77 : decode cX3_nextGap 77 = .ok (.ireturn, 1) := by decide +kernel
set_option maxRecDepth 20000 in
theorem ggX3_covered_X3_isDay : GoodIn wsX3_covered wsX3_isDay := goodIn_r _ [5, 6, 7, 4, 8] (by decide +kernel) (by decide +kernel)
set_option maxRecDepth 20000 in
theorem gX3_covered_X3_isDay : GoodIn wsX3_covered (va_wsS RX3 90 yX3_isDay wsX3_isDay) := goodIn_app (goodIn_of _ (by decide +kernel)) ggX3_covered_X3_isDay
set_option maxRecDepth 20000 in
theorem ggX3_covered_X3_names : GoodIn wsX3_covered wsX3_names := goodIn_r _ [12, 13, 14, 15, 16, 17, 18, 19, 4, 20, 21, 6, 7, 8, 22, 23, 24, 25, 26, 27, 28, 29, 30, 31, 32, 33, 34, 35, 36, 37, 38, 39, 40, 41, 42, 43, 44, 45, 46, 47, 48, 49, 50, 51, 52, 53, 54, 55, 56] (by decide +kernel) (by decide +kernel)
set_option maxRecDepth 20000 in
theorem gX3_covered_X3_names : GoodIn wsX3_covered (wsV RX3 143 RX3 yX3_names wsX3_names) := goodIn_app (goodIn_of _ (by decide +kernel)) ggX3_covered_X3_names
theorem dX3_covered_0 : decode cX3_covered 0 = .ok (.aload_n 0, 1) := by decide +kernel
theorem dX3_covered_1 : decode cX3_covered 1 = .ok (.iload_n 1, 1) := by decide +kernel
theorem dX3_covered_2 : decode cX3_covered 2 = .ok (.invokestatic 90, 3) := by decide +kernel
theorem dX3_covered_5 : decode cX3_covered 5 = .ok (.ifCond .eq 7, 3) := by decide +kernel
theorem dX3_covered_8 : decode cX3_covered 8 = .ok (.iconst 0, 1) := by decide +kernel
theorem dX3_covered_9 : decode cX3_covered 9 = .ok (.goto 4, 3) := by decide +kernel
theorem dX3_covered_12 : decode cX3_covered 12 = .ok (.iconst 1, 1) := by decide +kernel
theorem dX3_covered_13 : decode cX3_covered 13 = .ok (.putfield 66, 3) := by decide +kernel
theorem dX3_covered_16 : decode cX3_covered 16 = .ok (.aload_n 0, 1) := by decide +kernel
theorem dX3_covered_17 : decode cX3_covered 17 = .ok (.getfield 66, 3) := by decide +kernel
theorem dX3_covered_20 : decode cX3_covered 20 = .ok (.ifCond .le 7, 3) := by decide +kernel
theorem dX3_covered_23 : decode cX3_covered 23 = .ok (.iconst 0, 1) := by decide +kernel
theorem dX3_covered_24 : decode cX3_covered 24 = .ok (.goto 9, 3) := by decide +kernel
theorem dX3_covered_27 : decode cX3_covered 27 = .ok (.aload_n 0, 1) := by decide +kernel
theorem dX3_covered_28 : decode cX3_covered 28 = .ok (.iload_n 1, 1) := by decide +kernel
theorem dX3_covered_29 : decode cX3_covered 29 = .ok (.iconst (-1), 1) := by decide +kernel
theorem dX3_covered_30 : decode cX3_covered 30 = .ok (.invokevirtual 143, 3) := by decide +kernel
theorem dX3_covered_33 : decode cX3_covered 33 = .ok (.ireturn, 1) := by decide +kernel
set_option maxRecDepth 20000 in
theorem ggX3_breaks_X3_isIssuer : GoodIn wsX3_breaks wsX3_isIssuer := goodIn_r _ [6, 7, 8, 9, 5, 10, 40, 41, 42, 43, 44, 45, 46, 47, 48, 49, 50, 51, 52, 53, 54, 55, 56, 57, 58, 59, 60, 61] (by decide +kernel) (by decide +kernel)
set_option maxRecDepth 20000 in
theorem gX3_breaks_X3_isIssuer : GoodIn wsX3_breaks (wsV RX3 79 RX3 yX3_isIssuer wsX3_isIssuer) := goodIn_app (goodIn_of _ (by decide +kernel)) ggX3_breaks_X3_isIssuer
set_option maxRecDepth 20000 in
theorem ggX3_breaks_X3_isDay : GoodIn wsX3_breaks wsX3_isDay := goodIn_r _ [13, 8, 9, 5, 10] (by decide +kernel) (by decide +kernel)
set_option maxRecDepth 20000 in
theorem gX3_breaks_X3_isDay : GoodIn wsX3_breaks (va_wsS RX3 90 yX3_isDay wsX3_isDay) := goodIn_app (goodIn_of _ (by decide +kernel)) ggX3_breaks_X3_isDay
set_option maxRecDepth 20000 in
theorem ggX3_breaks_X3_names : GoodIn wsX3_breaks wsX3_names := goodIn_r _ [17, 18, 19, 20, 21, 22, 23, 24, 5, 25, 26, 8, 9, 10, 27, 28, 29, 30, 31, 32, 33, 34, 35, 36, 37, 38, 39, 40, 41, 42, 43, 44, 45, 46, 47, 48, 49, 50, 51, 52, 53, 54, 55, 56, 57, 58, 59, 60, 61] (by decide +kernel) (by decide +kernel)
set_option maxRecDepth 20000 in
theorem gX3_breaks_X3_names : GoodIn wsX3_breaks (wsV RX3 143 RX3 yX3_names wsX3_names) := goodIn_app (goodIn_of _ (by decide +kernel)) ggX3_breaks_X3_names
theorem dX3_breaks_0 : decode cX3_breaks 0 = .ok (.aload_n 0, 1) := by decide +kernel
theorem dX3_breaks_1 : decode cX3_breaks 1 = .ok (.aload_n 0, 1) := by decide +kernel
theorem dX3_breaks_2 : decode cX3_breaks 2 = .ok (.iload_n 1, 1) := by decide +kernel
theorem dX3_breaks_3 : decode cX3_breaks 3 = .ok (.invokevirtual 79, 3) := by decide +kernel
theorem dX3_breaks_6 : decode cX3_breaks 6 = .ok (.ifCond .ne 7, 3) := by decide +kernel
theorem dX3_breaks_9 : decode cX3_breaks 9 = .ok (.iconst 1, 1) := by decide +kernel
theorem dX3_breaks_10 : decode cX3_breaks 10 = .ok (.goto 15, 3) := by decide +kernel
theorem dX3_breaks_13 : decode cX3_breaks 13 = .ok (.iload_n 2, 1) := by decide +kernel
theorem dX3_breaks_14 : decode cX3_breaks 14 = .ok (.invokestatic 90, 3) := by decide +kernel
theorem dX3_breaks_17 : decode cX3_breaks 17 = .ok (.ifCond .eq 7, 3) := by decide +kernel
theorem dX3_breaks_20 : decode cX3_breaks 20 = .ok (.iconst 0, 1) := by decide +kernel
theorem dX3_breaks_21 : decode cX3_breaks 21 = .ok (.goto 4, 3) := by decide +kernel
theorem dX3_breaks_24 : decode cX3_breaks 24 = .ok (.iconst 2, 1) := by decide +kernel
theorem dX3_breaks_25 : decode cX3_breaks 25 = .ok (.putfield 66, 3) := by decide +kernel
theorem dX3_breaks_28 : decode cX3_breaks 28 = .ok (.aload_n 0, 1) := by decide +kernel
theorem dX3_breaks_29 : decode cX3_breaks 29 = .ok (.getfield 66, 3) := by decide +kernel
theorem dX3_breaks_32 : decode cX3_breaks 32 = .ok (.ifCond .le 7, 3) := by decide +kernel
theorem dX3_breaks_35 : decode cX3_breaks 35 = .ok (.iconst 0, 1) := by decide +kernel
theorem dX3_breaks_36 : decode cX3_breaks 36 = .ok (.goto 18, 3) := by decide +kernel
theorem dX3_breaks_39 : decode cX3_breaks 39 = .ok (.aload_n 0, 1) := by decide +kernel
theorem dX3_breaks_40 : decode cX3_breaks 40 = .ok (.iload_n 2, 1) := by decide +kernel
theorem dX3_breaks_41 : decode cX3_breaks 41 = .ok (.iconst (-1), 1) := by decide +kernel
theorem dX3_breaks_42 : decode cX3_breaks 42 = .ok (.invokevirtual 143, 3) := by decide +kernel
theorem dX3_breaks_45 : decode cX3_breaks 45 = .ok (.aload_n 0, 1) := by decide +kernel
theorem dX3_breaks_46 : decode cX3_breaks 46 = .ok (.iload_n 2, 1) := by decide +kernel
theorem dX3_breaks_47 : decode cX3_breaks 47 = .ok (.iload_n 1, 1) := by decide +kernel
theorem dX3_breaks_48 : decode cX3_breaks 48 = .ok (.invokevirtual 143, 3) := by decide +kernel
theorem dX3_breaks_51 : decode cX3_breaks 51 = .ok (.iconst (-1), 1) := by decide +kernel
theorem dX3_breaks_52 : decode cX3_breaks 52 = .ok (.ixor, 1) := by decide +kernel
theorem dX3_breaks_53 : decode cX3_breaks 53 = .ok (.iand, 1) := by decide +kernel
theorem dX3_breaks_54 : decode cX3_breaks 54 = .ok (.ireturn, 1) := by decide +kernel
set_option maxRecDepth 20000 in
theorem ggX3_weakest_X3_isDay : GoodIn wsX3_weakest wsX3_isDay := goodIn_r _ [6, 7, 8, 5, 9] (by decide +kernel) (by decide +kernel)
set_option maxRecDepth 20000 in
theorem gX3_weakest_X3_isDay : GoodIn wsX3_weakest (va_wsS RX3 90 yX3_isDay wsX3_isDay) := goodIn_app (goodIn_of _ (by decide +kernel)) ggX3_weakest_X3_isDay
set_option maxRecDepth 20000 in
theorem ggX3_weakest_X3_names : GoodIn wsX3_weakest wsX3_names := goodIn_r _ [13, 14, 15, 16, 17, 18, 19, 20, 5, 21, 22, 7, 8, 9, 23, 24, 25, 26, 27, 28, 29, 30, 31, 32, 33, 34, 35, 36, 37, 38, 39, 40, 41, 42, 43, 44, 45, 46, 47, 48, 49, 50, 51, 52, 53, 54, 55, 56, 57] (by decide +kernel) (by decide +kernel)
set_option maxRecDepth 20000 in
theorem gX3_weakest_X3_names : GoodIn wsX3_weakest (wsV RX3 143 RX3 yX3_names wsX3_names) := goodIn_app (goodIn_of _ (by decide +kernel)) ggX3_weakest_X3_names
theorem dX3_weakest_0 : decode cX3_weakest 0 = .ok (.aload_n 0, 1) := by decide +kernel
theorem dX3_weakest_1 : decode cX3_weakest 1 = .ok (.iload_n 1, 1) := by decide +kernel
theorem dX3_weakest_2 : decode cX3_weakest 2 = .ok (.invokestatic 90, 3) := by decide +kernel
theorem dX3_weakest_5 : decode cX3_weakest 5 = .ok (.ifCond .eq 7, 3) := by decide +kernel
theorem dX3_weakest_8 : decode cX3_weakest 8 = .ok (.iconst 0, 1) := by decide +kernel
theorem dX3_weakest_9 : decode cX3_weakest 9 = .ok (.goto 4, 3) := by decide +kernel
theorem dX3_weakest_12 : decode cX3_weakest 12 = .ok (.iconst 1, 1) := by decide +kernel
theorem dX3_weakest_13 : decode cX3_weakest 13 = .ok (.putfield 66, 3) := by decide +kernel
theorem dX3_weakest_16 : decode cX3_weakest 16 = .ok (.iconst (-1), 1) := by decide +kernel
theorem dX3_weakest_17 : decode cX3_weakest 17 = .ok (.istore_n 2, 1) := by decide +kernel
theorem dX3_weakest_18 : decode cX3_weakest 18 = .ok (.iconst 0, 1) := by decide +kernel
theorem dX3_weakest_19 : decode cX3_weakest 19 = .ok (.istore_n 3, 1) := by decide +kernel
theorem dX3_weakest_20 : decode cX3_weakest 20 = .ok (.iconst 0, 1) := by decide +kernel
theorem dX3_weakest_21 : decode cX3_weakest 21 = .ok (.istore 4, 2) := by decide +kernel
theorem dX3_weakest_23 : decode cX3_weakest 23 = .ok (.iload 4, 2) := by decide +kernel
theorem dX3_weakest_25 : decode cX3_weakest 25 = .ok (.aload_n 0, 1) := by decide +kernel
theorem dX3_weakest_26 : decode cX3_weakest 26 = .ok (.getfield 69, 3) := by decide +kernel
theorem dX3_weakest_29 : decode cX3_weakest 29 = .ok (.if_icmp .ge 91, 3) := by decide +kernel
theorem dX3_weakest_32 : decode cX3_weakest 32 = .ok (.aload_n 0, 1) := by decide +kernel
theorem dX3_weakest_33 : decode cX3_weakest 33 = .ok (.getfield 66, 3) := by decide +kernel
theorem dX3_weakest_36 : decode cX3_weakest 36 = .ok (.ifCond .ne 84, 3) := by decide +kernel
theorem dX3_weakest_39 : decode cX3_weakest 39 = .ok (.aload_n 0, 1) := by decide +kernel
theorem dX3_weakest_40 : decode cX3_weakest 40 = .ok (.iload_n 1, 1) := by decide +kernel
theorem dX3_weakest_41 : decode cX3_weakest 41 = .ok (.iconst (-1), 1) := by decide +kernel
theorem dX3_weakest_42 : decode cX3_weakest 42 = .ok (.invokevirtual 143, 3) := by decide +kernel
theorem dX3_weakest_45 : decode cX3_weakest 45 = .ok (.aload_n 0, 1) := by decide +kernel
theorem dX3_weakest_46 : decode cX3_weakest 46 = .ok (.iload_n 1, 1) := by decide +kernel
theorem dX3_weakest_47 : decode cX3_weakest 47 = .ok (.iload 4, 2) := by decide +kernel
theorem dX3_weakest_49 : decode cX3_weakest 49 = .ok (.invokevirtual 143, 3) := by decide +kernel
theorem dX3_weakest_52 : decode cX3_weakest 52 = .ok (.iconst (-1), 1) := by decide +kernel
theorem dX3_weakest_53 : decode cX3_weakest 53 = .ok (.ixor, 1) := by decide +kernel
theorem dX3_weakest_54 : decode cX3_weakest 54 = .ok (.iand, 1) := by decide +kernel
theorem dX3_weakest_55 : decode cX3_weakest 55 = .ok (.istore 5, 2) := by decide +kernel
theorem dX3_weakest_57 : decode cX3_weakest 57 = .ok (.iconst 0, 1) := by decide +kernel
theorem dX3_weakest_58 : decode cX3_weakest 58 = .ok (.istore 6, 2) := by decide +kernel
theorem dX3_weakest_60 : decode cX3_weakest 60 = .ok (.iconst 0, 1) := by decide +kernel
theorem dX3_weakest_61 : decode cX3_weakest 61 = .ok (.istore 7, 2) := by decide +kernel
theorem dX3_weakest_63 : decode cX3_weakest 63 = .ok (.iload 7, 2) := by decide +kernel
theorem dX3_weakest_65 : decode cX3_weakest 65 = .ok (.bipush 16, 2) := by decide +kernel
theorem dX3_weakest_67 : decode cX3_weakest 67 = .ok (.if_icmp .ge 21, 3) := by decide +kernel
theorem dX3_weakest_70 : decode cX3_weakest 70 = .ok (.iload 6, 2) := by decide +kernel
theorem dX3_weakest_72 : decode cX3_weakest 72 = .ok (.iload 5, 2) := by decide +kernel
theorem dX3_weakest_74 : decode cX3_weakest 74 = .ok (.iload 7, 2) := by decide +kernel
theorem dX3_weakest_76 : decode cX3_weakest 76 = .ok (.ishr, 1) := by decide +kernel
theorem dX3_weakest_77 : decode cX3_weakest 77 = .ok (.iconst 1, 1) := by decide +kernel
theorem dX3_weakest_78 : decode cX3_weakest 78 = .ok (.iand, 1) := by decide +kernel
theorem dX3_weakest_79 : decode cX3_weakest 79 = .ok (.iadd, 1) := by decide +kernel
theorem dX3_weakest_80 : decode cX3_weakest 80 = .ok (.istore 6, 2) := by decide +kernel
theorem dX3_weakest_82 : decode cX3_weakest 82 = .ok (.iinc 7 1, 3) := by decide +kernel
theorem dX3_weakest_85 : decode cX3_weakest 85 = .ok (.goto (-22), 3) := by decide +kernel
theorem dX3_weakest_88 : decode cX3_weakest 88 = .ok (.iload 6, 2) := by decide +kernel
theorem dX3_weakest_90 : decode cX3_weakest 90 = .ok (.iload_n 3, 1) := by decide +kernel
theorem dX3_weakest_91 : decode cX3_weakest 91 = .ok (.if_icmp .le 8, 3) := by decide +kernel
theorem dX3_weakest_94 : decode cX3_weakest 94 = .ok (.iload 4, 2) := by decide +kernel
theorem dX3_weakest_96 : decode cX3_weakest 96 = .ok (.goto 4, 3) := by decide +kernel
theorem dX3_weakest_99 : decode cX3_weakest 99 = .ok (.iload_n 2, 1) := by decide +kernel
theorem dX3_weakest_100 : decode cX3_weakest 100 = .ok (.istore_n 2, 1) := by decide +kernel
theorem dX3_weakest_101 : decode cX3_weakest 101 = .ok (.iload 6, 2) := by decide +kernel
theorem dX3_weakest_103 : decode cX3_weakest 103 = .ok (.iload_n 3, 1) := by decide +kernel
theorem dX3_weakest_104 : decode cX3_weakest 104 = .ok (.if_icmp .le 8, 3) := by decide +kernel
theorem dX3_weakest_107 : decode cX3_weakest 107 = .ok (.iload 6, 2) := by decide +kernel
theorem dX3_weakest_109 : decode cX3_weakest 109 = .ok (.goto 4, 3) := by decide +kernel
theorem dX3_weakest_112 : decode cX3_weakest 112 = .ok (.iload_n 3, 1) := by decide +kernel
theorem dX3_weakest_113 : decode cX3_weakest 113 = .ok (.istore_n 3, 1) := by decide +kernel
theorem dX3_weakest_114 : decode cX3_weakest 114 = .ok (.iinc 4 1, 3) := by decide +kernel
theorem dX3_weakest_117 : decode cX3_weakest 117 = .ok (.goto (-94), 3) := by decide +kernel
theorem dX3_weakest_120 : decode cX3_weakest 120 = .ok (.aload_n 0, 1) := by decide +kernel
theorem dX3_weakest_121 : decode cX3_weakest 121 = .ok (.getfield 66, 3) := by decide +kernel
theorem dX3_weakest_124 : decode cX3_weakest 124 = .ok (.ifCond .le 7, 3) := by decide +kernel
theorem dX3_weakest_127 : decode cX3_weakest 127 = .ok (.iconst 0, 1) := by decide +kernel
theorem dX3_weakest_128 : decode cX3_weakest 128 = .ok (.goto 4, 3) := by decide +kernel
theorem dX3_weakest_131 : decode cX3_weakest 131 = .ok (.iload_n 2, 1) := by decide +kernel
theorem dX3_weakest_132 : decode cX3_weakest 132 = .ok (.ireturn, 1) := by decide +kernel
theorem dJ6_bitCount_0f7a4_0 : decode cJ6_bitCount_0f7a4 0 = .ok (.iload_n 0, 1) := by decide +kernel
theorem dJ6_bitCount_0f7a4_1 : decode cJ6_bitCount_0f7a4 1 = .ok (.iload_n 0, 1) := by decide +kernel
theorem dJ6_bitCount_0f7a4_2 : decode cJ6_bitCount_0f7a4 2 = .ok (.iconst 1, 1) := by decide +kernel
theorem dJ6_bitCount_0f7a4_3 : decode cJ6_bitCount_0f7a4 3 = .ok (.iushr, 1) := by decide +kernel
theorem dJ6_bitCount_0f7a4_4 : decode cJ6_bitCount_0f7a4 4 = .ok (.ldc_w 265, 3) := by decide +kernel
theorem dJ6_bitCount_0f7a4_7 : decode cJ6_bitCount_0f7a4 7 = .ok (.iand, 1) := by decide +kernel
theorem dJ6_bitCount_0f7a4_8 : decode cJ6_bitCount_0f7a4 8 = .ok (.isub, 1) := by decide +kernel
theorem dJ6_bitCount_0f7a4_9 : decode cJ6_bitCount_0f7a4 9 = .ok (.istore_n 0, 1) := by decide +kernel
theorem dJ6_bitCount_0f7a4_10 : decode cJ6_bitCount_0f7a4 10 = .ok (.iload_n 0, 1) := by decide +kernel
theorem dJ6_bitCount_0f7a4_11 : decode cJ6_bitCount_0f7a4 11 = .ok (.ldc_w 266, 3) := by decide +kernel
theorem dJ6_bitCount_0f7a4_14 : decode cJ6_bitCount_0f7a4 14 = .ok (.iand, 1) := by decide +kernel
theorem dJ6_bitCount_0f7a4_15 : decode cJ6_bitCount_0f7a4 15 = .ok (.iload_n 0, 1) := by decide +kernel
theorem dJ6_bitCount_0f7a4_16 : decode cJ6_bitCount_0f7a4 16 = .ok (.iconst 2, 1) := by decide +kernel
theorem dJ6_bitCount_0f7a4_17 : decode cJ6_bitCount_0f7a4 17 = .ok (.iushr, 1) := by decide +kernel
theorem dJ6_bitCount_0f7a4_18 : decode cJ6_bitCount_0f7a4 18 = .ok (.ldc_w 266, 3) := by decide +kernel
theorem dJ6_bitCount_0f7a4_21 : decode cJ6_bitCount_0f7a4 21 = .ok (.iand, 1) := by decide +kernel
theorem dJ6_bitCount_0f7a4_22 : decode cJ6_bitCount_0f7a4 22 = .ok (.iadd, 1) := by decide +kernel
theorem dJ6_bitCount_0f7a4_23 : decode cJ6_bitCount_0f7a4 23 = .ok (.istore_n 0, 1) := by decide +kernel
theorem dJ6_bitCount_0f7a4_24 : decode cJ6_bitCount_0f7a4 24 = .ok (.iload_n 0, 1) := by decide +kernel
theorem dJ6_bitCount_0f7a4_25 : decode cJ6_bitCount_0f7a4 25 = .ok (.iload_n 0, 1) := by decide +kernel
theorem dJ6_bitCount_0f7a4_26 : decode cJ6_bitCount_0f7a4 26 = .ok (.iconst 4, 1) := by decide +kernel
theorem dJ6_bitCount_0f7a4_27 : decode cJ6_bitCount_0f7a4 27 = .ok (.iushr, 1) := by decide +kernel
theorem dJ6_bitCount_0f7a4_28 : decode cJ6_bitCount_0f7a4 28 = .ok (.iadd, 1) := by decide +kernel
theorem dJ6_bitCount_0f7a4_29 : decode cJ6_bitCount_0f7a4 29 = .ok (.ldc_w 267, 3) := by decide +kernel
theorem dJ6_bitCount_0f7a4_32 : decode cJ6_bitCount_0f7a4 32 = .ok (.iand, 1) := by decide +kernel
theorem dJ6_bitCount_0f7a4_33 : decode cJ6_bitCount_0f7a4 33 = .ok (.istore_n 0, 1) := by decide +kernel
theorem dJ6_bitCount_0f7a4_34 : decode cJ6_bitCount_0f7a4 34 = .ok (.iload_n 0, 1) := by decide +kernel
theorem dJ6_bitCount_0f7a4_35 : decode cJ6_bitCount_0f7a4 35 = .ok (.iload_n 0, 1) := by decide +kernel
theorem dJ6_bitCount_0f7a4_36 : decode cJ6_bitCount_0f7a4 36 = .ok (.bipush 8, 2) := by decide +kernel
theorem dJ6_bitCount_0f7a4_38 : decode cJ6_bitCount_0f7a4 38 = .ok (.iushr, 1) := by decide +kernel
theorem dJ6_bitCount_0f7a4_39 : decode cJ6_bitCount_0f7a4 39 = .ok (.iadd, 1) := by decide +kernel
theorem dJ6_bitCount_0f7a4_40 : decode cJ6_bitCount_0f7a4 40 = .ok (.istore_n 0, 1) := by decide +kernel
theorem dJ6_bitCount_0f7a4_41 : decode cJ6_bitCount_0f7a4 41 = .ok (.iload_n 0, 1) := by decide +kernel
theorem dJ6_bitCount_0f7a4_42 : decode cJ6_bitCount_0f7a4 42 = .ok (.iload_n 0, 1) := by decide +kernel
theorem dJ6_bitCount_0f7a4_43 : decode cJ6_bitCount_0f7a4 43 = .ok (.bipush 16, 2) := by decide +kernel
theorem dJ6_bitCount_0f7a4_45 : decode cJ6_bitCount_0f7a4 45 = .ok (.iushr, 1) := by decide +kernel
theorem dJ6_bitCount_0f7a4_46 : decode cJ6_bitCount_0f7a4 46 = .ok (.iadd, 1) := by decide +kernel
theorem dJ6_bitCount_0f7a4_47 : decode cJ6_bitCount_0f7a4 47 = .ok (.istore_n 0, 1) := by decide +kernel
theorem dJ6_bitCount_0f7a4_48 : decode cJ6_bitCount_0f7a4 48 = .ok (.iload_n 0, 1) := by decide +kernel
theorem dJ6_bitCount_0f7a4_49 : decode cJ6_bitCount_0f7a4 49 = .ok (.bipush 63, 2) := by decide +kernel
theorem dJ6_bitCount_0f7a4_51 : decode cJ6_bitCount_0f7a4 51 = .ok (.iand, 1) := by decide +kernel
theorem dJ6_bitCount_0f7a4_52 : decode cJ6_bitCount_0f7a4 52 = .ok (.ireturn, 1) := by decide +kernel
theorem dJ9_max_7cf53_0 : decode cJ9_max_7cf53 0 = .ok (.iload_n 0, 1) := by decide +kernel
theorem dJ9_max_7cf53_1 : decode cJ9_max_7cf53 1 = .ok (.iload_n 1, 1) := by decide +kernel
theorem dJ9_max_7cf53_2 : decode cJ9_max_7cf53 2 = .ok (.if_icmp .lt 7, 3) := by decide +kernel
theorem dJ9_max_7cf53_5 : decode cJ9_max_7cf53 5 = .ok (.iload_n 0, 1) := by decide +kernel
theorem dJ9_max_7cf53_6 : decode cJ9_max_7cf53 6 = .ok (.goto 4, 3) := by decide +kernel
theorem dJ9_max_7cf53_9 : decode cJ9_max_7cf53 9 = .ok (.iload_n 1, 1) := by decide +kernel
theorem dJ9_max_7cf53_10 : decode cJ9_max_7cf53 10 = .ok (.ireturn, 1) := by decide +kernel
theorem dJ9_min_7cf53_0 : decode cJ9_min_7cf53 0 = .ok (.iload_n 0, 1) := by decide +kernel
theorem dJ9_min_7cf53_1 : decode cJ9_min_7cf53 1 = .ok (.iload_n 1, 1) := by decide +kernel
theorem dJ9_min_7cf53_2 : decode cJ9_min_7cf53 2 = .ok (.if_icmp .gt 7, 3) := by decide +kernel
theorem dJ9_min_7cf53_5 : decode cJ9_min_7cf53 5 = .ok (.iload_n 0, 1) := by decide +kernel
theorem dJ9_min_7cf53_6 : decode cJ9_min_7cf53 6 = .ok (.goto 4, 3) := by decide +kernel
theorem dJ9_min_7cf53_9 : decode cJ9_min_7cf53 9 = .ok (.iload_n 1, 1) := by decide +kernel
theorem dJ9_min_7cf53_10 : decode cJ9_min_7cf53 10 = .ok (.ireturn, 1) := by decide +kernel
end
section
set_option maxRecDepth 20000 in
theorem ggL_addIssuer_X2_addIssuer : GoodIn wsL_addIssuer wsX2_addIssuer := goodIn_ca (goodIn_ca (goodIn_ca (goodIn_r _ [8, 9, 10, 11, 12, 13, 14, 15, 16, 7, 17, 18, 19, 20, 21, 22, 23, 24, 25, 26, 27, 28, 29, 30, 31, 32, 33, 34, 35, 36, 37, 38, 39, 40, 41, 42, 43, 44, 45, 46, 47, 48, 49, 50, 51, 52, 53, 54, 55, 56, 57, 58, 59, 60, 61, 62, 63, 64, 65, 66, 67, 68, 69, 70] (by decide +kernel) (by decide +kernel)) (goodIn_sub (fun _ h => List.mem_cons_of_mem _ (List.mem_append_left _ (List.mem_append_left _ (List.mem_append_right _ h)))) (by decide +kernel))) (goodIn_sub (fun _ h => List.mem_cons_of_mem _ (List.mem_append_left _ (List.mem_append_right _ h))) (by decide +kernel))) (goodIn_sub (fun _ h => List.mem_cons_of_mem _ (List.mem_append_right _ h)) (by decide +kernel))
set_option maxRecDepth 20000 in
theorem gL_addIssuer_X2_addIssuer : GoodIn wsL_addIssuer (wsV RL 7 RX2 yX2_addIssuer wsX2_addIssuer) := goodIn_app (goodIn_of _ (by decide +kernel)) ggL_addIssuer_X2_addIssuer
theorem dL_addIssuer_0 : decode cL_addIssuer 0 = .ok (.aload 5, 2) := by decide +kernel
theorem dL_addIssuer_2 : decode cL_addIssuer 2 = .ok (.iconst 0, 1) := by decide +kernel
theorem dL_addIssuer_3 : decode cL_addIssuer 3 = .ok (.aload_n 0, 1) := by decide +kernel
theorem dL_addIssuer_4 : decode cL_addIssuer 4 = .ok (.iload_n 1, 1) := by decide +kernel
theorem dL_addIssuer_5 : decode cL_addIssuer 5 = .ok (.iload_n 2, 1) := by decide +kernel
theorem dL_addIssuer_6 : decode cL_addIssuer 6 = .ok (.iload_n 3, 1) := by decide +kernel
theorem dL_addIssuer_7 : decode cL_addIssuer 7 = .ok (.iload 4, 2) := by decide +kernel
theorem dL_addIssuer_9 : decode cL_addIssuer 9 = .ok (.invokevirtual 7, 3) := by decide +kernel
theorem dL_addIssuer_12 : decode cL_addIssuer 12 = .ok (.i2l, 1) := by decide +kernel
theorem dL_addIssuer_13 : decode cL_addIssuer 13 = .ok (.lastore, 1) := by decide +kernel
theorem dL_addIssuer_14 : decode cL_addIssuer 14 = .ok (.goto 15, 3) := by decide +kernel
theorem dL_addIssuer_17 : decode cL_addIssuer 17 = .ok (.astore 6, 2) := by decide +kernel
theorem dL_addIssuer_19 : decode cL_addIssuer 19 = .ok (.iconst 1, 1) := by decide +kernel
theorem dL_addIssuer_20 : decode cL_addIssuer 20 = .ok (.ireturn, 1) := by decide +kernel
theorem dL_addIssuer_21 : decode cL_addIssuer 21 = .ok (.astore 6, 2) := by decide +kernel
theorem dL_addIssuer_23 : decode cL_addIssuer 23 = .ok (.iconst 2, 1) := by decide +kernel
theorem dL_addIssuer_24 : decode cL_addIssuer 24 = .ok (.ireturn, 1) := by decide +kernel
theorem dL_addIssuer_25 : decode cL_addIssuer 25 = .ok (.astore 6, 2) := by decide +kernel
theorem dL_addIssuer_27 : decode cL_addIssuer 27 = .ok (.iconst 3, 1) := by decide +kernel
theorem dL_addIssuer_28 : decode cL_addIssuer 28 = .ok (.ireturn, 1) := by decide +kernel
theorem dL_addIssuer_29 : decode cL_addIssuer 29 = .ok (.iconst 0, 1) := by decide +kernel
theorem dL_addIssuer_30 : decode cL_addIssuer 30 = .ok (.ireturn, 1) := by decide +kernel
set_option maxRecDepth 20000 in
theorem ggL_cross_X2_cross : GoodIn wsL_cross wsX2_cross := goodIn_ca (goodIn_ca (goodIn_ca (goodIn_r _ [8, 9, 10, 11, 12, 13, 14, 15, 16, 17, 7, 18, 19, 20, 21, 22, 23, 24, 25, 26, 27, 28, 29, 30, 31, 32, 33, 34, 35, 36, 37, 38, 39, 40, 41, 42, 43, 44, 45, 46, 47, 48, 49, 50, 51, 52, 53, 54, 55, 56, 57, 58, 59, 60, 61, 62, 63, 64, 65] (by decide +kernel) (by decide +kernel)) (goodIn_sub (fun _ h => List.mem_cons_of_mem _ (List.mem_append_left _ (List.mem_append_left _ (List.mem_append_right _ h)))) (by decide +kernel))) (goodIn_sub (fun _ h => List.mem_cons_of_mem _ (List.mem_append_left _ (List.mem_append_right _ h))) (by decide +kernel))) (goodIn_sub (fun _ h => List.mem_cons_of_mem _ (List.mem_append_right _ h)) (by decide +kernel))
set_option maxRecDepth 20000 in
theorem gL_cross_X2_cross : GoodIn wsL_cross (wsV RL 19 RX2 yX2_cross wsX2_cross) := goodIn_app (goodIn_of _ (by decide +kernel)) ggL_cross_X2_cross
theorem dL_cross_0 : decode cL_cross 0 = .ok (.aload_n 3, 1) := by decide +kernel
theorem dL_cross_1 : decode cL_cross 1 = .ok (.iconst 0, 1) := by decide +kernel
theorem dL_cross_2 : decode cL_cross 2 = .ok (.aload_n 0, 1) := by decide +kernel
theorem dL_cross_3 : decode cL_cross 3 = .ok (.iload_n 1, 1) := by decide +kernel
theorem dL_cross_4 : decode cL_cross 4 = .ok (.iload_n 2, 1) := by decide +kernel
theorem dL_cross_5 : decode cL_cross 5 = .ok (.invokevirtual 19, 3) := by decide +kernel
theorem dL_cross_8 : decode cL_cross 8 = .ok (.i2l, 1) := by decide +kernel
theorem dL_cross_9 : decode cL_cross 9 = .ok (.lastore, 1) := by decide +kernel
theorem dL_cross_10 : decode cL_cross 10 = .ok (.goto 15, 3) := by decide +kernel
theorem dL_cross_13 : decode cL_cross 13 = .ok (.astore 4, 2) := by decide +kernel
theorem dL_cross_15 : decode cL_cross 15 = .ok (.iconst 1, 1) := by decide +kernel
theorem dL_cross_16 : decode cL_cross 16 = .ok (.ireturn, 1) := by decide +kernel
theorem dL_cross_17 : decode cL_cross 17 = .ok (.astore 4, 2) := by decide +kernel
theorem dL_cross_19 : decode cL_cross 19 = .ok (.iconst 2, 1) := by decide +kernel
theorem dL_cross_20 : decode cL_cross 20 = .ok (.ireturn, 1) := by decide +kernel
theorem dL_cross_21 : decode cL_cross 21 = .ok (.astore 4, 2) := by decide +kernel
theorem dL_cross_23 : decode cL_cross 23 = .ok (.iconst 3, 1) := by decide +kernel
theorem dL_cross_24 : decode cL_cross 24 = .ok (.ireturn, 1) := by decide +kernel
theorem dL_cross_25 : decode cL_cross 25 = .ok (.iconst 0, 1) := by decide +kernel
theorem dL_cross_26 : decode cL_cross 26 = .ok (.ireturn, 1) := by decide +kernel
set_option maxRecDepth 20000 in
theorem ggL_distrust_X2_distrust : GoodIn wsL_distrust wsX2_distrust := goodIn_ca (goodIn_ca (goodIn_r _ [7, 8, 9, 10, 11, 12, 6, 13, 14, 15, 16, 17, 18, 19, 20, 21, 22, 23, 24, 25, 26, 27, 28, 29, 30, 31, 32, 33, 34, 35] (by decide +kernel) (by decide +kernel)) (goodIn_sub (fun _ h => List.mem_cons_of_mem _ (List.mem_append_left _ (List.mem_append_right _ h))) (by decide +kernel))) (goodIn_sub (fun _ h => List.mem_cons_of_mem _ (List.mem_append_right _ h)) (by decide +kernel))
set_option maxRecDepth 20000 in
theorem gL_distrust_X2_distrust : GoodIn wsL_distrust (wsV RL 23 RX2 yX2_distrust wsX2_distrust) := goodIn_app (goodIn_of _ (by decide +kernel)) ggL_distrust_X2_distrust
theorem dL_distrust_0 : decode cL_distrust 0 = .ok (.aload_n 3, 1) := by decide +kernel
theorem dL_distrust_1 : decode cL_distrust 1 = .ok (.iconst 0, 1) := by decide +kernel
theorem dL_distrust_2 : decode cL_distrust 2 = .ok (.aload_n 0, 1) := by decide +kernel
theorem dL_distrust_3 : decode cL_distrust 3 = .ok (.iload_n 1, 1) := by decide +kernel
theorem dL_distrust_4 : decode cL_distrust 4 = .ok (.iload_n 2, 1) := by decide +kernel
theorem dL_distrust_5 : decode cL_distrust 5 = .ok (.invokevirtual 23, 3) := by decide +kernel
theorem dL_distrust_8 : decode cL_distrust 8 = .ok (.i2l, 1) := by decide +kernel
theorem dL_distrust_9 : decode cL_distrust 9 = .ok (.lastore, 1) := by decide +kernel
theorem dL_distrust_10 : decode cL_distrust 10 = .ok (.goto 11, 3) := by decide +kernel
theorem dL_distrust_13 : decode cL_distrust 13 = .ok (.astore 4, 2) := by decide +kernel
theorem dL_distrust_15 : decode cL_distrust 15 = .ok (.iconst 1, 1) := by decide +kernel
theorem dL_distrust_16 : decode cL_distrust 16 = .ok (.ireturn, 1) := by decide +kernel
theorem dL_distrust_17 : decode cL_distrust 17 = .ok (.astore 4, 2) := by decide +kernel
theorem dL_distrust_19 : decode cL_distrust 19 = .ok (.iconst 2, 1) := by decide +kernel
theorem dL_distrust_20 : decode cL_distrust 20 = .ok (.ireturn, 1) := by decide +kernel
theorem dL_distrust_21 : decode cL_distrust 21 = .ok (.iconst 0, 1) := by decide +kernel
theorem dL_distrust_22 : decode cL_distrust 22 = .ok (.ireturn, 1) := by decide +kernel
set_option maxRecDepth 20000 in
theorem ggL_pin_X2_pin : GoodIn wsL_pin wsX2_pin := goodIn_ca (goodIn_ca (goodIn_r _ [7, 8, 9, 10, 11, 12, 6, 13, 14, 15, 16, 17, 18, 19, 20] (by decide +kernel) (by decide +kernel)) (goodIn_sub (fun _ h => List.mem_cons_of_mem _ (List.mem_append_left _ (List.mem_append_right _ h))) (by decide +kernel))) (goodIn_sub (fun _ h => List.mem_cons_of_mem _ (List.mem_append_right _ h)) (by decide +kernel))
set_option maxRecDepth 20000 in
theorem gL_pin_X2_pin : GoodIn wsL_pin (wsV RL 26 RX2 yX2_pin wsX2_pin) := goodIn_app (goodIn_of _ (by decide +kernel)) ggL_pin_X2_pin
theorem dL_pin_0 : decode cL_pin 0 = .ok (.aload_n 3, 1) := by decide +kernel
theorem dL_pin_1 : decode cL_pin 1 = .ok (.iconst 0, 1) := by decide +kernel
theorem dL_pin_2 : decode cL_pin 2 = .ok (.aload_n 0, 1) := by decide +kernel
theorem dL_pin_3 : decode cL_pin 3 = .ok (.iload_n 1, 1) := by decide +kernel
theorem dL_pin_4 : decode cL_pin 4 = .ok (.iload_n 2, 1) := by decide +kernel
theorem dL_pin_5 : decode cL_pin 5 = .ok (.invokevirtual 26, 3) := by decide +kernel
theorem dL_pin_8 : decode cL_pin 8 = .ok (.i2l, 1) := by decide +kernel
theorem dL_pin_9 : decode cL_pin 9 = .ok (.lastore, 1) := by decide +kernel
theorem dL_pin_10 : decode cL_pin 10 = .ok (.goto 11, 3) := by decide +kernel
theorem dL_pin_13 : decode cL_pin 13 = .ok (.astore 4, 2) := by decide +kernel
theorem dL_pin_15 : decode cL_pin 15 = .ok (.iconst 1, 1) := by decide +kernel
theorem dL_pin_16 : decode cL_pin 16 = .ok (.ireturn, 1) := by decide +kernel
theorem dL_pin_17 : decode cL_pin 17 = .ok (.astore 4, 2) := by decide +kernel
theorem dL_pin_19 : decode cL_pin 19 = .ok (.iconst 2, 1) := by decide +kernel
theorem dL_pin_20 : decode cL_pin 20 = .ok (.ireturn, 1) := by decide +kernel
theorem dL_pin_21 : decode cL_pin 21 = .ok (.iconst 0, 1) := by decide +kernel
theorem dL_pin_22 : decode cL_pin 22 = .ok (.ireturn, 1) := by decide +kernel
set_option maxRecDepth 20000 in
theorem ggL_issue_X2_issue : GoodIn wsL_issue wsX2_issue := goodIn_ca (goodIn_ca (goodIn_ca (goodIn_r _ [8, 9, 10, 11, 12, 13, 14, 15, 7, 16, 17, 18, 19, 20, 21, 22, 23, 24, 25, 26, 27, 28, 29, 30, 31, 32, 33, 34, 35, 36, 37, 38, 39, 40, 41, 42, 43, 44, 45, 46, 47, 48, 49, 50, 51, 52, 53, 54, 55, 56, 57, 58, 59, 60, 61, 62, 63, 64, 65, 66, 67, 68, 69, 70, 71, 72, 73, 74, 75, 76, 77, 78, 79, 80, 81, 82, 83, 84, 85, 86, 87, 88, 89, 90, 91, 92, 93, 94, 95, 96, 97, 98, 99, 100, 101, 102, 103, 104, 105, 106, 107, 108, 109, 110, 111, 112, 113, 114, 115, 116, 117, 118, 119, 120] (by decide +kernel) (by decide +kernel)) (goodIn_sub (fun _ h => List.mem_cons_of_mem _ (List.mem_append_left _ (List.mem_append_left _ (List.mem_append_right _ h)))) (by decide +kernel))) (goodIn_sub (fun _ h => List.mem_cons_of_mem _ (List.mem_append_left _ (List.mem_append_right _ h))) (by decide +kernel))) (goodIn_sub (fun _ h => List.mem_cons_of_mem _ (List.mem_append_right _ h)) (by decide +kernel))
set_option maxRecDepth 20000 in
theorem gL_issue_X2_issue : GoodIn wsL_issue (wsV RL 29 RX2 yX2_issue wsX2_issue) := goodIn_app (goodIn_of _ (by decide +kernel)) ggL_issue_X2_issue
theorem dL_issue_0 : decode cL_issue 0 = .ok (.aload 4, 2) := by decide +kernel
theorem dL_issue_2 : decode cL_issue 2 = .ok (.iconst 0, 1) := by decide +kernel
theorem dL_issue_3 : decode cL_issue 3 = .ok (.aload_n 0, 1) := by decide +kernel
theorem dL_issue_4 : decode cL_issue 4 = .ok (.iload_n 1, 1) := by decide +kernel
theorem dL_issue_5 : decode cL_issue 5 = .ok (.iload_n 2, 1) := by decide +kernel
theorem dL_issue_6 : decode cL_issue 6 = .ok (.iload_n 3, 1) := by decide +kernel
theorem dL_issue_7 : decode cL_issue 7 = .ok (.invokevirtual 29, 3) := by decide +kernel
theorem dL_issue_10 : decode cL_issue 10 = .ok (.i2l, 1) := by decide +kernel
theorem dL_issue_11 : decode cL_issue 11 = .ok (.lastore, 1) := by decide +kernel
theorem dL_issue_12 : decode cL_issue 12 = .ok (.goto 15, 3) := by decide +kernel
theorem dL_issue_15 : decode cL_issue 15 = .ok (.astore 5, 2) := by decide +kernel
theorem dL_issue_17 : decode cL_issue 17 = .ok (.iconst 1, 1) := by decide +kernel
theorem dL_issue_18 : decode cL_issue 18 = .ok (.ireturn, 1) := by decide +kernel
theorem dL_issue_19 : decode cL_issue 19 = .ok (.astore 5, 2) := by decide +kernel
theorem dL_issue_21 : decode cL_issue 21 = .ok (.iconst 2, 1) := by decide +kernel
theorem dL_issue_22 : decode cL_issue 22 = .ok (.ireturn, 1) := by decide +kernel
theorem dL_issue_23 : decode cL_issue 23 = .ok (.astore 5, 2) := by decide +kernel
theorem dL_issue_25 : decode cL_issue 25 = .ok (.iconst 3, 1) := by decide +kernel
theorem dL_issue_26 : decode cL_issue 26 = .ok (.ireturn, 1) := by decide +kernel
theorem dL_issue_27 : decode cL_issue 27 = .ok (.iconst 0, 1) := by decide +kernel
theorem dL_issue_28 : decode cL_issue 28 = .ok (.ireturn, 1) := by decide +kernel
set_option maxRecDepth 20000 in
theorem ggL_pass_X2_pass : GoodIn wsL_pass wsX2_pass := goodIn_ca (goodIn_ca (goodIn_r _ [7, 8, 9, 10, 11, 12, 13, 14, 15, 6, 16, 17, 18, 19, 20, 21, 22, 23, 24, 25, 26, 27, 28, 29, 30, 31, 32, 33, 34, 35, 36, 37, 38, 39, 40, 41, 42, 43, 44, 45, 46, 47, 48, 49, 50, 51, 52, 53, 54, 55, 56, 57, 58, 59, 60, 61, 62, 63, 64, 65, 66, 67, 68, 69, 70, 71, 72, 73, 74, 75, 76, 77, 78, 79, 80, 81, 82, 83, 84, 85, 86, 87, 88, 89, 90, 91, 92, 93, 94, 95, 96, 97, 98, 99, 100, 101, 102, 103, 104, 105, 106, 107, 108, 109, 110, 111, 112, 113, 114, 115, 116, 117, 118, 119, 120, 121, 122, 123, 124, 125, 126, 127, 128, 129, 130, 131, 132, 133, 134, 135, 136, 137, 138, 139, 140, 141, 142] (by decide +kernel) (by decide +kernel)) (goodIn_sub (fun _ h => List.mem_cons_of_mem _ (List.mem_append_left _ (List.mem_append_right _ h))) (by decide +kernel))) (goodIn_sub (fun _ h => List.mem_cons_of_mem _ (List.mem_append_right _ h)) (by decide +kernel))
set_option maxRecDepth 20000 in
theorem gL_pass_X2_pass : GoodIn wsL_pass (wsV RL 33 RX2 yX2_pass wsX2_pass) := goodIn_app (goodIn_of _ (by decide +kernel)) ggL_pass_X2_pass
theorem dL_pass_0 : decode cL_pass 0 = .ok (.aload_n 2, 1) := by decide +kernel
theorem dL_pass_1 : decode cL_pass 1 = .ok (.iconst 0, 1) := by decide +kernel
theorem dL_pass_2 : decode cL_pass 2 = .ok (.aload_n 0, 1) := by decide +kernel
theorem dL_pass_3 : decode cL_pass 3 = .ok (.iload_n 1, 1) := by decide +kernel
theorem dL_pass_4 : decode cL_pass 4 = .ok (.invokevirtual 33, 3) := by decide +kernel
theorem dL_pass_7 : decode cL_pass 7 = .ok (.i2l, 1) := by decide +kernel
theorem dL_pass_8 : decode cL_pass 8 = .ok (.lastore, 1) := by decide +kernel
theorem dL_pass_9 : decode cL_pass 9 = .ok (.goto 9, 3) := by decide +kernel
theorem dL_pass_12 : decode cL_pass 12 = .ok (.astore_n 3, 1) := by decide +kernel
theorem dL_pass_13 : decode cL_pass 13 = .ok (.iconst 1, 1) := by decide +kernel
theorem dL_pass_14 : decode cL_pass 14 = .ok (.ireturn, 1) := by decide +kernel
theorem dL_pass_15 : decode cL_pass 15 = .ok (.astore_n 3, 1) := by decide +kernel
theorem dL_pass_16 : decode cL_pass 16 = .ok (.iconst 2, 1) := by decide +kernel
theorem dL_pass_17 : decode cL_pass 17 = .ok (.ireturn, 1) := by decide +kernel
theorem dL_pass_18 : decode cL_pass 18 = .ok (.iconst 0, 1) := by decide +kernel
theorem dL_pass_19 : decode cL_pass 19 = .ok (.ireturn, 1) := by decide +kernel
set_option maxRecDepth 20000 in
theorem ggL_issuerOf_X2_issuerOf : GoodIn wsL_issuerOf wsX2_issuerOf := goodIn_ca (goodIn_r _ [6, 7, 8, 9, 10, 11, 5, 12, 13, 14, 15, 16, 17, 18, 19, 20, 21, 22, 23, 24, 25, 26, 27, 28] (by decide +kernel) (by decide +kernel)) (goodIn_sub (fun _ h => List.mem_cons_of_mem _ (List.mem_append_right _ h)) (by decide +kernel))
set_option maxRecDepth 20000 in
theorem gL_issuerOf_X2_issuerOf : GoodIn wsL_issuerOf (wsV RL 37 RX2 yX2_issuerOf wsX2_issuerOf) := goodIn_app (goodIn_of _ (by decide +kernel)) ggL_issuerOf_X2_issuerOf
theorem dL_issuerOf_0 : decode cL_issuerOf 0 = .ok (.aload_n 2, 1) := by decide +kernel
theorem dL_issuerOf_1 : decode cL_issuerOf 1 = .ok (.iconst 0, 1) := by decide +kernel
theorem dL_issuerOf_2 : decode cL_issuerOf 2 = .ok (.aload_n 0, 1) := by decide +kernel
theorem dL_issuerOf_3 : decode cL_issuerOf 3 = .ok (.iload_n 1, 1) := by decide +kernel
theorem dL_issuerOf_4 : decode cL_issuerOf 4 = .ok (.invokevirtual 37, 3) := by decide +kernel
theorem dL_issuerOf_7 : decode cL_issuerOf 7 = .ok (.i2l, 1) := by decide +kernel
theorem dL_issuerOf_8 : decode cL_issuerOf 8 = .ok (.lastore, 1) := by decide +kernel
theorem dL_issuerOf_9 : decode cL_issuerOf 9 = .ok (.goto 6, 3) := by decide +kernel
theorem dL_issuerOf_12 : decode cL_issuerOf 12 = .ok (.astore_n 3, 1) := by decide +kernel
theorem dL_issuerOf_13 : decode cL_issuerOf 13 = .ok (.iconst 1, 1) := by decide +kernel
theorem dL_issuerOf_14 : decode cL_issuerOf 14 = .ok (.ireturn, 1) := by decide +kernel
theorem dL_issuerOf_15 : decode cL_issuerOf 15 = .ok (.iconst 0, 1) := by decide +kernel
theorem dL_issuerOf_16 : decode cL_issuerOf 16 = .ok (.ireturn, 1) := by decide +kernel
set_option maxRecDepth 20000 in
theorem ggL_lastDay_X2_lastDay : GoodIn wsL_lastDay wsX2_lastDay := goodIn_ca (goodIn_r _ [6, 7, 8, 9, 10, 5, 11, 12, 13, 14, 15, 16, 17, 18, 19, 20, 21, 22, 23, 24, 25, 26, 27, 28, 29, 30, 31, 32, 33, 34] (by decide +kernel) (by decide +kernel)) (goodIn_sub (fun _ h => List.mem_cons_of_mem _ (List.mem_append_right _ h)) (by decide +kernel))
set_option maxRecDepth 20000 in
theorem gL_lastDay_X2_lastDay : GoodIn wsL_lastDay (wsV RL 40 RX2 yX2_lastDay wsX2_lastDay) := goodIn_app (goodIn_of _ (by decide +kernel)) ggL_lastDay_X2_lastDay
theorem dL_lastDay_0 : decode cL_lastDay 0 = .ok (.aload_n 2, 1) := by decide +kernel
theorem dL_lastDay_1 : decode cL_lastDay 1 = .ok (.iconst 0, 1) := by decide +kernel
theorem dL_lastDay_2 : decode cL_lastDay 2 = .ok (.aload_n 0, 1) := by decide +kernel
theorem dL_lastDay_3 : decode cL_lastDay 3 = .ok (.iload_n 1, 1) := by decide +kernel
theorem dL_lastDay_4 : decode cL_lastDay 4 = .ok (.invokevirtual 40, 3) := by decide +kernel
theorem dL_lastDay_7 : decode cL_lastDay 7 = .ok (.i2l, 1) := by decide +kernel
theorem dL_lastDay_8 : decode cL_lastDay 8 = .ok (.lastore, 1) := by decide +kernel
theorem dL_lastDay_9 : decode cL_lastDay 9 = .ok (.goto 6, 3) := by decide +kernel
theorem dL_lastDay_12 : decode cL_lastDay 12 = .ok (.astore_n 3, 1) := by decide +kernel
theorem dL_lastDay_13 : decode cL_lastDay 13 = .ok (.iconst 1, 1) := by decide +kernel
theorem dL_lastDay_14 : decode cL_lastDay 14 = .ok (.ireturn, 1) := by decide +kernel
theorem dL_lastDay_15 : decode cL_lastDay 15 = .ok (.iconst 0, 1) := by decide +kernel
theorem dL_lastDay_16 : decode cL_lastDay 16 = .ok (.ireturn, 1) := by decide +kernel
set_option maxRecDepth 20000 in
theorem ggL_dueOn_X2_dueOn : GoodIn wsL_dueOn wsX2_dueOn := goodIn_ca (goodIn_r _ [6, 7, 8, 9, 10, 5, 11, 12, 13, 14, 15, 16, 17, 18, 19, 20, 21, 22, 23, 24, 25, 26, 27, 28, 29, 30, 31, 32, 33, 34, 35] (by decide +kernel) (by decide +kernel)) (goodIn_sub (fun _ h => List.mem_cons_of_mem _ (List.mem_append_right _ h)) (by decide +kernel))
set_option maxRecDepth 20000 in
theorem gL_dueOn_X2_dueOn : GoodIn wsL_dueOn (wsV RL 43 RX2 yX2_dueOn wsX2_dueOn) := goodIn_app (goodIn_of _ (by decide +kernel)) ggL_dueOn_X2_dueOn
theorem dL_dueOn_0 : decode cL_dueOn 0 = .ok (.aload_n 2, 1) := by decide +kernel
theorem dL_dueOn_1 : decode cL_dueOn 1 = .ok (.iconst 0, 1) := by decide +kernel
theorem dL_dueOn_2 : decode cL_dueOn 2 = .ok (.aload_n 0, 1) := by decide +kernel
theorem dL_dueOn_3 : decode cL_dueOn 3 = .ok (.iload_n 1, 1) := by decide +kernel
theorem dL_dueOn_4 : decode cL_dueOn 4 = .ok (.invokevirtual 43, 3) := by decide +kernel
theorem dL_dueOn_7 : decode cL_dueOn 7 = .ok (.i2l, 1) := by decide +kernel
theorem dL_dueOn_8 : decode cL_dueOn 8 = .ok (.lastore, 1) := by decide +kernel
theorem dL_dueOn_9 : decode cL_dueOn 9 = .ok (.goto 6, 3) := by decide +kernel
theorem dL_dueOn_12 : decode cL_dueOn 12 = .ok (.astore_n 3, 1) := by decide +kernel
theorem dL_dueOn_13 : decode cL_dueOn 13 = .ok (.iconst 1, 1) := by decide +kernel
theorem dL_dueOn_14 : decode cL_dueOn 14 = .ok (.ireturn, 1) := by decide +kernel
theorem dL_dueOn_15 : decode cL_dueOn 15 = .ok (.iconst 0, 1) := by decide +kernel
theorem dL_dueOn_16 : decode cL_dueOn 16 = .ok (.ireturn, 1) := by decide +kernel
set_option maxRecDepth 20000 in
theorem ggL_renewal_X2_renewal : GoodIn wsL_renewal wsX2_renewal := goodIn_ca (goodIn_r _ [6, 7, 8, 9, 10, 11, 5, 12, 13, 14, 15, 16, 17, 18, 19, 20, 21, 22, 23, 24, 25, 26, 27, 28] (by decide +kernel) (by decide +kernel)) (goodIn_sub (fun _ h => List.mem_cons_of_mem _ (List.mem_append_right _ h)) (by decide +kernel))
set_option maxRecDepth 20000 in
theorem gL_renewal_X2_renewal : GoodIn wsL_renewal (wsV RL 46 RX2 yX2_renewal wsX2_renewal) := goodIn_app (goodIn_of _ (by decide +kernel)) ggL_renewal_X2_renewal
theorem dL_renewal_0 : decode cL_renewal 0 = .ok (.aload_n 2, 1) := by decide +kernel
theorem dL_renewal_1 : decode cL_renewal 1 = .ok (.iconst 0, 1) := by decide +kernel
theorem dL_renewal_2 : decode cL_renewal 2 = .ok (.aload_n 0, 1) := by decide +kernel
theorem dL_renewal_3 : decode cL_renewal 3 = .ok (.iload_n 1, 1) := by decide +kernel
theorem dL_renewal_4 : decode cL_renewal 4 = .ok (.invokevirtual 46, 3) := by decide +kernel
theorem dL_renewal_7 : decode cL_renewal 7 = .ok (.i2l, 1) := by decide +kernel
theorem dL_renewal_8 : decode cL_renewal 8 = .ok (.lastore, 1) := by decide +kernel
theorem dL_renewal_9 : decode cL_renewal 9 = .ok (.goto 6, 3) := by decide +kernel
theorem dL_renewal_12 : decode cL_renewal 12 = .ok (.astore_n 3, 1) := by decide +kernel
theorem dL_renewal_13 : decode cL_renewal 13 = .ok (.iconst 1, 1) := by decide +kernel
theorem dL_renewal_14 : decode cL_renewal 14 = .ok (.ireturn, 1) := by decide +kernel
theorem dL_renewal_15 : decode cL_renewal 15 = .ok (.iconst 0, 1) := by decide +kernel
theorem dL_renewal_16 : decode cL_renewal 16 = .ok (.ireturn, 1) := by decide +kernel
set_option maxRecDepth 20000 in
theorem ggL_waitingAt_X2_waitingAt : GoodIn wsL_waitingAt wsX2_waitingAt := goodIn_ca (goodIn_r _ [6, 7, 8, 9, 10, 11, 12, 13, 14, 15, 16, 17, 18, 19, 20, 21, 22, 23, 24, 25, 26, 27, 28, 29, 30, 31, 32, 33, 34, 35, 36, 37, 38, 39, 40, 41, 42, 43, 44, 45, 46, 47, 48, 49, 50, 51] (by decide +kernel) (by decide +kernel)) (goodIn_sub (fun _ h => List.mem_cons_of_mem _ (List.mem_append_right _ h)) (by decide +kernel))
set_option maxRecDepth 20000 in
theorem gL_waitingAt_X2_waitingAt : GoodIn wsL_waitingAt (wsV RL 49 RX2 yX2_waitingAt wsX2_waitingAt) := goodIn_app (goodIn_of _ (by decide +kernel)) ggL_waitingAt_X2_waitingAt
theorem dL_waitingAt_0 : decode cL_waitingAt 0 = .ok (.aload_n 2, 1) := by decide +kernel
theorem dL_waitingAt_1 : decode cL_waitingAt 1 = .ok (.iconst 0, 1) := by decide +kernel
theorem dL_waitingAt_2 : decode cL_waitingAt 2 = .ok (.aload_n 0, 1) := by decide +kernel
theorem dL_waitingAt_3 : decode cL_waitingAt 3 = .ok (.iload_n 1, 1) := by decide +kernel
theorem dL_waitingAt_4 : decode cL_waitingAt 4 = .ok (.invokevirtual 49, 3) := by decide +kernel
theorem dL_waitingAt_7 : decode cL_waitingAt 7 = .ok (.i2l, 1) := by decide +kernel
theorem dL_waitingAt_8 : decode cL_waitingAt 8 = .ok (.lastore, 1) := by decide +kernel
theorem dL_waitingAt_9 : decode cL_waitingAt 9 = .ok (.goto 6, 3) := by decide +kernel
theorem dL_waitingAt_12 : decode cL_waitingAt 12 = .ok (.astore_n 3, 1) := by decide +kernel
theorem dL_waitingAt_13 : decode cL_waitingAt 13 = .ok (.iconst 1, 1) := by decide +kernel
theorem dL_waitingAt_14 : decode cL_waitingAt 14 = .ok (.ireturn, 1) := by decide +kernel
theorem dL_waitingAt_15 : decode cL_waitingAt 15 = .ok (.iconst 0, 1) := by decide +kernel
theorem dL_waitingAt_16 : decode cL_waitingAt 16 = .ok (.ireturn, 1) := by decide +kernel
set_option maxRecDepth 20000 in
theorem ggL_room_X2_room : GoodIn wsL_room wsX2_room := goodIn_ca (goodIn_r _ [6, 7, 8, 9, 5, 10, 11, 12, 13, 14, 15, 16, 17, 18, 19, 20, 21, 22, 23, 24, 25, 26, 27, 28, 29, 30, 31, 32, 33, 34, 35, 36, 37, 38, 39, 40, 41, 42, 43, 44, 45, 46, 47, 48, 49, 50, 51, 52, 53, 54] (by decide +kernel) (by decide +kernel)) (goodIn_sub (fun _ h => List.mem_cons_of_mem _ (List.mem_append_right _ h)) (by decide +kernel))
set_option maxRecDepth 20000 in
theorem gL_room_X2_room : GoodIn wsL_room (wsV RL 52 RX2 yX2_room wsX2_room) := goodIn_app (goodIn_of _ (by decide +kernel)) ggL_room_X2_room
theorem dL_room_0 : decode cL_room 0 = .ok (.aload_n 2, 1) := by decide +kernel
theorem dL_room_1 : decode cL_room 1 = .ok (.iconst 0, 1) := by decide +kernel
theorem dL_room_2 : decode cL_room 2 = .ok (.aload_n 0, 1) := by decide +kernel
theorem dL_room_3 : decode cL_room 3 = .ok (.iload_n 1, 1) := by decide +kernel
theorem dL_room_4 : decode cL_room 4 = .ok (.invokevirtual 52, 3) := by decide +kernel
theorem dL_room_7 : decode cL_room 7 = .ok (.i2l, 1) := by decide +kernel
theorem dL_room_8 : decode cL_room 8 = .ok (.lastore, 1) := by decide +kernel
theorem dL_room_9 : decode cL_room 9 = .ok (.goto 6, 3) := by decide +kernel
theorem dL_room_12 : decode cL_room 12 = .ok (.astore_n 3, 1) := by decide +kernel
theorem dL_room_13 : decode cL_room 13 = .ok (.iconst 1, 1) := by decide +kernel
theorem dL_room_14 : decode cL_room 14 = .ok (.ireturn, 1) := by decide +kernel
theorem dL_room_15 : decode cL_room 15 = .ok (.iconst 0, 1) := by decide +kernel
theorem dL_room_16 : decode cL_room 16 = .ok (.ireturn, 1) := by decide +kernel
set_option maxRecDepth 20000 in
theorem ggL_isGood_X2_isGood : GoodIn wsL_isGood wsX2_isGood := goodIn_ca (goodIn_ca (goodIn_r _ [7, 8, 9, 10, 11, 6, 12, 13, 14, 15, 16, 17, 18, 19, 20, 21, 22, 23, 24, 25, 26, 27, 28, 29, 30, 31, 32, 33, 34, 35, 36, 37, 38, 39, 40, 41, 42, 43, 44, 45, 46, 47, 48, 49, 50, 51, 52, 53, 54, 55, 56, 57, 58, 59, 60] (by decide +kernel) (by decide +kernel)) (goodIn_sub (fun _ h => List.mem_cons_of_mem _ (List.mem_append_left _ (List.mem_append_right _ h))) (by decide +kernel))) (goodIn_sub (fun _ h => List.mem_cons_of_mem _ (List.mem_append_right _ h)) (by decide +kernel))
set_option maxRecDepth 20000 in
theorem gL_isGood_X2_isGood : GoodIn wsL_isGood (wsV RL 55 RX2 yX2_isGood wsX2_isGood) := goodIn_app (goodIn_of _ (by decide +kernel)) ggL_isGood_X2_isGood
theorem dL_isGood_0 : decode cL_isGood 0 = .ok (.aload_n 3, 1) := by decide +kernel
theorem dL_isGood_1 : decode cL_isGood 1 = .ok (.iconst 0, 1) := by decide +kernel
theorem dL_isGood_2 : decode cL_isGood 2 = .ok (.aload_n 0, 1) := by decide +kernel
theorem dL_isGood_3 : decode cL_isGood 3 = .ok (.iload_n 1, 1) := by decide +kernel
theorem dL_isGood_4 : decode cL_isGood 4 = .ok (.iload_n 2, 1) := by decide +kernel
theorem dL_isGood_5 : decode cL_isGood 5 = .ok (.invokevirtual 55, 3) := by decide +kernel
theorem dL_isGood_8 : decode cL_isGood 8 = .ok (.ifCond .eq 7, 3) := by decide +kernel
theorem dL_isGood_11 : decode cL_isGood 11 = .ok (.lconst 1, 1) := by decide +kernel
theorem dL_isGood_12 : decode cL_isGood 12 = .ok (.goto 4, 3) := by decide +kernel
theorem dL_isGood_15 : decode cL_isGood 15 = .ok (.lconst 0, 1) := by decide +kernel
theorem dL_isGood_16 : decode cL_isGood 16 = .ok (.lastore, 1) := by decide +kernel
theorem dL_isGood_17 : decode cL_isGood 17 = .ok (.goto 11, 3) := by decide +kernel
theorem dL_isGood_20 : decode cL_isGood 20 = .ok (.astore 4, 2) := by decide +kernel
theorem dL_isGood_22 : decode cL_isGood 22 = .ok (.iconst 1, 1) := by decide +kernel
theorem dL_isGood_23 : decode cL_isGood 23 = .ok (.ireturn, 1) := by decide +kernel
theorem dL_isGood_24 : decode cL_isGood 24 = .ok (.astore 4, 2) := by decide +kernel
theorem dL_isGood_26 : decode cL_isGood 26 = .ok (.iconst 2, 1) := by decide +kernel
theorem dL_isGood_27 : decode cL_isGood 27 = .ok (.ireturn, 1) := by decide +kernel
theorem dL_isGood_28 : decode cL_isGood 28 = .ok (.iconst 0, 1) := by decide +kernel
theorem dL_isGood_29 : decode cL_isGood 29 = .ok (.ireturn, 1) := by decide +kernel
set_option maxRecDepth 20000 in
theorem ggL_chainEnd_X2_chainEnd : GoodIn wsL_chainEnd wsX2_chainEnd := goodIn_ca (goodIn_r _ [6, 7, 8, 9, 10, 11, 5, 12, 13, 14, 15, 16, 17, 18, 19, 20, 21, 22, 23, 24, 25, 26, 27, 28, 29] (by decide +kernel) (by decide +kernel)) (goodIn_sub (fun _ h => List.mem_cons_of_mem _ (List.mem_append_right _ h)) (by decide +kernel))
set_option maxRecDepth 20000 in
theorem gL_chainEnd_X2_chainEnd : GoodIn wsL_chainEnd (wsV RL 59 RX2 yX2_chainEnd wsX2_chainEnd) := goodIn_app (goodIn_of _ (by decide +kernel)) ggL_chainEnd_X2_chainEnd
theorem dL_chainEnd_0 : decode cL_chainEnd 0 = .ok (.aload_n 2, 1) := by decide +kernel
theorem dL_chainEnd_1 : decode cL_chainEnd 1 = .ok (.iconst 0, 1) := by decide +kernel
theorem dL_chainEnd_2 : decode cL_chainEnd 2 = .ok (.aload_n 0, 1) := by decide +kernel
theorem dL_chainEnd_3 : decode cL_chainEnd 3 = .ok (.iload_n 1, 1) := by decide +kernel
theorem dL_chainEnd_4 : decode cL_chainEnd 4 = .ok (.invokevirtual 59, 3) := by decide +kernel
theorem dL_chainEnd_7 : decode cL_chainEnd 7 = .ok (.i2l, 1) := by decide +kernel
theorem dL_chainEnd_8 : decode cL_chainEnd 8 = .ok (.lastore, 1) := by decide +kernel
theorem dL_chainEnd_9 : decode cL_chainEnd 9 = .ok (.goto 6, 3) := by decide +kernel
theorem dL_chainEnd_12 : decode cL_chainEnd 12 = .ok (.astore_n 3, 1) := by decide +kernel
theorem dL_chainEnd_13 : decode cL_chainEnd 13 = .ok (.iconst 1, 1) := by decide +kernel
theorem dL_chainEnd_14 : decode cL_chainEnd 14 = .ok (.ireturn, 1) := by decide +kernel
theorem dL_chainEnd_15 : decode cL_chainEnd 15 = .ok (.iconst 0, 1) := by decide +kernel
theorem dL_chainEnd_16 : decode cL_chainEnd 16 = .ok (.ireturn, 1) := by decide +kernel
set_option maxRecDepth 20000 in
theorem ggL_chains_X2_chains : GoodIn wsL_chains wsX2_chains := goodIn_ca (goodIn_r _ [6, 7, 8, 9, 10, 11, 5, 12, 13, 14, 15, 16, 17, 18, 19, 20, 21, 22, 23, 24, 25, 26, 27, 28, 29] (by decide +kernel) (by decide +kernel)) (goodIn_sub (fun _ h => List.mem_cons_of_mem _ (List.mem_append_right _ h)) (by decide +kernel))
set_option maxRecDepth 20000 in
theorem gL_chains_X2_chains : GoodIn wsL_chains (wsV RL 62 RX2 yX2_chains wsX2_chains) := goodIn_app (goodIn_of _ (by decide +kernel)) ggL_chains_X2_chains
theorem dL_chains_0 : decode cL_chains 0 = .ok (.aload_n 2, 1) := by decide +kernel
theorem dL_chains_1 : decode cL_chains 1 = .ok (.iconst 0, 1) := by decide +kernel
theorem dL_chains_2 : decode cL_chains 2 = .ok (.aload_n 0, 1) := by decide +kernel
theorem dL_chains_3 : decode cL_chains 3 = .ok (.iload_n 1, 1) := by decide +kernel
theorem dL_chains_4 : decode cL_chains 4 = .ok (.invokevirtual 62, 3) := by decide +kernel
theorem dL_chains_7 : decode cL_chains 7 = .ok (.i2l, 1) := by decide +kernel
theorem dL_chains_8 : decode cL_chains 8 = .ok (.lastore, 1) := by decide +kernel
theorem dL_chains_9 : decode cL_chains 9 = .ok (.goto 6, 3) := by decide +kernel
theorem dL_chains_12 : decode cL_chains 12 = .ok (.astore_n 3, 1) := by decide +kernel
theorem dL_chains_13 : decode cL_chains 13 = .ok (.iconst 1, 1) := by decide +kernel
theorem dL_chains_14 : decode cL_chains 14 = .ok (.ireturn, 1) := by decide +kernel
theorem dL_chains_15 : decode cL_chains 15 = .ok (.iconst 0, 1) := by decide +kernel
theorem dL_chains_16 : decode cL_chains 16 = .ok (.ireturn, 1) := by decide +kernel
set_option maxRecDepth 20000 in
theorem ggL_isCovered_X2_isCovered : GoodIn wsL_isCovered wsX2_isCovered := goodIn_ca (goodIn_ca (goodIn_r _ [7, 8, 9, 6, 10, 11, 12, 13, 14, 15, 16, 17, 18, 19, 20, 21, 22, 23, 24, 25, 26, 27, 28, 29, 30, 31, 32, 33, 34, 35, 36, 37, 38, 39, 40, 41, 42, 43, 44, 45, 46, 47, 48, 49, 50, 51, 52, 53, 54, 55, 56, 57, 58, 59, 60, 61, 62, 63, 64, 65, 66, 67, 68, 69, 70, 71, 72, 73, 74, 75, 76, 77, 78, 79, 80, 81, 82, 83, 84, 85, 86, 87] (by decide +kernel) (by decide +kernel)) (goodIn_sub (fun _ h => List.mem_cons_of_mem _ (List.mem_append_left _ (List.mem_append_right _ h))) (by decide +kernel))) (goodIn_sub (fun _ h => List.mem_cons_of_mem _ (List.mem_append_right _ h)) (by decide +kernel))
set_option maxRecDepth 20000 in
theorem gL_isCovered_X2_isCovered : GoodIn wsL_isCovered (wsV RL 65 RX2 yX2_isCovered wsX2_isCovered) := goodIn_app (goodIn_of _ (by decide +kernel)) ggL_isCovered_X2_isCovered
theorem dL_isCovered_0 : decode cL_isCovered 0 = .ok (.aload_n 3, 1) := by decide +kernel
theorem dL_isCovered_1 : decode cL_isCovered 1 = .ok (.iconst 0, 1) := by decide +kernel
theorem dL_isCovered_2 : decode cL_isCovered 2 = .ok (.aload_n 0, 1) := by decide +kernel
theorem dL_isCovered_3 : decode cL_isCovered 3 = .ok (.iload_n 1, 1) := by decide +kernel
theorem dL_isCovered_4 : decode cL_isCovered 4 = .ok (.iload_n 2, 1) := by decide +kernel
theorem dL_isCovered_5 : decode cL_isCovered 5 = .ok (.invokevirtual 65, 3) := by decide +kernel
theorem dL_isCovered_8 : decode cL_isCovered 8 = .ok (.ifCond .eq 7, 3) := by decide +kernel
theorem dL_isCovered_11 : decode cL_isCovered 11 = .ok (.lconst 1, 1) := by decide +kernel
theorem dL_isCovered_12 : decode cL_isCovered 12 = .ok (.goto 4, 3) := by decide +kernel
theorem dL_isCovered_15 : decode cL_isCovered 15 = .ok (.lconst 0, 1) := by decide +kernel
theorem dL_isCovered_16 : decode cL_isCovered 16 = .ok (.lastore, 1) := by decide +kernel
theorem dL_isCovered_17 : decode cL_isCovered 17 = .ok (.goto 11, 3) := by decide +kernel
theorem dL_isCovered_20 : decode cL_isCovered 20 = .ok (.astore 4, 2) := by decide +kernel
theorem dL_isCovered_22 : decode cL_isCovered 22 = .ok (.iconst 1, 1) := by decide +kernel
theorem dL_isCovered_23 : decode cL_isCovered 23 = .ok (.ireturn, 1) := by decide +kernel
theorem dL_isCovered_24 : decode cL_isCovered 24 = .ok (.astore 4, 2) := by decide +kernel
theorem dL_isCovered_26 : decode cL_isCovered 26 = .ok (.iconst 2, 1) := by decide +kernel
theorem dL_isCovered_27 : decode cL_isCovered 27 = .ok (.ireturn, 1) := by decide +kernel
theorem dL_isCovered_28 : decode cL_isCovered 28 = .ok (.iconst 0, 1) := by decide +kernel
theorem dL_isCovered_29 : decode cL_isCovered 29 = .ok (.ireturn, 1) := by decide +kernel
set_option maxRecDepth 20000 in
theorem ggL_nextGap_X2_nextGap : GoodIn wsL_nextGap wsX2_nextGap := goodIn_ca (goodIn_ca (goodIn_r _ [7, 8, 9, 6, 10, 11, 12, 13, 14, 15, 16, 17, 18, 19, 20, 21, 22, 23, 24, 25, 26, 27, 28, 29, 30, 31, 32, 33, 34, 35, 36, 37, 38, 39, 40, 41, 42, 43, 44, 45, 46, 47, 48, 49, 50, 51, 52, 53, 54, 55, 56, 57, 58, 59, 60, 61, 62, 63, 64, 65, 66, 67, 68, 69, 70, 71, 72, 73, 74, 75, 76, 77, 78, 79, 80, 81, 82, 83, 84, 85, 86, 87] (by decide +kernel) (by decide +kernel)) (goodIn_sub (fun _ h => List.mem_cons_of_mem _ (List.mem_append_left _ (List.mem_append_right _ h))) (by decide +kernel))) (goodIn_sub (fun _ h => List.mem_cons_of_mem _ (List.mem_append_right _ h)) (by decide +kernel))
set_option maxRecDepth 20000 in
theorem gL_nextGap_X2_nextGap : GoodIn wsL_nextGap (wsV RL 68 RX2 yX2_nextGap wsX2_nextGap) := goodIn_app (goodIn_of _ (by decide +kernel)) ggL_nextGap_X2_nextGap
theorem dL_nextGap_0 : decode cL_nextGap 0 = .ok (.aload_n 3, 1) := by decide +kernel
theorem dL_nextGap_1 : decode cL_nextGap 1 = .ok (.iconst 0, 1) := by decide +kernel
theorem dL_nextGap_2 : decode cL_nextGap 2 = .ok (.aload_n 0, 1) := by decide +kernel
theorem dL_nextGap_3 : decode cL_nextGap 3 = .ok (.iload_n 1, 1) := by decide +kernel
theorem dL_nextGap_4 : decode cL_nextGap 4 = .ok (.iload_n 2, 1) := by decide +kernel
theorem dL_nextGap_5 : decode cL_nextGap 5 = .ok (.invokevirtual 68, 3) := by decide +kernel
theorem dL_nextGap_8 : decode cL_nextGap 8 = .ok (.i2l, 1) := by decide +kernel
theorem dL_nextGap_9 : decode cL_nextGap 9 = .ok (.lastore, 1) := by decide +kernel
theorem dL_nextGap_10 : decode cL_nextGap 10 = .ok (.goto 11, 3) := by decide +kernel
theorem dL_nextGap_13 : decode cL_nextGap 13 = .ok (.astore 4, 2) := by decide +kernel
theorem dL_nextGap_15 : decode cL_nextGap 15 = .ok (.iconst 1, 1) := by decide +kernel
theorem dL_nextGap_16 : decode cL_nextGap 16 = .ok (.ireturn, 1) := by decide +kernel
theorem dL_nextGap_17 : decode cL_nextGap 17 = .ok (.astore 4, 2) := by decide +kernel
theorem dL_nextGap_19 : decode cL_nextGap 19 = .ok (.iconst 2, 1) := by decide +kernel
theorem dL_nextGap_20 : decode cL_nextGap 20 = .ok (.ireturn, 1) := by decide +kernel
theorem dL_nextGap_21 : decode cL_nextGap 21 = .ok (.iconst 0, 1) := by decide +kernel
theorem dL_nextGap_22 : decode cL_nextGap 22 = .ok (.ireturn, 1) := by decide +kernel
set_option maxRecDepth 20000 in
theorem ggL_covered_X2_covered : GoodIn wsL_covered wsX2_covered := goodIn_ca (goodIn_r _ [6, 7, 8, 5, 9, 10, 11, 12, 13, 14, 15, 16, 17, 18, 19, 20, 21, 22, 23, 24, 25, 26, 27, 28, 29, 30, 31, 32, 33, 34, 35, 36, 37, 38, 39, 40, 41, 42, 43, 44, 45, 46, 47, 48, 49, 50, 51, 52, 53, 54, 55, 56, 57, 58, 59, 60, 61, 62, 63, 64, 65, 66, 67, 68, 69, 70, 71, 72, 73, 74, 75, 76, 77, 78, 79, 80] (by decide +kernel) (by decide +kernel)) (goodIn_sub (fun _ h => List.mem_cons_of_mem _ (List.mem_append_right _ h)) (by decide +kernel))
set_option maxRecDepth 20000 in
theorem gL_covered_X2_covered : GoodIn wsL_covered (wsV RL 71 RX2 yX2_covered wsX2_covered) := goodIn_app (goodIn_of _ (by decide +kernel)) ggL_covered_X2_covered
theorem dL_covered_0 : decode cL_covered 0 = .ok (.aload_n 2, 1) := by decide +kernel
theorem dL_covered_1 : decode cL_covered 1 = .ok (.iconst 0, 1) := by decide +kernel
theorem dL_covered_2 : decode cL_covered 2 = .ok (.aload_n 0, 1) := by decide +kernel
theorem dL_covered_3 : decode cL_covered 3 = .ok (.iload_n 1, 1) := by decide +kernel
theorem dL_covered_4 : decode cL_covered 4 = .ok (.invokevirtual 71, 3) := by decide +kernel
theorem dL_covered_7 : decode cL_covered 7 = .ok (.i2l, 1) := by decide +kernel
theorem dL_covered_8 : decode cL_covered 8 = .ok (.lastore, 1) := by decide +kernel
theorem dL_covered_9 : decode cL_covered 9 = .ok (.goto 6, 3) := by decide +kernel
theorem dL_covered_12 : decode cL_covered 12 = .ok (.astore_n 3, 1) := by decide +kernel
theorem dL_covered_13 : decode cL_covered 13 = .ok (.iconst 1, 1) := by decide +kernel
theorem dL_covered_14 : decode cL_covered 14 = .ok (.ireturn, 1) := by decide +kernel
theorem dL_covered_15 : decode cL_covered 15 = .ok (.iconst 0, 1) := by decide +kernel
theorem dL_covered_16 : decode cL_covered 16 = .ok (.ireturn, 1) := by decide +kernel
set_option maxRecDepth 20000 in
theorem ggL_breaks_X2_breaks : GoodIn wsL_breaks wsX2_breaks := goodIn_ca (goodIn_ca (goodIn_r _ [7, 8, 9, 10, 6, 11, 12, 13, 14, 15, 16, 17, 18, 19, 20, 21, 22, 23, 24, 25, 26, 27, 28, 29, 30, 31, 32, 33, 34, 35, 36, 37, 38, 39, 40, 41, 42, 43, 44, 45, 46, 47, 48, 49, 50, 51, 52, 53, 54, 55, 56, 57, 58, 59, 60, 61, 62, 63, 64, 65, 66, 67, 68, 69, 70, 71, 72, 73, 74, 75, 76, 77, 78, 79, 80, 81, 82, 83, 84, 85, 86, 87, 88, 89, 90, 91, 92] (by decide +kernel) (by decide +kernel)) (goodIn_sub (fun _ h => List.mem_cons_of_mem _ (List.mem_append_left _ (List.mem_append_right _ h))) (by decide +kernel))) (goodIn_sub (fun _ h => List.mem_cons_of_mem _ (List.mem_append_right _ h)) (by decide +kernel))
set_option maxRecDepth 20000 in
theorem gL_breaks_X2_breaks : GoodIn wsL_breaks (wsV RL 74 RX2 yX2_breaks wsX2_breaks) := goodIn_app (goodIn_of _ (by decide +kernel)) ggL_breaks_X2_breaks
theorem dL_breaks_0 : decode cL_breaks 0 = .ok (.aload_n 3, 1) := by decide +kernel
theorem dL_breaks_1 : decode cL_breaks 1 = .ok (.iconst 0, 1) := by decide +kernel
theorem dL_breaks_2 : decode cL_breaks 2 = .ok (.aload_n 0, 1) := by decide +kernel
theorem dL_breaks_3 : decode cL_breaks 3 = .ok (.iload_n 1, 1) := by decide +kernel
theorem dL_breaks_4 : decode cL_breaks 4 = .ok (.iload_n 2, 1) := by decide +kernel
theorem dL_breaks_5 : decode cL_breaks 5 = .ok (.invokevirtual 74, 3) := by decide +kernel
theorem dL_breaks_8 : decode cL_breaks 8 = .ok (.i2l, 1) := by decide +kernel
theorem dL_breaks_9 : decode cL_breaks 9 = .ok (.lastore, 1) := by decide +kernel
theorem dL_breaks_10 : decode cL_breaks 10 = .ok (.goto 11, 3) := by decide +kernel
theorem dL_breaks_13 : decode cL_breaks 13 = .ok (.astore 4, 2) := by decide +kernel
theorem dL_breaks_15 : decode cL_breaks 15 = .ok (.iconst 1, 1) := by decide +kernel
theorem dL_breaks_16 : decode cL_breaks 16 = .ok (.ireturn, 1) := by decide +kernel
theorem dL_breaks_17 : decode cL_breaks 17 = .ok (.astore 4, 2) := by decide +kernel
theorem dL_breaks_19 : decode cL_breaks 19 = .ok (.iconst 2, 1) := by decide +kernel
theorem dL_breaks_20 : decode cL_breaks 20 = .ok (.ireturn, 1) := by decide +kernel
theorem dL_breaks_21 : decode cL_breaks 21 = .ok (.iconst 0, 1) := by decide +kernel
theorem dL_breaks_22 : decode cL_breaks 22 = .ok (.ireturn, 1) := by decide +kernel
set_option maxRecDepth 20000 in
theorem ggL_weakest_X2_weakest : GoodIn wsL_weakest wsX2_weakest := goodIn_ca (goodIn_r _ [6, 7, 8, 9, 10, 5, 11, 12, 13, 14, 15, 16, 17, 18, 19, 20, 21, 22, 23, 24, 25, 26, 27, 28, 29, 30, 31, 32, 33, 34, 35, 36, 37, 38, 39, 40, 41, 42, 43, 44, 45, 46, 47, 48, 49, 50, 51, 52, 53, 54, 55, 56, 57, 58, 59, 60, 61, 62, 63, 64, 65, 66, 67, 68, 69, 70, 71, 72, 73, 74, 75, 76, 77, 78, 79, 80, 81, 82, 83, 84, 85, 86, 87, 88, 89, 90, 91, 92] (by decide +kernel) (by decide +kernel)) (goodIn_sub (fun _ h => List.mem_cons_of_mem _ (List.mem_append_right _ h)) (by decide +kernel))
set_option maxRecDepth 20000 in
theorem gL_weakest_X2_weakest : GoodIn wsL_weakest (wsV RL 77 RX2 yX2_weakest wsX2_weakest) := goodIn_app (goodIn_of _ (by decide +kernel)) ggL_weakest_X2_weakest
theorem dL_weakest_0 : decode cL_weakest 0 = .ok (.aload_n 2, 1) := by decide +kernel
theorem dL_weakest_1 : decode cL_weakest 1 = .ok (.iconst 0, 1) := by decide +kernel
theorem dL_weakest_2 : decode cL_weakest 2 = .ok (.aload_n 0, 1) := by decide +kernel
theorem dL_weakest_3 : decode cL_weakest 3 = .ok (.iload_n 1, 1) := by decide +kernel
theorem dL_weakest_4 : decode cL_weakest 4 = .ok (.invokevirtual 77, 3) := by decide +kernel
theorem dL_weakest_7 : decode cL_weakest 7 = .ok (.i2l, 1) := by decide +kernel
theorem dL_weakest_8 : decode cL_weakest 8 = .ok (.lastore, 1) := by decide +kernel
theorem dL_weakest_9 : decode cL_weakest 9 = .ok (.goto 6, 3) := by decide +kernel
theorem dL_weakest_12 : decode cL_weakest 12 = .ok (.astore_n 3, 1) := by decide +kernel
theorem dL_weakest_13 : decode cL_weakest 13 = .ok (.iconst 1, 1) := by decide +kernel
theorem dL_weakest_14 : decode cL_weakest 14 = .ok (.ireturn, 1) := by decide +kernel
theorem dL_weakest_15 : decode cL_weakest 15 = .ok (.iconst 0, 1) := by decide +kernel
theorem dL_weakest_16 : decode cL_weakest 16 = .ok (.ireturn, 1) := by decide +kernel
set_option maxRecDepth 20000 in
theorem ggL_law_X2_init : GoodIn wsL_law wsX2_init := goodIn_r _ [9, 10, 11, 12, 13, 14, 15, 16, 17, 18, 19, 20, 21, 22, 23, 24, 25, 26, 27, 28, 29, 30, 31, 32, 33, 34, 35, 36, 37, 38, 39, 40, 41, 42, 43, 44, 45, 46, 47, 608, 609, 610, 611, 612, 613, 614, 615, 616, 581, 582, 583, 584, 585, 617, 618, 619, 620, 621, 622, 623, 624] (by decide +kernel) (by decide +kernel)
set_option maxRecDepth 20000 in
theorem gL_law_X2_init : GoodIn wsL_law (wsX2_init) := ggL_law_X2_init
set_option maxRecDepth 20000 in
theorem ggL_law_X3_init : GoodIn wsL_law wsX3_init := goodIn_r _ [50, 51, 11, 12, 52, 21, 53, 54, 55, 56, 57, 58, 59, 60, 61, 62, 63, 64, 65, 66, 67, 68, 69, 70, 71, 586, 587, 588, 589, 590, 591, 592, 593, 594, 595, 596, 597, 598, 599, 600, 601, 602, 603, 604, 605, 606, 607] (by decide +kernel) (by decide +kernel)
set_option maxRecDepth 20000 in
theorem gL_law_X3_init : GoodIn wsL_law (wsX3_init) := ggL_law_X3_init
set_option maxRecDepth 20000 in
theorem ggL_law_L_addIssuer : GoodIn wsL_law wsL_addIssuer := goodIn_ca (goodIn_ca (goodIn_ca (goodIn_r _ [75, 76, 77, 78, 79, 80, 81, 2, 82, 83, 84, 85, 86, 16, 87, 88, 89, 90, 91, 92, 93, 94, 95, 96, 97, 98, 99, 15, 100, 36, 101, 102, 103, 104, 28, 29, 30, 31, 32, 33, 105, 106, 107, 108, 34, 35, 109, 110, 111, 112, 113, 114, 115, 116, 117, 118, 119, 581, 582, 583, 584, 585, 608, 609, 610, 611, 612, 613, 614, 615, 616] (by decide +kernel) (by decide +kernel)) (goodIn_sub (fun _ h => List.mem_append_left _ (List.mem_append_left _ (List.mem_append_right _ h))) (by decide +kernel))) (goodIn_sub (fun _ h => List.mem_append_left _ (List.mem_append_right _ h)) (by decide +kernel))) (goodIn_sub (fun _ h => List.mem_append_right _ h) (by decide +kernel))
set_option maxRecDepth 20000 in
theorem gL_law_L_addIssuer : GoodIn wsL_law (va_wsS RL 84 yL_addIssuer wsL_addIssuer) := goodIn_app (goodIn_of _ (by decide +kernel)) ggL_law_L_addIssuer
set_option maxRecDepth 20000 in
theorem ggL_law_X3_addIssuer : GoodIn wsL_law wsX3_addIssuer := goodIn_r _ [123, 124, 71, 53, 54, 55, 56, 57, 58, 125, 126, 5, 127, 128, 129, 130, 131, 586, 587, 588, 589, 590, 591, 592, 593, 594, 595, 596, 597, 598, 599, 600, 601, 602, 603, 604, 605, 606, 607] (by decide +kernel) (by decide +kernel)
set_option maxRecDepth 20000 in
theorem gL_law_X3_addIssuer : GoodIn wsL_law (wsV RL 89 RX3 yX3_addIssuer wsX3_addIssuer) := goodIn_app (goodIn_of _ (by decide +kernel)) ggL_law_X3_addIssuer
set_option maxRecDepth 20000 in
theorem ggL_law_X3_thrown : GoodIn wsL_law wsX3_thrown := goodIn_r _ [135, 71, 586, 587, 588, 589, 590, 591, 592, 593, 594, 595, 596, 597, 598, 599, 600, 601, 602, 603, 604, 605, 606, 607] (by decide +kernel) (by decide +kernel)
set_option maxRecDepth 20000 in
theorem gL_law_X3_thrown : GoodIn wsL_law (wsV RL 90 RX3 yX3_thrown wsX3_thrown) := goodIn_app (goodIn_of _ (by decide +kernel)) ggL_law_X3_thrown
set_option maxRecDepth 20000 in
theorem ggL_law_L_cross : GoodIn wsL_law wsL_cross := goodIn_ca (goodIn_ca (goodIn_ca (goodIn_r _ [138, 76, 77, 78, 139, 140, 141, 2, 142, 83, 84, 85, 86, 16, 143, 87, 88, 89, 90, 91, 92, 93, 144, 145, 146, 15, 147, 29, 28, 116, 117, 118, 119, 148, 149, 150, 151, 105, 106, 107, 108, 36, 34, 35, 109, 110, 111, 112, 31, 113, 114, 115, 581, 582, 583, 584, 585, 608, 609, 610, 611, 612, 613, 614, 615, 616] (by decide +kernel) (by decide +kernel)) (goodIn_sub (fun _ h => List.mem_append_left _ (List.mem_append_left _ (List.mem_append_right _ h))) (by decide +kernel))) (goodIn_sub (fun _ h => List.mem_append_left _ (List.mem_append_right _ h)) (by decide +kernel))) (goodIn_sub (fun _ h => List.mem_append_right _ h) (by decide +kernel))
set_option maxRecDepth 20000 in
theorem gL_law_L_cross : GoodIn wsL_law (va_wsS RL 94 yL_cross wsL_cross) := goodIn_app (goodIn_of _ (by decide +kernel)) ggL_law_L_cross
set_option maxRecDepth 20000 in
theorem ggL_law_X3_cross : GoodIn wsL_law wsX3_cross := goodIn_r _ [155, 71, 56, 57, 128, 129, 130, 5, 131, 124, 125, 126, 127, 156, 157, 158, 159, 160, 161, 162, 163, 62, 54, 586, 587, 588, 589, 590, 591, 592, 593, 594, 595, 596, 597, 598, 599, 600, 601, 602, 603, 604, 605, 606, 607] (by decide +kernel) (by decide +kernel)
set_option maxRecDepth 20000 in
theorem gL_law_X3_cross : GoodIn wsL_law (wsV RL 97 RX3 yX3_cross wsX3_cross) := goodIn_app (goodIn_of _ (by decide +kernel)) ggL_law_X3_cross
set_option maxRecDepth 20000 in
theorem ggL_law_L_distrust : GoodIn wsL_law wsL_distrust := goodIn_ca (goodIn_ca (goodIn_r _ [166, 76, 77, 167, 168, 169, 2, 170, 16, 171, 87, 88, 89, 90, 91, 92, 93, 94, 95, 96, 83, 84, 581, 582, 583, 584, 585, 608, 609, 610, 611, 612, 613, 614, 615, 616] (by decide +kernel) (by decide +kernel)) (goodIn_sub (fun _ h => List.mem_append_right _ h) (by decide +kernel))) (goodIn_sub (fun _ h => List.mem_append_left _ (List.mem_append_left _ (List.mem_append_right _ h))) (by decide +kernel))
set_option maxRecDepth 20000 in
theorem gL_law_L_distrust : GoodIn wsL_law (va_wsS RL 98 yL_distrust wsL_distrust) := goodIn_app (goodIn_of _ (by decide +kernel)) ggL_law_L_distrust
set_option maxRecDepth 20000 in
theorem ggL_law_X3_distrust : GoodIn wsL_law wsX3_distrust := goodIn_r _ [175, 71, 58, 128, 129, 130, 5, 131, 124, 125, 126, 127, 176, 177, 178, 586, 587, 588, 589, 590, 591, 592, 593, 594, 595, 596, 597, 598, 599, 600, 601, 602, 603, 604, 605, 606, 607] (by decide +kernel) (by decide +kernel)
set_option maxRecDepth 20000 in
theorem gL_law_X3_distrust : GoodIn wsL_law (wsV RL 100 RX3 yX3_distrust wsX3_distrust) := goodIn_app (goodIn_of _ (by decide +kernel)) ggL_law_X3_distrust
set_option maxRecDepth 20000 in
theorem ggL_law_L_pin : GoodIn wsL_law wsL_pin := goodIn_ca (goodIn_ca (goodIn_r _ [181, 76, 77, 182, 183, 184, 2, 185, 83, 84, 22, 186, 187, 188, 91, 92, 581, 582, 583, 584, 585] (by decide +kernel) (by decide +kernel)) (goodIn_sub (fun _ h => List.mem_append_left _ (List.mem_append_left _ (List.mem_append_right _ h))) (by decide +kernel))) (goodIn_sub (fun _ h => List.mem_append_right _ h) (by decide +kernel))
set_option maxRecDepth 20000 in
theorem gL_law_L_pin : GoodIn wsL_law (va_wsS RL 101 yL_pin wsL_pin) := goodIn_app (goodIn_of _ (by decide +kernel)) ggL_law_L_pin
set_option maxRecDepth 20000 in
theorem ggL_law_X3_pin : GoodIn wsL_law wsX3_pin := goodIn_r _ [192, 71, 59, 193, 194, 5, 195, 125, 126, 127, 586, 587, 588, 589, 590, 591, 592, 593, 594, 595, 596, 597, 598, 599, 600, 601, 602, 603, 604, 605, 606, 607] (by decide +kernel) (by decide +kernel)
set_option maxRecDepth 20000 in
theorem gL_law_X3_pin : GoodIn wsL_law (wsV RL 103 RX3 yX3_pin wsX3_pin) := goodIn_app (goodIn_of _ (by decide +kernel)) ggL_law_X3_pin
set_option maxRecDepth 20000 in
theorem ggL_law_X2_setSeed : GoodIn wsL_law wsX2_setSeed := goodIn_r _ [199, 23, 581, 582, 583, 584, 585] (by decide +kernel) (by decide +kernel)
set_option maxRecDepth 20000 in
theorem gL_law_X2_setSeed : GoodIn wsL_law (wsV RL 104 RX2 yX2_setSeed wsX2_setSeed) := goodIn_app (goodIn_of _ (by decide +kernel)) ggL_law_X2_setSeed
set_option maxRecDepth 20000 in
theorem ggL_law_X3_setSeed : GoodIn wsL_law wsX3_setSeed := goodIn_r _ [203, 71, 52, 586, 587, 588, 589, 590, 591, 592, 593, 594, 595, 596, 597, 598, 599, 600, 601, 602, 603, 604, 605, 606, 607] (by decide +kernel) (by decide +kernel)
set_option maxRecDepth 20000 in
theorem gL_law_X3_setSeed : GoodIn wsL_law (wsV RL 108 RX3 yX3_setSeed wsX3_setSeed) := goodIn_app (goodIn_of _ (by decide +kernel)) ggL_law_X3_setSeed
set_option maxRecDepth 20000 in
theorem ggL_law_L_issue : GoodIn wsL_law wsL_issue := goodIn_ca (goodIn_ca (goodIn_ca (goodIn_r _ [206, 76, 77, 78, 207, 208, 209, 2, 210, 83, 84, 85, 86, 87, 88, 89, 90, 91, 92, 16, 93, 211, 212, 213, 214, 20, 24, 215, 216, 217, 19, 218, 47, 219, 220, 221, 222, 223, 224, 225, 226, 227, 228, 229, 230, 40, 42, 231, 232, 233, 234, 22, 235, 236, 237, 238, 239, 240, 241, 242, 243, 15, 244, 36, 245, 246, 247, 248, 33, 30, 31, 249, 250, 251, 252, 28, 29, 116, 117, 118, 119, 253, 254, 255, 256, 257, 258, 259, 260, 23, 261, 262, 263, 264, 265, 41, 43, 44, 45, 581, 582, 583, 584, 585, 608, 609, 610, 611, 612, 613, 614, 615, 616, 617, 618, 619, 620, 621, 622, 623, 624] (by decide +kernel) (by decide +kernel)) (goodIn_sub (fun _ h => List.mem_append_left _ (List.mem_append_left _ (List.mem_append_right _ h))) (by decide +kernel))) (goodIn_sub (fun _ h => List.mem_append_left _ (List.mem_append_right _ h)) (by decide +kernel))) (goodIn_sub (fun _ h => List.mem_append_right _ h) (by decide +kernel))
set_option maxRecDepth 20000 in
theorem gL_law_L_issue : GoodIn wsL_law (va_wsS RL 109 yL_issue wsL_issue) := goodIn_app (goodIn_of _ (by decide +kernel)) ggL_law_L_issue
set_option maxRecDepth 20000 in
theorem ggL_law_X3_issue : GoodIn wsL_law wsX3_issue := goodIn_r _ [269, 71, 128, 129, 130, 5, 131, 124, 125, 126, 127, 270, 271, 272, 273, 274, 55, 275, 59, 276, 277, 278, 279, 53, 54, 58, 56, 57, 61, 280, 281, 282, 283, 65, 66, 284, 285, 286, 287, 288, 289, 290, 52, 291, 64, 67, 68, 69, 586, 587, 588, 589, 590, 591, 592, 593, 594, 595, 596, 597, 598, 599, 600, 601, 602, 603, 604, 605, 606, 607] (by decide +kernel) (by decide +kernel)
set_option maxRecDepth 20000 in
theorem gL_law_X3_issue : GoodIn wsL_law (wsV RL 112 RX3 yX3_issue wsX3_issue) := goodIn_app (goodIn_of _ (by decide +kernel)) ggL_law_X3_issue
set_option maxRecDepth 20000 in
theorem ggL_law_L_pass : GoodIn wsL_law wsL_pass := goodIn_ca (goodIn_ca (goodIn_r _ [294, 77, 78, 295, 296, 297, 2, 298, 83, 84, 85, 86, 24, 299, 300, 301, 302, 20, 303, 304, 305, 306, 307, 308, 309, 310, 19, 311, 47, 312, 313, 314, 315, 45, 316, 317, 318, 319, 42, 43, 44, 320, 321, 322, 323, 324, 325, 326, 327, 46, 211, 212, 213, 214, 16, 215, 216, 217, 218, 219, 220, 221, 222, 223, 224, 225, 226, 227, 228, 229, 230, 40, 231, 232, 233, 234, 22, 235, 236, 237, 238, 239, 240, 241, 242, 243, 15, 244, 36, 245, 246, 247, 248, 33, 30, 31, 249, 250, 251, 252, 28, 29, 116, 117, 118, 119, 253, 254, 255, 256, 257, 258, 259, 260, 23, 261, 262, 263, 264, 265, 41, 581, 582, 583, 584, 585, 617, 618, 619, 620, 621, 622, 623, 624, 608, 609, 610, 611, 612, 613, 614, 615, 616] (by decide +kernel) (by decide +kernel)) (goodIn_sub (fun _ h => List.mem_append_left _ (List.mem_append_left _ (List.mem_append_right _ h))) (by decide +kernel))) (goodIn_sub (fun _ h => List.mem_append_left _ (List.mem_append_right _ h)) (by decide +kernel))
set_option maxRecDepth 20000 in
theorem gL_law_L_pass : GoodIn wsL_law (va_wsS RL 113 yL_pass wsL_pass) := goodIn_app (goodIn_of _ (by decide +kernel)) ggL_law_L_pass
set_option maxRecDepth 20000 in
theorem ggL_law_X3_pass : GoodIn wsL_law wsX3_pass := goodIn_r _ [331, 274, 71, 125, 126, 5, 127, 332, 333, 334, 335, 275, 70, 65, 64, 69, 67, 336, 337, 338, 339, 340, 341, 342, 343, 344, 345, 346, 347, 348, 349, 350, 351, 66, 68, 352, 353, 354, 355, 270, 271, 272, 273, 55, 59, 276, 277, 278, 279, 53, 54, 58, 56, 57, 61, 280, 281, 282, 283, 284, 285, 286, 287, 288, 289, 290, 52, 291, 586, 587, 588, 589, 590, 591, 592, 593, 594, 595, 596, 597, 598, 599, 600, 601, 602, 603, 604, 605, 606, 607] (by decide +kernel) (by decide +kernel)
set_option maxRecDepth 20000 in
theorem gL_law_X3_pass : GoodIn wsL_law (wsV RL 116 RX3 yX3_pass wsX3_pass) := goodIn_app (goodIn_of _ (by decide +kernel)) ggL_law_X3_pass
set_option maxRecDepth 20000 in
theorem ggL_law_X2_today : GoodIn wsL_law wsX2_today := goodIn_r _ [359, 24, 581, 582, 583, 584, 585] (by decide +kernel) (by decide +kernel)
set_option maxRecDepth 20000 in
theorem gL_law_X2_today : GoodIn wsL_law (wsV RL 117 RX2 yX2_today wsX2_today) := goodIn_app (goodIn_of _ (by decide +kernel)) ggL_law_X2_today
set_option maxRecDepth 20000 in
theorem ggL_law_X3_today : GoodIn wsL_law wsX3_today := goodIn_r _ [363, 71, 274, 586, 587, 588, 589, 590, 591, 592, 593, 594, 595, 596, 597, 598, 599, 600, 601, 602, 603, 604, 605, 606, 607] (by decide +kernel) (by decide +kernel)
set_option maxRecDepth 20000 in
theorem gL_law_X3_today : GoodIn wsL_law (wsV RL 120 RX3 yX3_today wsX3_today) := goodIn_app (goodIn_of _ (by decide +kernel)) ggL_law_X3_today
set_option maxRecDepth 20000 in
theorem ggL_law_X2_issuers : GoodIn wsL_law wsX2_issuers := goodIn_r _ [367, 16, 93, 581, 582, 583, 584, 585, 608, 609, 610, 611, 612, 613, 614, 615, 616] (by decide +kernel) (by decide +kernel)
set_option maxRecDepth 20000 in
theorem gL_law_X2_issuers : GoodIn wsL_law (wsV RL 121 RX2 yX2_issuers wsX2_issuers) := goodIn_app (goodIn_of _ (by decide +kernel)) ggL_law_X2_issuers
set_option maxRecDepth 20000 in
theorem ggL_law_X3_issuers : GoodIn wsL_law wsX3_issuers := goodIn_r _ [371, 71, 124, 586, 587, 588, 589, 590, 591, 592, 593, 594, 595, 596, 597, 598, 599, 600, 601, 602, 603, 604, 605, 606, 607] (by decide +kernel) (by decide +kernel)
set_option maxRecDepth 20000 in
theorem gL_law_X3_issuers : GoodIn wsL_law (wsV RL 124 RX3 yX3_issuers wsX3_issuers) := goodIn_app (goodIn_of _ (by decide +kernel)) ggL_law_X3_issuers
set_option maxRecDepth 20000 in
theorem ggL_law_X2_certificates : GoodIn wsL_law wsX2_certificates := goodIn_r _ [375, 20, 376, 581, 582, 583, 584, 585, 617, 618, 619, 620, 621, 622, 623, 624] (by decide +kernel) (by decide +kernel)
set_option maxRecDepth 20000 in
theorem gL_law_X2_certificates : GoodIn wsL_law (wsV RL 125 RX2 yX2_certificates wsX2_certificates) := goodIn_app (goodIn_of _ (by decide +kernel)) ggL_law_X2_certificates
set_option maxRecDepth 20000 in
theorem ggL_law_X3_certificates : GoodIn wsL_law wsX3_certificates := goodIn_r _ [380, 71, 275, 586, 587, 588, 589, 590, 591, 592, 593, 594, 595, 596, 597, 598, 599, 600, 601, 602, 603, 604, 605, 606, 607] (by decide +kernel) (by decide +kernel)
set_option maxRecDepth 20000 in
theorem gL_law_X3_certificates : GoodIn wsL_law (wsV RL 128 RX3 yX3_certificates wsX3_certificates) := goodIn_app (goodIn_of _ (by decide +kernel)) ggL_law_X3_certificates
set_option maxRecDepth 20000 in
theorem ggL_law_L_issuerOf : GoodIn wsL_law wsL_issuerOf := goodIn_ca (goodIn_r _ [383, 76, 384, 385, 386, 2, 387, 20, 304, 388, 389, 390, 391, 91, 92, 376, 581, 582, 583, 584, 585, 617, 618, 619, 620, 621, 622, 623, 624] (by decide +kernel) (by decide +kernel)) (goodIn_sub (fun _ h => List.mem_append_right _ h) (by decide +kernel))
set_option maxRecDepth 20000 in
theorem gL_law_L_issuerOf : GoodIn wsL_law (va_wsS RL 129 yL_issuerOf wsL_issuerOf) := goodIn_app (goodIn_of _ (by decide +kernel)) ggL_law_L_issuerOf
set_option maxRecDepth 20000 in
theorem ggL_law_X3_issuerOf : GoodIn wsL_law wsX3_issuerOf := goodIn_r _ [395, 71, 65, 396, 397, 398, 5, 399, 275, 125, 126, 127, 156, 157, 158, 159, 586, 587, 588, 589, 590, 591, 592, 593, 594, 595, 596, 597, 598, 599, 600, 601, 602, 603, 604, 605, 606, 607] (by decide +kernel) (by decide +kernel)
set_option maxRecDepth 20000 in
theorem gL_law_X3_issuerOf : GoodIn wsL_law (wsV RL 131 RX3 yX3_issuerOf wsX3_issuerOf) := goodIn_app (goodIn_of _ (by decide +kernel)) ggL_law_X3_issuerOf
set_option maxRecDepth 20000 in
theorem ggL_law_L_lastDay : GoodIn wsL_law wsL_lastDay := goodIn_ca (goodIn_r _ [402, 76, 403, 404, 405, 2, 406, 20, 388, 389, 390, 391, 91, 92, 376, 407, 321, 322, 19, 323, 42, 43, 581, 582, 583, 584, 585, 617, 618, 619, 620, 621, 622, 623, 624] (by decide +kernel) (by decide +kernel)) (goodIn_sub (fun _ h => List.mem_append_right _ h) (by decide +kernel))
set_option maxRecDepth 20000 in
theorem gL_law_L_lastDay : GoodIn wsL_law (va_wsS RL 132 yL_lastDay wsL_lastDay) := goodIn_app (goodIn_of _ (by decide +kernel)) ggL_law_L_lastDay
set_option maxRecDepth 20000 in
theorem ggL_law_X3_lastDay : GoodIn wsL_law wsX3_lastDay := goodIn_r _ [411, 71, 396, 397, 398, 5, 399, 275, 125, 126, 127, 352, 353, 354, 355, 66, 67, 156, 157, 158, 159, 586, 587, 588, 589, 590, 591, 592, 593, 594, 595, 596, 597, 598, 599, 600, 601, 602, 603, 604, 605, 606, 607] (by decide +kernel) (by decide +kernel)
set_option maxRecDepth 20000 in
theorem gL_law_X3_lastDay : GoodIn wsL_law (wsV RL 134 RX3 yX3_lastDay wsX3_lastDay) := goodIn_app (goodIn_of _ (by decide +kernel)) ggL_law_X3_lastDay
set_option maxRecDepth 20000 in
theorem ggL_law_L_dueOn : GoodIn wsL_law wsL_dueOn := goodIn_ca (goodIn_r _ [414, 76, 415, 416, 417, 2, 418, 20, 388, 389, 390, 391, 91, 92, 376, 419, 317, 318, 19, 319, 42, 43, 44, 581, 582, 583, 584, 585, 617, 618, 619, 620, 621, 622, 623, 624] (by decide +kernel) (by decide +kernel)) (goodIn_sub (fun _ h => List.mem_append_right _ h) (by decide +kernel))
set_option maxRecDepth 20000 in
theorem gL_law_L_dueOn : GoodIn wsL_law (va_wsS RL 135 yL_dueOn wsL_dueOn) := goodIn_app (goodIn_of _ (by decide +kernel)) ggL_law_L_dueOn
set_option maxRecDepth 20000 in
theorem ggL_law_X3_dueOn : GoodIn wsL_law wsX3_dueOn := goodIn_r _ [423, 71, 396, 397, 398, 5, 399, 275, 125, 126, 127, 348, 349, 350, 351, 66, 67, 68, 156, 157, 158, 159, 586, 587, 588, 589, 590, 591, 592, 593, 594, 595, 596, 597, 598, 599, 600, 601, 602, 603, 604, 605, 606, 607] (by decide +kernel) (by decide +kernel)
set_option maxRecDepth 20000 in
theorem gL_law_X3_dueOn : GoodIn wsL_law (wsV RL 137 RX3 yX3_dueOn wsX3_dueOn) := goodIn_app (goodIn_of _ (by decide +kernel)) ggL_law_X3_dueOn
set_option maxRecDepth 20000 in
theorem ggL_law_L_renewal : GoodIn wsL_law wsL_renewal := goodIn_ca (goodIn_r _ [426, 76, 427, 428, 429, 2, 430, 20, 306, 388, 389, 390, 391, 91, 92, 376, 581, 582, 583, 584, 585, 617, 618, 619, 620, 621, 622, 623, 624] (by decide +kernel) (by decide +kernel)) (goodIn_sub (fun _ h => List.mem_append_right _ h) (by decide +kernel))
set_option maxRecDepth 20000 in
theorem gL_law_L_renewal : GoodIn wsL_law (va_wsS RL 138 yL_renewal wsL_renewal) := goodIn_app (goodIn_of _ (by decide +kernel)) ggL_law_L_renewal
set_option maxRecDepth 20000 in
theorem ggL_law_X3_renewal : GoodIn wsL_law wsX3_renewal := goodIn_r _ [434, 71, 69, 396, 397, 398, 5, 399, 275, 125, 126, 127, 156, 157, 158, 159, 586, 587, 588, 589, 590, 591, 592, 593, 594, 595, 596, 597, 598, 599, 600, 601, 602, 603, 604, 605, 606, 607] (by decide +kernel) (by decide +kernel)
set_option maxRecDepth 20000 in
theorem gL_law_X3_renewal : GoodIn wsL_law (wsV RL 140 RX3 yX3_renewal wsX3_renewal) := goodIn_app (goodIn_of _ (by decide +kernel)) ggL_law_X3_renewal
set_option maxRecDepth 20000 in
theorem ggL_law_X2_waiting : GoodIn wsL_law wsX2_waiting := goodIn_r _ [438, 20, 24, 308, 309, 310, 19, 311, 47, 312, 313, 314, 315, 45, 316, 317, 318, 319, 42, 43, 44, 320, 321, 322, 323, 324, 325, 326, 327, 46, 581, 582, 583, 584, 585, 617, 618, 619, 620, 621, 622, 623, 624] (by decide +kernel) (by decide +kernel)
set_option maxRecDepth 20000 in
theorem gL_law_X2_waiting : GoodIn wsL_law (wsV RL 141 RX2 yX2_waiting wsX2_waiting) := goodIn_app (goodIn_of _ (by decide +kernel)) ggL_law_X2_waiting
set_option maxRecDepth 20000 in
theorem ggL_law_X3_waiting : GoodIn wsL_law wsX3_waiting := goodIn_r _ [442, 71, 275, 344, 345, 346, 5, 347, 274, 69, 348, 349, 350, 351, 66, 67, 68, 352, 353, 354, 355, 586, 587, 588, 589, 590, 591, 592, 593, 594, 595, 596, 597, 598, 599, 600, 601, 602, 603, 604, 605, 606, 607] (by decide +kernel) (by decide +kernel)
set_option maxRecDepth 20000 in
theorem gL_law_X3_waiting : GoodIn wsL_law (wsV RL 144 RX3 yX3_waiting wsX3_waiting) := goodIn_app (goodIn_of _ (by decide +kernel)) ggL_law_X3_waiting
set_option maxRecDepth 20000 in
theorem ggL_law_L_waitingAt : GoodIn wsL_law wsL_waitingAt := goodIn_ca (goodIn_r _ [445, 76, 446, 447, 448, 2, 449, 91, 92, 20, 24, 303, 308, 309, 310, 19, 311, 47, 312, 313, 314, 315, 45, 316, 317, 318, 319, 42, 43, 44, 320, 321, 322, 323, 324, 325, 326, 327, 46, 581, 582, 583, 584, 585, 617, 618, 619, 620, 621, 622, 623, 624] (by decide +kernel) (by decide +kernel)) (goodIn_sub (fun _ h => List.mem_append_right _ h) (by decide +kernel))
set_option maxRecDepth 20000 in
theorem gL_law_L_waitingAt : GoodIn wsL_law (va_wsS RL 145 yL_waitingAt wsL_waitingAt) := goodIn_app (goodIn_of _ (by decide +kernel)) ggL_law_L_waitingAt
set_option maxRecDepth 20000 in
theorem ggL_law_X3_waitingAt : GoodIn wsL_law wsX3_waitingAt := goodIn_r _ [453, 71, 275, 70, 336, 337, 338, 5, 339, 340, 341, 342, 343, 344, 345, 346, 347, 274, 69, 348, 349, 350, 351, 66, 67, 68, 352, 353, 354, 355, 156, 157, 158, 159, 586, 587, 588, 589, 590, 591, 592, 593, 594, 595, 596, 597, 598, 599, 600, 601, 602, 603, 604, 605, 606, 607] (by decide +kernel) (by decide +kernel)
set_option maxRecDepth 20000 in
theorem gL_law_X3_waitingAt : GoodIn wsL_law (wsV RL 147 RX3 yX3_waitingAt wsX3_waitingAt) := goodIn_app (goodIn_of _ (by decide +kernel)) ggL_law_X3_waitingAt
set_option maxRecDepth 20000 in
theorem ggL_law_L_room : GoodIn wsL_law wsL_room := goodIn_ca (goodIn_r _ [456, 76, 457, 458, 459, 2, 460, 87, 88, 89, 90, 91, 92, 16, 93, 219, 220, 221, 222, 223, 20, 24, 224, 225, 226, 227, 228, 229, 19, 230, 47, 40, 42, 581, 582, 583, 584, 585, 608, 609, 610, 611, 612, 613, 614, 615, 616, 617, 618, 619, 620, 621, 622, 623, 624] (by decide +kernel) (by decide +kernel)) (goodIn_sub (fun _ h => List.mem_append_right _ h) (by decide +kernel))
set_option maxRecDepth 20000 in
theorem gL_law_L_room : GoodIn wsL_law (va_wsS RL 148 yL_room wsL_room) := goodIn_app (goodIn_of _ (by decide +kernel)) ggL_law_L_room
set_option maxRecDepth 20000 in
theorem ggL_law_X3_room : GoodIn wsL_law wsX3_room := goodIn_r _ [464, 71, 55, 128, 129, 130, 5, 131, 124, 125, 126, 127, 280, 281, 282, 283, 275, 65, 66, 274, 156, 157, 158, 159, 586, 587, 588, 589, 590, 591, 592, 593, 594, 595, 596, 597, 598, 599, 600, 601, 602, 603, 604, 605, 606, 607] (by decide +kernel) (by decide +kernel)
set_option maxRecDepth 20000 in
theorem gL_law_X3_room : GoodIn wsL_law (wsV RL 150 RX3 yX3_room wsX3_room) := goodIn_app (goodIn_of _ (by decide +kernel)) ggL_law_X3_room
set_option maxRecDepth 20000 in
theorem ggL_law_L_isGood : GoodIn wsL_law wsL_isGood := goodIn_ca (goodIn_ca (goodIn_r _ [467, 76, 77, 468, 469, 470, 2, 471, 16, 87, 88, 89, 90, 91, 92, 93, 94, 95, 96, 83, 84, 241, 242, 243, 15, 244, 36, 245, 246, 247, 248, 33, 30, 31, 249, 250, 251, 252, 28, 29, 116, 117, 118, 119, 239, 240, 238, 581, 582, 583, 584, 585, 608, 609, 610, 611, 612, 613, 614, 615, 616] (by decide +kernel) (by decide +kernel)) (goodIn_sub (fun _ h => List.mem_append_right _ h) (by decide +kernel))) (goodIn_sub (fun _ h => List.mem_append_left _ (List.mem_append_left _ (List.mem_append_right _ h))) (by decide +kernel))
set_option maxRecDepth 20000 in
theorem gL_law_L_isGood : GoodIn wsL_law (va_wsS RL 151 yL_isGood wsL_isGood) := goodIn_app (goodIn_of _ (by decide +kernel)) ggL_law_L_isGood
set_option maxRecDepth 20000 in
theorem ggL_law_X3_isGood : GoodIn wsL_law wsX3_isGood := goodIn_r _ [475, 71, 128, 129, 130, 5, 131, 124, 125, 126, 127, 176, 177, 178, 276, 277, 278, 279, 53, 54, 58, 56, 57, 61, 586, 587, 588, 589, 590, 591, 592, 593, 594, 595, 596, 597, 598, 599, 600, 601, 602, 603, 604, 605, 606, 607] (by decide +kernel) (by decide +kernel)
set_option maxRecDepth 20000 in
theorem gL_law_X3_isGood : GoodIn wsL_law (wsV RL 153 RX3 yX3_isGood wsX3_isGood) := goodIn_app (goodIn_of _ (by decide +kernel)) ggL_law_X3_isGood
set_option maxRecDepth 20000 in
theorem ggL_law_L_chainEnd : GoodIn wsL_law wsL_chainEnd := goodIn_ca (goodIn_r _ [478, 76, 479, 480, 481, 2, 482, 16, 143, 87, 88, 89, 90, 91, 92, 93, 581, 582, 583, 584, 585, 608, 609, 610, 611, 612, 613, 614, 615, 616] (by decide +kernel) (by decide +kernel)) (goodIn_sub (fun _ h => List.mem_append_right _ h) (by decide +kernel))
set_option maxRecDepth 20000 in
theorem gL_law_L_chainEnd : GoodIn wsL_law (va_wsS RL 154 yL_chainEnd wsL_chainEnd) := goodIn_app (goodIn_of _ (by decide +kernel)) ggL_law_L_chainEnd
set_option maxRecDepth 20000 in
theorem ggL_law_X3_chainEnd : GoodIn wsL_law wsX3_chainEnd := goodIn_r _ [486, 71, 128, 129, 130, 5, 131, 124, 125, 126, 127, 160, 161, 162, 163, 56, 57, 62, 54, 156, 157, 158, 159, 586, 587, 588, 589, 590, 591, 592, 593, 594, 595, 596, 597, 598, 599, 600, 601, 602, 603, 604, 605, 606, 607] (by decide +kernel) (by decide +kernel)
set_option maxRecDepth 20000 in
theorem gL_law_X3_chainEnd : GoodIn wsL_law (wsV RL 156 RX3 yX3_chainEnd wsX3_chainEnd) := goodIn_app (goodIn_of _ (by decide +kernel)) ggL_law_X3_chainEnd
set_option maxRecDepth 20000 in
theorem ggL_law_L_chains : GoodIn wsL_law wsL_chains := goodIn_ca (goodIn_r _ [489, 76, 490, 491, 492, 2, 493, 16, 494, 87, 88, 89, 90, 91, 92, 93, 581, 582, 583, 584, 585, 608, 609, 610, 611, 612, 613, 614, 615, 616] (by decide +kernel) (by decide +kernel)) (goodIn_sub (fun _ h => List.mem_append_right _ h) (by decide +kernel))
set_option maxRecDepth 20000 in
theorem gL_law_L_chains : GoodIn wsL_law (va_wsS RL 157 yL_chains wsL_chains) := goodIn_app (goodIn_of _ (by decide +kernel)) ggL_law_L_chains
set_option maxRecDepth 20000 in
theorem ggL_law_X3_chains : GoodIn wsL_law wsX3_chains := goodIn_r _ [498, 71, 128, 129, 130, 5, 131, 124, 125, 126, 127, 499, 500, 501, 502, 56, 57, 63, 156, 157, 158, 159, 586, 587, 588, 589, 590, 591, 592, 593, 594, 595, 596, 597, 598, 599, 600, 601, 602, 603, 604, 605, 606, 607] (by decide +kernel) (by decide +kernel)
set_option maxRecDepth 20000 in
theorem gL_law_X3_chains : GoodIn wsL_law (wsV RL 159 RX3 yX3_chains wsX3_chains) := goodIn_app (goodIn_of _ (by decide +kernel)) ggL_law_X3_chains
set_option maxRecDepth 20000 in
theorem ggL_law_L_isCovered : GoodIn wsL_law wsL_isCovered := goodIn_ca (goodIn_ca (goodIn_r _ [505, 76, 77, 506, 507, 508, 2, 509, 186, 187, 188, 91, 92, 94, 95, 96, 83, 84, 510, 511, 512, 513, 20, 16, 241, 242, 243, 15, 244, 36, 245, 246, 247, 248, 33, 30, 31, 249, 250, 251, 252, 28, 29, 116, 117, 118, 119, 239, 240, 514, 515, 516, 19, 517, 47, 42, 40, 41, 320, 321, 322, 323, 43, 236, 237, 238, 581, 582, 583, 584, 585, 608, 609, 610, 611, 612, 613, 614, 615, 616, 617, 618, 619, 620, 621, 622, 623, 624] (by decide +kernel) (by decide +kernel)) (goodIn_sub (fun _ h => List.mem_append_right _ h) (by decide +kernel))) (goodIn_sub (fun _ h => List.mem_append_left _ (List.mem_append_left _ (List.mem_append_right _ h))) (by decide +kernel))
set_option maxRecDepth 20000 in
theorem gL_law_L_isCovered : GoodIn wsL_law (va_wsS RL 160 yL_isCovered wsL_isCovered) := goodIn_app (goodIn_of _ (by decide +kernel)) ggL_law_L_isCovered
set_option maxRecDepth 20000 in
theorem ggL_law_X3_isCovered : GoodIn wsL_law wsX3_isCovered := goodIn_r _ [521, 71, 193, 194, 5, 195, 125, 126, 127, 176, 177, 178, 522, 523, 524, 525, 275, 66, 65, 64, 352, 353, 354, 355, 67, 276, 277, 278, 279, 53, 54, 58, 56, 57, 61, 284, 285, 286, 586, 587, 588, 589, 590, 591, 592, 593, 594, 595, 596, 597, 598, 599, 600, 601, 602, 603, 604, 605, 606, 607] (by decide +kernel) (by decide +kernel)
set_option maxRecDepth 20000 in
theorem gL_law_X3_isCovered : GoodIn wsL_law (wsV RL 162 RX3 yX3_isCovered wsX3_isCovered) := goodIn_app (goodIn_of _ (by decide +kernel)) ggL_law_X3_isCovered
set_option maxRecDepth 20000 in
theorem ggL_law_L_nextGap : GoodIn wsL_law wsL_nextGap := goodIn_ca (goodIn_ca (goodIn_r _ [528, 76, 77, 529, 530, 531, 2, 532, 186, 187, 188, 91, 92, 94, 95, 96, 83, 84, 510, 511, 512, 513, 20, 16, 241, 242, 243, 15, 244, 36, 245, 246, 247, 248, 33, 30, 31, 249, 250, 251, 252, 28, 29, 116, 117, 118, 119, 239, 240, 514, 515, 516, 19, 517, 47, 42, 40, 41, 320, 321, 322, 323, 43, 236, 237, 238, 581, 582, 583, 584, 585, 608, 609, 610, 611, 612, 613, 614, 615, 616, 617, 618, 619, 620, 621, 622, 623, 624] (by decide +kernel) (by decide +kernel)) (goodIn_sub (fun _ h => List.mem_append_right _ h) (by decide +kernel))) (goodIn_sub (fun _ h => List.mem_append_left _ (List.mem_append_left _ (List.mem_append_right _ h))) (by decide +kernel))
set_option maxRecDepth 20000 in
theorem gL_law_L_nextGap : GoodIn wsL_law (va_wsS RL 163 yL_nextGap wsL_nextGap) := goodIn_app (goodIn_of _ (by decide +kernel)) ggL_law_L_nextGap
set_option maxRecDepth 20000 in
theorem ggL_law_X3_nextGap : GoodIn wsL_law wsX3_nextGap := goodIn_r _ [536, 71, 193, 194, 5, 195, 125, 126, 127, 176, 177, 178, 522, 523, 524, 525, 275, 66, 65, 64, 352, 353, 354, 355, 67, 276, 277, 278, 279, 53, 54, 58, 56, 57, 61, 284, 285, 286, 586, 587, 588, 589, 590, 591, 592, 593, 594, 595, 596, 597, 598, 599, 600, 601, 602, 603, 604, 605, 606, 607] (by decide +kernel) (by decide +kernel)
set_option maxRecDepth 20000 in
theorem gL_law_X3_nextGap : GoodIn wsL_law (wsV RL 165 RX3 yX3_nextGap wsX3_nextGap) := goodIn_app (goodIn_of _ (by decide +kernel)) ggL_law_X3_nextGap
set_option maxRecDepth 20000 in
theorem ggL_law_L_covered : GoodIn wsL_law wsL_covered := goodIn_ca (goodIn_r _ [539, 77, 540, 541, 542, 2, 543, 94, 95, 96, 83, 84, 510, 511, 512, 513, 20, 16, 241, 242, 243, 15, 244, 36, 245, 246, 247, 248, 33, 30, 31, 249, 250, 251, 252, 28, 29, 116, 117, 118, 119, 239, 240, 514, 515, 516, 19, 517, 47, 42, 40, 41, 320, 321, 322, 323, 43, 236, 237, 581, 582, 583, 584, 585, 608, 609, 610, 611, 612, 613, 614, 615, 616, 617, 618, 619, 620, 621, 622, 623, 624] (by decide +kernel) (by decide +kernel)) (goodIn_sub (fun _ h => List.mem_append_left _ (List.mem_append_left _ (List.mem_append_right _ h))) (by decide +kernel))
set_option maxRecDepth 20000 in
theorem gL_law_L_covered : GoodIn wsL_law (va_wsS RL 166 yL_covered wsL_covered) := goodIn_app (goodIn_of _ (by decide +kernel)) ggL_law_L_covered
set_option maxRecDepth 20000 in
theorem ggL_law_X3_covered : GoodIn wsL_law wsX3_covered := goodIn_r _ [547, 71, 176, 177, 5, 178, 125, 126, 127, 522, 523, 524, 525, 275, 66, 65, 64, 352, 353, 354, 355, 67, 276, 277, 278, 279, 53, 54, 58, 56, 57, 61, 284, 285, 286, 586, 587, 588, 589, 590, 591, 592, 593, 594, 595, 596, 597, 598, 599, 600, 601, 602, 603, 604, 605, 606, 607] (by decide +kernel) (by decide +kernel)
set_option maxRecDepth 20000 in
theorem gL_law_X3_covered : GoodIn wsL_law (wsV RL 168 RX3 yX3_covered wsX3_covered) := goodIn_app (goodIn_of _ (by decide +kernel)) ggL_law_X3_covered
set_option maxRecDepth 20000 in
theorem ggL_law_L_breaks : GoodIn wsL_law wsL_breaks := goodIn_ca (goodIn_ca (goodIn_r _ [550, 76, 77, 551, 552, 553, 2, 554, 87, 88, 89, 90, 91, 92, 16, 93, 94, 95, 96, 83, 84, 555, 556, 557, 558, 510, 511, 512, 513, 20, 241, 242, 243, 15, 244, 36, 245, 246, 247, 248, 33, 30, 31, 249, 250, 251, 252, 28, 29, 116, 117, 118, 119, 239, 240, 514, 515, 516, 19, 517, 47, 42, 40, 41, 320, 321, 322, 323, 43, 236, 237, 581, 582, 583, 584, 585, 608, 609, 610, 611, 612, 613, 614, 615, 616, 617, 618, 619, 620, 621, 622, 623, 624] (by decide +kernel) (by decide +kernel)) (goodIn_sub (fun _ h => List.mem_append_right _ h) (by decide +kernel))) (goodIn_sub (fun _ h => List.mem_append_left _ (List.mem_append_left _ (List.mem_append_right _ h))) (by decide +kernel))
set_option maxRecDepth 20000 in
theorem gL_law_L_breaks : GoodIn wsL_law (va_wsS RL 169 yL_breaks wsL_breaks) := goodIn_app (goodIn_of _ (by decide +kernel)) ggL_law_L_breaks
set_option maxRecDepth 20000 in
theorem ggL_law_X3_breaks : GoodIn wsL_law wsX3_breaks := goodIn_r _ [562, 71, 128, 129, 130, 5, 131, 124, 125, 126, 127, 176, 177, 178, 522, 523, 524, 525, 275, 66, 65, 64, 352, 353, 354, 355, 67, 276, 277, 278, 279, 53, 54, 58, 56, 57, 61, 284, 285, 286, 586, 587, 588, 589, 590, 591, 592, 593, 594, 595, 596, 597, 598, 599, 600, 601, 602, 603, 604, 605, 606, 607] (by decide +kernel) (by decide +kernel)
set_option maxRecDepth 20000 in
theorem gL_law_X3_breaks : GoodIn wsL_law (wsV RL 171 RX3 yX3_breaks wsX3_breaks) := goodIn_app (goodIn_of _ (by decide +kernel)) ggL_law_X3_breaks
set_option maxRecDepth 20000 in
theorem ggL_law_L_weakest : GoodIn wsL_law wsL_weakest := goodIn_ca (goodIn_r _ [565, 77, 566, 567, 568, 2, 569, 16, 93, 94, 95, 96, 83, 84, 555, 556, 557, 558, 510, 511, 512, 513, 20, 241, 242, 243, 15, 244, 36, 245, 246, 247, 248, 33, 30, 31, 249, 250, 251, 252, 28, 29, 116, 117, 118, 119, 239, 240, 514, 515, 516, 19, 517, 47, 42, 40, 41, 320, 321, 322, 323, 43, 236, 237, 570, 571, 572, 573, 574, 575, 576, 581, 582, 583, 584, 585, 608, 609, 610, 611, 612, 613, 614, 615, 616, 617, 618, 619, 620, 621, 622, 623, 624] (by decide +kernel) (by decide +kernel)) (goodIn_sub (fun _ h => List.mem_append_left _ (List.mem_append_left _ (List.mem_append_right _ h))) (by decide +kernel))
set_option maxRecDepth 20000 in
theorem gL_law_L_weakest : GoodIn wsL_law (va_wsS RL 172 yL_weakest wsL_weakest) := goodIn_app (goodIn_of _ (by decide +kernel)) ggL_law_L_weakest
set_option maxRecDepth 20000 in
theorem ggL_law_X3_weakest : GoodIn wsL_law wsX3_weakest := goodIn_r _ [580, 71, 124, 176, 177, 5, 178, 125, 126, 127, 522, 523, 524, 525, 275, 66, 65, 64, 352, 353, 354, 355, 67, 276, 277, 278, 279, 53, 54, 58, 56, 57, 61, 284, 285, 286, 586, 587, 588, 589, 590, 591, 592, 593, 594, 595, 596, 597, 598, 599, 600, 601, 602, 603, 604, 605, 606, 607] (by decide +kernel) (by decide +kernel)
set_option maxRecDepth 20000 in
theorem gL_law_X3_weakest : GoodIn wsL_law (wsV RL 174 RX3 yX3_weakest wsX3_weakest) := goodIn_app (goodIn_of _ (by decide +kernel)) ggL_law_X3_weakest
theorem dL_law_0 : decode cL_law 0 = .ok (.new 8, 3) := by decide +kernel
theorem dL_law_3 : decode cL_law 3 = .ok (.dup, 1) := by decide +kernel
theorem dL_law_4 : decode cL_law 4 = .ok (.invokespecial 80, 3) := by decide +kernel
theorem dL_law_7 : decode cL_law 7 = .ok (.astore_n 1, 1) := by decide +kernel
theorem dL_law_8 : decode cL_law 8 = .ok (.new 81, 3) := by decide +kernel
theorem dL_law_11 : decode cL_law 11 = .ok (.dup, 1) := by decide +kernel
theorem dL_law_12 : decode cL_law 12 = .ok (.invokespecial 83, 3) := by decide +kernel
theorem dL_law_15 : decode cL_law 15 = .ok (.astore_n 2, 1) := by decide +kernel
theorem dL_law_16 : decode cL_law 16 = .ok (.iconst 1, 1) := by decide +kernel
theorem dL_law_17 : decode cL_law 17 = .ok (.newarray .long, 2) := by decide +kernel
theorem dL_law_19 : decode cL_law 19 = .ok (.astore_n 3, 1) := by decide +kernel
theorem dL_law_20 : decode cL_law 20 = .ok (.iconst 0, 1) := by decide +kernel
theorem dL_law_21 : decode cL_law 21 = .ok (.istore 4, 2) := by decide +kernel
theorem dL_law_23 : decode cL_law 23 = .ok (.iload 4, 2) := by decide +kernel
theorem dL_law_25 : decode cL_law 25 = .ok (.aload_n 0, 1) := by decide +kernel
theorem dL_law_26 : decode cL_law 26 = .ok (.arraylength, 1) := by decide +kernel
theorem dL_law_27 : decode cL_law 27 = .ok (.iconst 5, 1) := by decide +kernel
theorem dL_law_28 : decode cL_law 28 = .ok (.isub, 1) := by decide +kernel
theorem dL_law_29 : decode cL_law 29 = .ok (.if_icmp .gt 1482, 3) := by decide +kernel
theorem dL_law_32 : decode cL_law 32 = .ok (.aload_n 0, 1) := by decide +kernel
theorem dL_law_33 : decode cL_law 33 = .ok (.iload 4, 2) := by decide +kernel
theorem dL_law_35 : decode cL_law 35 = .ok (.iaload, 1) := by decide +kernel
theorem dL_law_36 : decode cL_law 36 = .ok (.bipush 31, 2) := by decide +kernel
theorem dL_law_38 : decode cL_law 38 = .ok (.iand, 1) := by decide +kernel
theorem dL_law_39 : decode cL_law 39 = .ok (.tableswitch 1466 0 24 #[113, 205, 273, 341, 409, 432, 512, 568, 581, 594, 607, 663, 719, 775, 831, 844, 900, 956, 1031, 1087, 1143, 1218, 1286, 1342, 1410], 113) := by decide +kernel
theorem dL_law_152 : decode cL_law 152 = .ok (.aload_n 1, 1) := by decide +kernel
theorem dL_law_153 : decode cL_law 153 = .ok (.aload_n 0, 1) := by decide +kernel
theorem dL_law_154 : decode cL_law 154 = .ok (.iload 4, 2) := by decide +kernel
theorem dL_law_156 : decode cL_law 156 = .ok (.iconst 1, 1) := by decide +kernel
theorem dL_law_157 : decode cL_law 157 = .ok (.iadd, 1) := by decide +kernel
theorem dL_law_158 : decode cL_law 158 = .ok (.iaload, 1) := by decide +kernel
theorem dL_law_159 : decode cL_law 159 = .ok (.aload_n 0, 1) := by decide +kernel
theorem dL_law_160 : decode cL_law 160 = .ok (.iload 4, 2) := by decide +kernel
theorem dL_law_162 : decode cL_law 162 = .ok (.iconst 2, 1) := by decide +kernel
theorem dL_law_163 : decode cL_law 163 = .ok (.iadd, 1) := by decide +kernel
theorem dL_law_164 : decode cL_law 164 = .ok (.iaload, 1) := by decide +kernel
theorem dL_law_165 : decode cL_law 165 = .ok (.aload_n 0, 1) := by decide +kernel
theorem dL_law_166 : decode cL_law 166 = .ok (.iload 4, 2) := by decide +kernel
theorem dL_law_168 : decode cL_law 168 = .ok (.iconst 3, 1) := by decide +kernel
theorem dL_law_169 : decode cL_law 169 = .ok (.iadd, 1) := by decide +kernel
theorem dL_law_170 : decode cL_law 170 = .ok (.iaload, 1) := by decide +kernel
theorem dL_law_171 : decode cL_law 171 = .ok (.aload_n 0, 1) := by decide +kernel
theorem dL_law_172 : decode cL_law 172 = .ok (.iload 4, 2) := by decide +kernel
theorem dL_law_174 : decode cL_law 174 = .ok (.iconst 4, 1) := by decide +kernel
theorem dL_law_175 : decode cL_law 175 = .ok (.iadd, 1) := by decide +kernel
theorem dL_law_176 : decode cL_law 176 = .ok (.iaload, 1) := by decide +kernel
theorem dL_law_177 : decode cL_law 177 = .ok (.aload_n 3, 1) := by decide +kernel
theorem dL_law_178 : decode cL_law 178 = .ok (.invokestatic 84, 3) := by decide +kernel
theorem dL_law_181 : decode cL_law 181 = .ok (.istore 5, 2) := by decide +kernel
theorem dL_law_183 : decode cL_law 183 = .ok (.aload_n 2, 1) := by decide +kernel
theorem dL_law_184 : decode cL_law 184 = .ok (.aload_n 0, 1) := by decide +kernel
theorem dL_law_185 : decode cL_law 185 = .ok (.iload 4, 2) := by decide +kernel
theorem dL_law_187 : decode cL_law 187 = .ok (.iconst 1, 1) := by decide +kernel
theorem dL_law_188 : decode cL_law 188 = .ok (.iadd, 1) := by decide +kernel
theorem dL_law_189 : decode cL_law 189 = .ok (.iaload, 1) := by decide +kernel
theorem dL_law_190 : decode cL_law 190 = .ok (.aload_n 0, 1) := by decide +kernel
theorem dL_law_191 : decode cL_law 191 = .ok (.iload 4, 2) := by decide +kernel
theorem dL_law_193 : decode cL_law 193 = .ok (.iconst 2, 1) := by decide +kernel
theorem dL_law_194 : decode cL_law 194 = .ok (.iadd, 1) := by decide +kernel
theorem dL_law_195 : decode cL_law 195 = .ok (.iaload, 1) := by decide +kernel
theorem dL_law_196 : decode cL_law 196 = .ok (.aload_n 0, 1) := by decide +kernel
theorem dL_law_197 : decode cL_law 197 = .ok (.iload 4, 2) := by decide +kernel
theorem dL_law_199 : decode cL_law 199 = .ok (.iconst 3, 1) := by decide +kernel
theorem dL_law_200 : decode cL_law 200 = .ok (.iadd, 1) := by decide +kernel
theorem dL_law_201 : decode cL_law 201 = .ok (.iaload, 1) := by decide +kernel
theorem dL_law_202 : decode cL_law 202 = .ok (.aload_n 0, 1) := by decide +kernel
theorem dL_law_203 : decode cL_law 203 = .ok (.iload 4, 2) := by decide +kernel
theorem dL_law_205 : decode cL_law 205 = .ok (.iconst 4, 1) := by decide +kernel
theorem dL_law_206 : decode cL_law 206 = .ok (.iadd, 1) := by decide +kernel
theorem dL_law_207 : decode cL_law 207 = .ok (.iaload, 1) := by decide +kernel
theorem dL_law_208 : decode cL_law 208 = .ok (.invokevirtual 89, 3) := by decide +kernel
theorem dL_law_211 : decode cL_law 211 = .ok (.istore 6, 2) := by decide +kernel
theorem dL_law_213 : decode cL_law 213 = .ok (.aload_n 2, 1) := by decide +kernel
theorem dL_law_214 : decode cL_law 214 = .ok (.invokevirtual 90, 3) := by decide +kernel
theorem dL_law_217 : decode cL_law 217 = .ok (.iload 5, 2) := by decide +kernel
theorem dL_law_219 : decode cL_law 219 = .ok (.if_icmp .eq 5, 3) := by decide +kernel
theorem dL_law_222 : decode cL_law 222 = .ok (.iconst 0, 1) := by decide +kernel
theorem dL_law_223 : decode cL_law 223 = .ok (.ireturn, 1) := by decide +kernel
theorem dL_law_224 : decode cL_law 224 = .ok (.iload 5, 2) := by decide +kernel
theorem dL_law_226 : decode cL_law 226 = .ok (.ifCond .ne 15, 3) := by decide +kernel
theorem dL_law_229 : decode cL_law 229 = .ok (.aload_n 3, 1) := by decide +kernel
theorem dL_law_230 : decode cL_law 230 = .ok (.iconst 0, 1) := by decide +kernel
theorem dL_law_231 : decode cL_law 231 = .ok (.laload, 1) := by decide +kernel
theorem dL_law_232 : decode cL_law 232 = .ok (.iload 6, 2) := by decide +kernel
theorem dL_law_234 : decode cL_law 234 = .ok (.i2l, 1) := by decide +kernel
theorem dL_law_235 : decode cL_law 235 = .ok (.lcmp, 1) := by decide +kernel
theorem dL_law_236 : decode cL_law 236 = .ok (.ifCond .eq 5, 3) := by decide +kernel
theorem dL_law_239 : decode cL_law 239 = .ok (.iconst 0, 1) := by decide +kernel
theorem dL_law_240 : decode cL_law 240 = .ok (.ireturn, 1) := by decide +kernel
theorem dL_law_241 : decode cL_law 241 = .ok (.goto 1264, 3) := by decide +kernel
theorem dL_law_244 : decode cL_law 244 = .ok (.aload_n 1, 1) := by decide +kernel
theorem dL_law_245 : decode cL_law 245 = .ok (.aload_n 0, 1) := by decide +kernel
theorem dL_law_246 : decode cL_law 246 = .ok (.iload 4, 2) := by decide +kernel
theorem dL_law_248 : decode cL_law 248 = .ok (.iconst 1, 1) := by decide +kernel
theorem dL_law_249 : decode cL_law 249 = .ok (.iadd, 1) := by decide +kernel
theorem dL_law_250 : decode cL_law 250 = .ok (.iaload, 1) := by decide +kernel
theorem dL_law_251 : decode cL_law 251 = .ok (.aload_n 0, 1) := by decide +kernel
theorem dL_law_252 : decode cL_law 252 = .ok (.iload 4, 2) := by decide +kernel
theorem dL_law_254 : decode cL_law 254 = .ok (.iconst 2, 1) := by decide +kernel
theorem dL_law_255 : decode cL_law 255 = .ok (.iadd, 1) := by decide +kernel
theorem dL_law_256 : decode cL_law 256 = .ok (.iaload, 1) := by decide +kernel
theorem dL_law_257 : decode cL_law 257 = .ok (.aload_n 3, 1) := by decide +kernel
theorem dL_law_258 : decode cL_law 258 = .ok (.invokestatic 94, 3) := by decide +kernel
theorem dL_law_261 : decode cL_law 261 = .ok (.istore 5, 2) := by decide +kernel
theorem dL_law_263 : decode cL_law 263 = .ok (.aload_n 2, 1) := by decide +kernel
theorem dL_law_264 : decode cL_law 264 = .ok (.aload_n 0, 1) := by decide +kernel
theorem dL_law_265 : decode cL_law 265 = .ok (.iload 4, 2) := by decide +kernel
theorem dL_law_267 : decode cL_law 267 = .ok (.iconst 1, 1) := by decide +kernel
theorem dL_law_268 : decode cL_law 268 = .ok (.iadd, 1) := by decide +kernel
theorem dL_law_269 : decode cL_law 269 = .ok (.iaload, 1) := by decide +kernel
theorem dL_law_270 : decode cL_law 270 = .ok (.aload_n 0, 1) := by decide +kernel
theorem dL_law_271 : decode cL_law 271 = .ok (.iload 4, 2) := by decide +kernel
theorem dL_law_273 : decode cL_law 273 = .ok (.iconst 2, 1) := by decide +kernel
theorem dL_law_274 : decode cL_law 274 = .ok (.iadd, 1) := by decide +kernel
theorem dL_law_275 : decode cL_law 275 = .ok (.iaload, 1) := by decide +kernel
theorem dL_law_276 : decode cL_law 276 = .ok (.invokevirtual 97, 3) := by decide +kernel
theorem dL_law_279 : decode cL_law 279 = .ok (.istore 6, 2) := by decide +kernel
theorem dL_law_281 : decode cL_law 281 = .ok (.aload_n 2, 1) := by decide +kernel
theorem dL_law_282 : decode cL_law 282 = .ok (.invokevirtual 90, 3) := by decide +kernel
theorem dL_law_285 : decode cL_law 285 = .ok (.iload 5, 2) := by decide +kernel
theorem dL_law_287 : decode cL_law 287 = .ok (.if_icmp .eq 5, 3) := by decide +kernel
theorem dL_law_290 : decode cL_law 290 = .ok (.iconst 0, 1) := by decide +kernel
theorem dL_law_291 : decode cL_law 291 = .ok (.ireturn, 1) := by decide +kernel
theorem dL_law_292 : decode cL_law 292 = .ok (.iload 5, 2) := by decide +kernel
theorem dL_law_294 : decode cL_law 294 = .ok (.ifCond .ne 15, 3) := by decide +kernel
theorem dL_law_297 : decode cL_law 297 = .ok (.aload_n 3, 1) := by decide +kernel
theorem dL_law_298 : decode cL_law 298 = .ok (.iconst 0, 1) := by decide +kernel
theorem dL_law_299 : decode cL_law 299 = .ok (.laload, 1) := by decide +kernel
theorem dL_law_300 : decode cL_law 300 = .ok (.iload 6, 2) := by decide +kernel
theorem dL_law_302 : decode cL_law 302 = .ok (.i2l, 1) := by decide +kernel
theorem dL_law_303 : decode cL_law 303 = .ok (.lcmp, 1) := by decide +kernel
theorem dL_law_304 : decode cL_law 304 = .ok (.ifCond .eq 5, 3) := by decide +kernel
theorem dL_law_307 : decode cL_law 307 = .ok (.iconst 0, 1) := by decide +kernel
theorem dL_law_308 : decode cL_law 308 = .ok (.ireturn, 1) := by decide +kernel
theorem dL_law_309 : decode cL_law 309 = .ok (.goto 1196, 3) := by decide +kernel
theorem dL_law_312 : decode cL_law 312 = .ok (.aload_n 1, 1) := by decide +kernel
theorem dL_law_313 : decode cL_law 313 = .ok (.aload_n 0, 1) := by decide +kernel
theorem dL_law_314 : decode cL_law 314 = .ok (.iload 4, 2) := by decide +kernel
theorem dL_law_316 : decode cL_law 316 = .ok (.iconst 1, 1) := by decide +kernel
theorem dL_law_317 : decode cL_law 317 = .ok (.iadd, 1) := by decide +kernel
theorem dL_law_318 : decode cL_law 318 = .ok (.iaload, 1) := by decide +kernel
theorem dL_law_319 : decode cL_law 319 = .ok (.aload_n 0, 1) := by decide +kernel
theorem dL_law_320 : decode cL_law 320 = .ok (.iload 4, 2) := by decide +kernel
theorem dL_law_322 : decode cL_law 322 = .ok (.iconst 2, 1) := by decide +kernel
theorem dL_law_323 : decode cL_law 323 = .ok (.iadd, 1) := by decide +kernel
theorem dL_law_324 : decode cL_law 324 = .ok (.iaload, 1) := by decide +kernel
theorem dL_law_325 : decode cL_law 325 = .ok (.aload_n 3, 1) := by decide +kernel
theorem dL_law_326 : decode cL_law 326 = .ok (.invokestatic 98, 3) := by decide +kernel
theorem dL_law_329 : decode cL_law 329 = .ok (.istore 5, 2) := by decide +kernel
theorem dL_law_331 : decode cL_law 331 = .ok (.aload_n 2, 1) := by decide +kernel
theorem dL_law_332 : decode cL_law 332 = .ok (.aload_n 0, 1) := by decide +kernel
theorem dL_law_333 : decode cL_law 333 = .ok (.iload 4, 2) := by decide +kernel
theorem dL_law_335 : decode cL_law 335 = .ok (.iconst 1, 1) := by decide +kernel
theorem dL_law_336 : decode cL_law 336 = .ok (.iadd, 1) := by decide +kernel
theorem dL_law_337 : decode cL_law 337 = .ok (.iaload, 1) := by decide +kernel
theorem dL_law_338 : decode cL_law 338 = .ok (.aload_n 0, 1) := by decide +kernel
theorem dL_law_339 : decode cL_law 339 = .ok (.iload 4, 2) := by decide +kernel
theorem dL_law_341 : decode cL_law 341 = .ok (.iconst 2, 1) := by decide +kernel
theorem dL_law_342 : decode cL_law 342 = .ok (.iadd, 1) := by decide +kernel
theorem dL_law_343 : decode cL_law 343 = .ok (.iaload, 1) := by decide +kernel
theorem dL_law_344 : decode cL_law 344 = .ok (.invokevirtual 100, 3) := by decide +kernel
theorem dL_law_347 : decode cL_law 347 = .ok (.istore 6, 2) := by decide +kernel
theorem dL_law_349 : decode cL_law 349 = .ok (.aload_n 2, 1) := by decide +kernel
theorem dL_law_350 : decode cL_law 350 = .ok (.invokevirtual 90, 3) := by decide +kernel
theorem dL_law_353 : decode cL_law 353 = .ok (.iload 5, 2) := by decide +kernel
theorem dL_law_355 : decode cL_law 355 = .ok (.if_icmp .eq 5, 3) := by decide +kernel
theorem dL_law_358 : decode cL_law 358 = .ok (.iconst 0, 1) := by decide +kernel
theorem dL_law_359 : decode cL_law 359 = .ok (.ireturn, 1) := by decide +kernel
theorem dL_law_360 : decode cL_law 360 = .ok (.iload 5, 2) := by decide +kernel
theorem dL_law_362 : decode cL_law 362 = .ok (.ifCond .ne 15, 3) := by decide +kernel
theorem dL_law_365 : decode cL_law 365 = .ok (.aload_n 3, 1) := by decide +kernel
theorem dL_law_366 : decode cL_law 366 = .ok (.iconst 0, 1) := by decide +kernel
theorem dL_law_367 : decode cL_law 367 = .ok (.laload, 1) := by decide +kernel
theorem dL_law_368 : decode cL_law 368 = .ok (.iload 6, 2) := by decide +kernel
theorem dL_law_370 : decode cL_law 370 = .ok (.i2l, 1) := by decide +kernel
theorem dL_law_371 : decode cL_law 371 = .ok (.lcmp, 1) := by decide +kernel
theorem dL_law_372 : decode cL_law 372 = .ok (.ifCond .eq 5, 3) := by decide +kernel
theorem dL_law_375 : decode cL_law 375 = .ok (.iconst 0, 1) := by decide +kernel
theorem dL_law_376 : decode cL_law 376 = .ok (.ireturn, 1) := by decide +kernel
theorem dL_law_377 : decode cL_law 377 = .ok (.goto 1128, 3) := by decide +kernel
theorem dL_law_380 : decode cL_law 380 = .ok (.aload_n 1, 1) := by decide +kernel
theorem dL_law_381 : decode cL_law 381 = .ok (.aload_n 0, 1) := by decide +kernel
theorem dL_law_382 : decode cL_law 382 = .ok (.iload 4, 2) := by decide +kernel
theorem dL_law_384 : decode cL_law 384 = .ok (.iconst 1, 1) := by decide +kernel
theorem dL_law_385 : decode cL_law 385 = .ok (.iadd, 1) := by decide +kernel
theorem dL_law_386 : decode cL_law 386 = .ok (.iaload, 1) := by decide +kernel
theorem dL_law_387 : decode cL_law 387 = .ok (.aload_n 0, 1) := by decide +kernel
theorem dL_law_388 : decode cL_law 388 = .ok (.iload 4, 2) := by decide +kernel
theorem dL_law_390 : decode cL_law 390 = .ok (.iconst 2, 1) := by decide +kernel
theorem dL_law_391 : decode cL_law 391 = .ok (.iadd, 1) := by decide +kernel
theorem dL_law_392 : decode cL_law 392 = .ok (.iaload, 1) := by decide +kernel
theorem dL_law_393 : decode cL_law 393 = .ok (.aload_n 3, 1) := by decide +kernel
theorem dL_law_394 : decode cL_law 394 = .ok (.invokestatic 101, 3) := by decide +kernel
theorem dL_law_397 : decode cL_law 397 = .ok (.istore 5, 2) := by decide +kernel
theorem dL_law_399 : decode cL_law 399 = .ok (.aload_n 2, 1) := by decide +kernel
theorem dL_law_400 : decode cL_law 400 = .ok (.aload_n 0, 1) := by decide +kernel
theorem dL_law_401 : decode cL_law 401 = .ok (.iload 4, 2) := by decide +kernel
theorem dL_law_403 : decode cL_law 403 = .ok (.iconst 1, 1) := by decide +kernel
theorem dL_law_404 : decode cL_law 404 = .ok (.iadd, 1) := by decide +kernel
theorem dL_law_405 : decode cL_law 405 = .ok (.iaload, 1) := by decide +kernel
theorem dL_law_406 : decode cL_law 406 = .ok (.aload_n 0, 1) := by decide +kernel
theorem dL_law_407 : decode cL_law 407 = .ok (.iload 4, 2) := by decide +kernel
theorem dL_law_409 : decode cL_law 409 = .ok (.iconst 2, 1) := by decide +kernel
theorem dL_law_410 : decode cL_law 410 = .ok (.iadd, 1) := by decide +kernel
theorem dL_law_411 : decode cL_law 411 = .ok (.iaload, 1) := by decide +kernel
theorem dL_law_412 : decode cL_law 412 = .ok (.invokevirtual 103, 3) := by decide +kernel
theorem dL_law_415 : decode cL_law 415 = .ok (.istore 6, 2) := by decide +kernel
theorem dL_law_417 : decode cL_law 417 = .ok (.aload_n 2, 1) := by decide +kernel
theorem dL_law_418 : decode cL_law 418 = .ok (.invokevirtual 90, 3) := by decide +kernel
theorem dL_law_421 : decode cL_law 421 = .ok (.iload 5, 2) := by decide +kernel
theorem dL_law_423 : decode cL_law 423 = .ok (.if_icmp .eq 5, 3) := by decide +kernel
theorem dL_law_426 : decode cL_law 426 = .ok (.iconst 0, 1) := by decide +kernel
theorem dL_law_427 : decode cL_law 427 = .ok (.ireturn, 1) := by decide +kernel
theorem dL_law_428 : decode cL_law 428 = .ok (.iload 5, 2) := by decide +kernel
theorem dL_law_430 : decode cL_law 430 = .ok (.ifCond .ne 15, 3) := by decide +kernel
theorem dL_law_433 : decode cL_law 433 = .ok (.aload_n 3, 1) := by decide +kernel
theorem dL_law_434 : decode cL_law 434 = .ok (.iconst 0, 1) := by decide +kernel
theorem dL_law_435 : decode cL_law 435 = .ok (.laload, 1) := by decide +kernel
theorem dL_law_436 : decode cL_law 436 = .ok (.iload 6, 2) := by decide +kernel
theorem dL_law_438 : decode cL_law 438 = .ok (.i2l, 1) := by decide +kernel
theorem dL_law_439 : decode cL_law 439 = .ok (.lcmp, 1) := by decide +kernel
theorem dL_law_440 : decode cL_law 440 = .ok (.ifCond .eq 5, 3) := by decide +kernel
theorem dL_law_443 : decode cL_law 443 = .ok (.iconst 0, 1) := by decide +kernel
theorem dL_law_444 : decode cL_law 444 = .ok (.ireturn, 1) := by decide +kernel
theorem dL_law_445 : decode cL_law 445 = .ok (.goto 1060, 3) := by decide +kernel
theorem dL_law_448 : decode cL_law 448 = .ok (.aload_n 1, 1) := by decide +kernel
theorem dL_law_449 : decode cL_law 449 = .ok (.aload_n 0, 1) := by decide +kernel
theorem dL_law_450 : decode cL_law 450 = .ok (.iload 4, 2) := by decide +kernel
theorem dL_law_452 : decode cL_law 452 = .ok (.iconst 1, 1) := by decide +kernel
theorem dL_law_453 : decode cL_law 453 = .ok (.iadd, 1) := by decide +kernel
theorem dL_law_454 : decode cL_law 454 = .ok (.iaload, 1) := by decide +kernel
theorem dL_law_455 : decode cL_law 455 = .ok (.invokevirtual 104, 3) := by decide +kernel
theorem dL_law_458 : decode cL_law 458 = .ok (.aload_n 2, 1) := by decide +kernel
theorem dL_law_459 : decode cL_law 459 = .ok (.aload_n 0, 1) := by decide +kernel
theorem dL_law_460 : decode cL_law 460 = .ok (.iload 4, 2) := by decide +kernel
theorem dL_law_462 : decode cL_law 462 = .ok (.iconst 1, 1) := by decide +kernel
theorem dL_law_463 : decode cL_law 463 = .ok (.iadd, 1) := by decide +kernel
theorem dL_law_464 : decode cL_law 464 = .ok (.iaload, 1) := by decide +kernel
theorem dL_law_465 : decode cL_law 465 = .ok (.invokevirtual 108, 3) := by decide +kernel
theorem dL_law_468 : decode cL_law 468 = .ok (.goto 1037, 3) := by decide +kernel
theorem dL_law_471 : decode cL_law 471 = .ok (.aload_n 1, 1) := by decide +kernel
theorem dL_law_472 : decode cL_law 472 = .ok (.aload_n 0, 1) := by decide +kernel
theorem dL_law_473 : decode cL_law 473 = .ok (.iload 4, 2) := by decide +kernel
theorem dL_law_475 : decode cL_law 475 = .ok (.iconst 1, 1) := by decide +kernel
theorem dL_law_476 : decode cL_law 476 = .ok (.iadd, 1) := by decide +kernel
theorem dL_law_477 : decode cL_law 477 = .ok (.iaload, 1) := by decide +kernel
theorem dL_law_478 : decode cL_law 478 = .ok (.aload_n 0, 1) := by decide +kernel
theorem dL_law_479 : decode cL_law 479 = .ok (.iload 4, 2) := by decide +kernel
theorem dL_law_481 : decode cL_law 481 = .ok (.iconst 2, 1) := by decide +kernel
theorem dL_law_482 : decode cL_law 482 = .ok (.iadd, 1) := by decide +kernel
theorem dL_law_483 : decode cL_law 483 = .ok (.iaload, 1) := by decide +kernel
theorem dL_law_484 : decode cL_law 484 = .ok (.aload_n 0, 1) := by decide +kernel
theorem dL_law_485 : decode cL_law 485 = .ok (.iload 4, 2) := by decide +kernel
theorem dL_law_487 : decode cL_law 487 = .ok (.iconst 3, 1) := by decide +kernel
theorem dL_law_488 : decode cL_law 488 = .ok (.iadd, 1) := by decide +kernel
theorem dL_law_489 : decode cL_law 489 = .ok (.iaload, 1) := by decide +kernel
theorem dL_law_490 : decode cL_law 490 = .ok (.aload_n 3, 1) := by decide +kernel
theorem dL_law_491 : decode cL_law 491 = .ok (.invokestatic 109, 3) := by decide +kernel
theorem dL_law_494 : decode cL_law 494 = .ok (.istore 5, 2) := by decide +kernel
theorem dL_law_496 : decode cL_law 496 = .ok (.aload_n 2, 1) := by decide +kernel
theorem dL_law_497 : decode cL_law 497 = .ok (.aload_n 0, 1) := by decide +kernel
theorem dL_law_498 : decode cL_law 498 = .ok (.iload 4, 2) := by decide +kernel
theorem dL_law_500 : decode cL_law 500 = .ok (.iconst 1, 1) := by decide +kernel
theorem dL_law_501 : decode cL_law 501 = .ok (.iadd, 1) := by decide +kernel
theorem dL_law_502 : decode cL_law 502 = .ok (.iaload, 1) := by decide +kernel
theorem dL_law_503 : decode cL_law 503 = .ok (.aload_n 0, 1) := by decide +kernel
theorem dL_law_504 : decode cL_law 504 = .ok (.iload 4, 2) := by decide +kernel
theorem dL_law_506 : decode cL_law 506 = .ok (.iconst 2, 1) := by decide +kernel
theorem dL_law_507 : decode cL_law 507 = .ok (.iadd, 1) := by decide +kernel
theorem dL_law_508 : decode cL_law 508 = .ok (.iaload, 1) := by decide +kernel
theorem dL_law_509 : decode cL_law 509 = .ok (.aload_n 0, 1) := by decide +kernel
theorem dL_law_510 : decode cL_law 510 = .ok (.iload 4, 2) := by decide +kernel
theorem dL_law_512 : decode cL_law 512 = .ok (.iconst 3, 1) := by decide +kernel
theorem dL_law_513 : decode cL_law 513 = .ok (.iadd, 1) := by decide +kernel
theorem dL_law_514 : decode cL_law 514 = .ok (.iaload, 1) := by decide +kernel
theorem dL_law_515 : decode cL_law 515 = .ok (.invokevirtual 112, 3) := by decide +kernel
theorem dL_law_518 : decode cL_law 518 = .ok (.istore 6, 2) := by decide +kernel
theorem dL_law_520 : decode cL_law 520 = .ok (.aload_n 2, 1) := by decide +kernel
theorem dL_law_521 : decode cL_law 521 = .ok (.invokevirtual 90, 3) := by decide +kernel
theorem dL_law_524 : decode cL_law 524 = .ok (.iload 5, 2) := by decide +kernel
theorem dL_law_526 : decode cL_law 526 = .ok (.if_icmp .eq 5, 3) := by decide +kernel
theorem dL_law_529 : decode cL_law 529 = .ok (.iconst 0, 1) := by decide +kernel
theorem dL_law_530 : decode cL_law 530 = .ok (.ireturn, 1) := by decide +kernel
theorem dL_law_531 : decode cL_law 531 = .ok (.iload 5, 2) := by decide +kernel
theorem dL_law_533 : decode cL_law 533 = .ok (.ifCond .ne 15, 3) := by decide +kernel
theorem dL_law_536 : decode cL_law 536 = .ok (.aload_n 3, 1) := by decide +kernel
theorem dL_law_537 : decode cL_law 537 = .ok (.iconst 0, 1) := by decide +kernel
theorem dL_law_538 : decode cL_law 538 = .ok (.laload, 1) := by decide +kernel
theorem dL_law_539 : decode cL_law 539 = .ok (.iload 6, 2) := by decide +kernel
theorem dL_law_541 : decode cL_law 541 = .ok (.i2l, 1) := by decide +kernel
theorem dL_law_542 : decode cL_law 542 = .ok (.lcmp, 1) := by decide +kernel
theorem dL_law_543 : decode cL_law 543 = .ok (.ifCond .eq 5, 3) := by decide +kernel
theorem dL_law_546 : decode cL_law 546 = .ok (.iconst 0, 1) := by decide +kernel
theorem dL_law_547 : decode cL_law 547 = .ok (.ireturn, 1) := by decide +kernel
theorem dL_law_548 : decode cL_law 548 = .ok (.goto 957, 3) := by decide +kernel
theorem dL_law_551 : decode cL_law 551 = .ok (.aload_n 1, 1) := by decide +kernel
theorem dL_law_552 : decode cL_law 552 = .ok (.aload_n 0, 1) := by decide +kernel
theorem dL_law_553 : decode cL_law 553 = .ok (.iload 4, 2) := by decide +kernel
theorem dL_law_555 : decode cL_law 555 = .ok (.iconst 1, 1) := by decide +kernel
theorem dL_law_556 : decode cL_law 556 = .ok (.iadd, 1) := by decide +kernel
theorem dL_law_557 : decode cL_law 557 = .ok (.iaload, 1) := by decide +kernel
theorem dL_law_558 : decode cL_law 558 = .ok (.aload_n 3, 1) := by decide +kernel
theorem dL_law_559 : decode cL_law 559 = .ok (.invokestatic 113, 3) := by decide +kernel
theorem dL_law_562 : decode cL_law 562 = .ok (.istore 5, 2) := by decide +kernel
theorem dL_law_564 : decode cL_law 564 = .ok (.aload_n 2, 1) := by decide +kernel
theorem dL_law_565 : decode cL_law 565 = .ok (.aload_n 0, 1) := by decide +kernel
theorem dL_law_566 : decode cL_law 566 = .ok (.iload 4, 2) := by decide +kernel
theorem dL_law_568 : decode cL_law 568 = .ok (.iconst 1, 1) := by decide +kernel
theorem dL_law_569 : decode cL_law 569 = .ok (.iadd, 1) := by decide +kernel
theorem dL_law_570 : decode cL_law 570 = .ok (.iaload, 1) := by decide +kernel
theorem dL_law_571 : decode cL_law 571 = .ok (.invokevirtual 116, 3) := by decide +kernel
theorem dL_law_574 : decode cL_law 574 = .ok (.istore 6, 2) := by decide +kernel
theorem dL_law_576 : decode cL_law 576 = .ok (.aload_n 2, 1) := by decide +kernel
theorem dL_law_577 : decode cL_law 577 = .ok (.invokevirtual 90, 3) := by decide +kernel
theorem dL_law_580 : decode cL_law 580 = .ok (.iload 5, 2) := by decide +kernel
theorem dL_law_582 : decode cL_law 582 = .ok (.if_icmp .eq 5, 3) := by decide +kernel
theorem dL_law_585 : decode cL_law 585 = .ok (.iconst 0, 1) := by decide +kernel
theorem dL_law_586 : decode cL_law 586 = .ok (.ireturn, 1) := by decide +kernel
theorem dL_law_587 : decode cL_law 587 = .ok (.iload 5, 2) := by decide +kernel
theorem dL_law_589 : decode cL_law 589 = .ok (.ifCond .ne 15, 3) := by decide +kernel
theorem dL_law_592 : decode cL_law 592 = .ok (.aload_n 3, 1) := by decide +kernel
theorem dL_law_593 : decode cL_law 593 = .ok (.iconst 0, 1) := by decide +kernel
theorem dL_law_594 : decode cL_law 594 = .ok (.laload, 1) := by decide +kernel
theorem dL_law_595 : decode cL_law 595 = .ok (.iload 6, 2) := by decide +kernel
theorem dL_law_597 : decode cL_law 597 = .ok (.i2l, 1) := by decide +kernel
theorem dL_law_598 : decode cL_law 598 = .ok (.lcmp, 1) := by decide +kernel
theorem dL_law_599 : decode cL_law 599 = .ok (.ifCond .eq 5, 3) := by decide +kernel
theorem dL_law_602 : decode cL_law 602 = .ok (.iconst 0, 1) := by decide +kernel
theorem dL_law_603 : decode cL_law 603 = .ok (.ireturn, 1) := by decide +kernel
theorem dL_law_604 : decode cL_law 604 = .ok (.goto 901, 3) := by decide +kernel
theorem dL_law_607 : decode cL_law 607 = .ok (.aload_n 1, 1) := by decide +kernel
theorem dL_law_608 : decode cL_law 608 = .ok (.invokevirtual 117, 3) := by decide +kernel
theorem dL_law_611 : decode cL_law 611 = .ok (.aload_n 2, 1) := by decide +kernel
theorem dL_law_612 : decode cL_law 612 = .ok (.invokevirtual 120, 3) := by decide +kernel
theorem dL_law_615 : decode cL_law 615 = .ok (.if_icmp .eq 890, 3) := by decide +kernel
theorem dL_law_618 : decode cL_law 618 = .ok (.iconst 0, 1) := by decide +kernel
theorem dL_law_619 : decode cL_law 619 = .ok (.ireturn, 1) := by decide +kernel
theorem dL_law_620 : decode cL_law 620 = .ok (.aload_n 1, 1) := by decide +kernel
theorem dL_law_621 : decode cL_law 621 = .ok (.invokevirtual 121, 3) := by decide +kernel
theorem dL_law_624 : decode cL_law 624 = .ok (.aload_n 2, 1) := by decide +kernel
theorem dL_law_625 : decode cL_law 625 = .ok (.invokevirtual 124, 3) := by decide +kernel
theorem dL_law_628 : decode cL_law 628 = .ok (.if_icmp .eq 877, 3) := by decide +kernel
theorem dL_law_631 : decode cL_law 631 = .ok (.iconst 0, 1) := by decide +kernel
theorem dL_law_632 : decode cL_law 632 = .ok (.ireturn, 1) := by decide +kernel
theorem dL_law_633 : decode cL_law 633 = .ok (.aload_n 1, 1) := by decide +kernel
theorem dL_law_634 : decode cL_law 634 = .ok (.invokevirtual 125, 3) := by decide +kernel
theorem dL_law_637 : decode cL_law 637 = .ok (.aload_n 2, 1) := by decide +kernel
theorem dL_law_638 : decode cL_law 638 = .ok (.invokevirtual 128, 3) := by decide +kernel
theorem dL_law_641 : decode cL_law 641 = .ok (.if_icmp .eq 864, 3) := by decide +kernel
theorem dL_law_644 : decode cL_law 644 = .ok (.iconst 0, 1) := by decide +kernel
theorem dL_law_645 : decode cL_law 645 = .ok (.ireturn, 1) := by decide +kernel
theorem dL_law_646 : decode cL_law 646 = .ok (.aload_n 1, 1) := by decide +kernel
theorem dL_law_647 : decode cL_law 647 = .ok (.aload_n 0, 1) := by decide +kernel
theorem dL_law_648 : decode cL_law 648 = .ok (.iload 4, 2) := by decide +kernel
theorem dL_law_650 : decode cL_law 650 = .ok (.iconst 1, 1) := by decide +kernel
theorem dL_law_651 : decode cL_law 651 = .ok (.iadd, 1) := by decide +kernel
theorem dL_law_652 : decode cL_law 652 = .ok (.iaload, 1) := by decide +kernel
theorem dL_law_653 : decode cL_law 653 = .ok (.aload_n 3, 1) := by decide +kernel
theorem dL_law_654 : decode cL_law 654 = .ok (.invokestatic 129, 3) := by decide +kernel
theorem dL_law_657 : decode cL_law 657 = .ok (.istore 5, 2) := by decide +kernel
theorem dL_law_659 : decode cL_law 659 = .ok (.aload_n 2, 1) := by decide +kernel
theorem dL_law_660 : decode cL_law 660 = .ok (.aload_n 0, 1) := by decide +kernel
theorem dL_law_661 : decode cL_law 661 = .ok (.iload 4, 2) := by decide +kernel
theorem dL_law_663 : decode cL_law 663 = .ok (.iconst 1, 1) := by decide +kernel
theorem dL_law_664 : decode cL_law 664 = .ok (.iadd, 1) := by decide +kernel
theorem dL_law_665 : decode cL_law 665 = .ok (.iaload, 1) := by decide +kernel
theorem dL_law_666 : decode cL_law 666 = .ok (.invokevirtual 131, 3) := by decide +kernel
theorem dL_law_669 : decode cL_law 669 = .ok (.istore 6, 2) := by decide +kernel
theorem dL_law_671 : decode cL_law 671 = .ok (.aload_n 2, 1) := by decide +kernel
theorem dL_law_672 : decode cL_law 672 = .ok (.invokevirtual 90, 3) := by decide +kernel
theorem dL_law_675 : decode cL_law 675 = .ok (.iload 5, 2) := by decide +kernel
theorem dL_law_677 : decode cL_law 677 = .ok (.if_icmp .eq 5, 3) := by decide +kernel
theorem dL_law_680 : decode cL_law 680 = .ok (.iconst 0, 1) := by decide +kernel
theorem dL_law_681 : decode cL_law 681 = .ok (.ireturn, 1) := by decide +kernel
theorem dL_law_682 : decode cL_law 682 = .ok (.iload 5, 2) := by decide +kernel
theorem dL_law_684 : decode cL_law 684 = .ok (.ifCond .ne 15, 3) := by decide +kernel
theorem dL_law_687 : decode cL_law 687 = .ok (.aload_n 3, 1) := by decide +kernel
theorem dL_law_688 : decode cL_law 688 = .ok (.iconst 0, 1) := by decide +kernel
theorem dL_law_689 : decode cL_law 689 = .ok (.laload, 1) := by decide +kernel
theorem dL_law_690 : decode cL_law 690 = .ok (.iload 6, 2) := by decide +kernel
theorem dL_law_692 : decode cL_law 692 = .ok (.i2l, 1) := by decide +kernel
theorem dL_law_693 : decode cL_law 693 = .ok (.lcmp, 1) := by decide +kernel
theorem dL_law_694 : decode cL_law 694 = .ok (.ifCond .eq 5, 3) := by decide +kernel
theorem dL_law_697 : decode cL_law 697 = .ok (.iconst 0, 1) := by decide +kernel
theorem dL_law_698 : decode cL_law 698 = .ok (.ireturn, 1) := by decide +kernel
theorem dL_law_699 : decode cL_law 699 = .ok (.goto 806, 3) := by decide +kernel
theorem dL_law_702 : decode cL_law 702 = .ok (.aload_n 1, 1) := by decide +kernel
theorem dL_law_703 : decode cL_law 703 = .ok (.aload_n 0, 1) := by decide +kernel
theorem dL_law_704 : decode cL_law 704 = .ok (.iload 4, 2) := by decide +kernel
theorem dL_law_706 : decode cL_law 706 = .ok (.iconst 1, 1) := by decide +kernel
theorem dL_law_707 : decode cL_law 707 = .ok (.iadd, 1) := by decide +kernel
theorem dL_law_708 : decode cL_law 708 = .ok (.iaload, 1) := by decide +kernel
theorem dL_law_709 : decode cL_law 709 = .ok (.aload_n 3, 1) := by decide +kernel
theorem dL_law_710 : decode cL_law 710 = .ok (.invokestatic 132, 3) := by decide +kernel
theorem dL_law_713 : decode cL_law 713 = .ok (.istore 5, 2) := by decide +kernel
theorem dL_law_715 : decode cL_law 715 = .ok (.aload_n 2, 1) := by decide +kernel
theorem dL_law_716 : decode cL_law 716 = .ok (.aload_n 0, 1) := by decide +kernel
theorem dL_law_717 : decode cL_law 717 = .ok (.iload 4, 2) := by decide +kernel
theorem dL_law_719 : decode cL_law 719 = .ok (.iconst 1, 1) := by decide +kernel
theorem dL_law_720 : decode cL_law 720 = .ok (.iadd, 1) := by decide +kernel
theorem dL_law_721 : decode cL_law 721 = .ok (.iaload, 1) := by decide +kernel
theorem dL_law_722 : decode cL_law 722 = .ok (.invokevirtual 134, 3) := by decide +kernel
theorem dL_law_725 : decode cL_law 725 = .ok (.istore 6, 2) := by decide +kernel
theorem dL_law_727 : decode cL_law 727 = .ok (.aload_n 2, 1) := by decide +kernel
theorem dL_law_728 : decode cL_law 728 = .ok (.invokevirtual 90, 3) := by decide +kernel
theorem dL_law_731 : decode cL_law 731 = .ok (.iload 5, 2) := by decide +kernel
theorem dL_law_733 : decode cL_law 733 = .ok (.if_icmp .eq 5, 3) := by decide +kernel
theorem dL_law_736 : decode cL_law 736 = .ok (.iconst 0, 1) := by decide +kernel
theorem dL_law_737 : decode cL_law 737 = .ok (.ireturn, 1) := by decide +kernel
theorem dL_law_738 : decode cL_law 738 = .ok (.iload 5, 2) := by decide +kernel
theorem dL_law_740 : decode cL_law 740 = .ok (.ifCond .ne 15, 3) := by decide +kernel
theorem dL_law_743 : decode cL_law 743 = .ok (.aload_n 3, 1) := by decide +kernel
theorem dL_law_744 : decode cL_law 744 = .ok (.iconst 0, 1) := by decide +kernel
theorem dL_law_745 : decode cL_law 745 = .ok (.laload, 1) := by decide +kernel
theorem dL_law_746 : decode cL_law 746 = .ok (.iload 6, 2) := by decide +kernel
theorem dL_law_748 : decode cL_law 748 = .ok (.i2l, 1) := by decide +kernel
theorem dL_law_749 : decode cL_law 749 = .ok (.lcmp, 1) := by decide +kernel
theorem dL_law_750 : decode cL_law 750 = .ok (.ifCond .eq 5, 3) := by decide +kernel
theorem dL_law_753 : decode cL_law 753 = .ok (.iconst 0, 1) := by decide +kernel
theorem dL_law_754 : decode cL_law 754 = .ok (.ireturn, 1) := by decide +kernel
theorem dL_law_755 : decode cL_law 755 = .ok (.goto 750, 3) := by decide +kernel
theorem dL_law_758 : decode cL_law 758 = .ok (.aload_n 1, 1) := by decide +kernel
theorem dL_law_759 : decode cL_law 759 = .ok (.aload_n 0, 1) := by decide +kernel
theorem dL_law_760 : decode cL_law 760 = .ok (.iload 4, 2) := by decide +kernel
theorem dL_law_762 : decode cL_law 762 = .ok (.iconst 1, 1) := by decide +kernel
theorem dL_law_763 : decode cL_law 763 = .ok (.iadd, 1) := by decide +kernel
theorem dL_law_764 : decode cL_law 764 = .ok (.iaload, 1) := by decide +kernel
theorem dL_law_765 : decode cL_law 765 = .ok (.aload_n 3, 1) := by decide +kernel
theorem dL_law_766 : decode cL_law 766 = .ok (.invokestatic 135, 3) := by decide +kernel
theorem dL_law_769 : decode cL_law 769 = .ok (.istore 5, 2) := by decide +kernel
theorem dL_law_771 : decode cL_law 771 = .ok (.aload_n 2, 1) := by decide +kernel
theorem dL_law_772 : decode cL_law 772 = .ok (.aload_n 0, 1) := by decide +kernel
theorem dL_law_773 : decode cL_law 773 = .ok (.iload 4, 2) := by decide +kernel
theorem dL_law_775 : decode cL_law 775 = .ok (.iconst 1, 1) := by decide +kernel
theorem dL_law_776 : decode cL_law 776 = .ok (.iadd, 1) := by decide +kernel
theorem dL_law_777 : decode cL_law 777 = .ok (.iaload, 1) := by decide +kernel
theorem dL_law_778 : decode cL_law 778 = .ok (.invokevirtual 137, 3) := by decide +kernel
theorem dL_law_781 : decode cL_law 781 = .ok (.istore 6, 2) := by decide +kernel
theorem dL_law_783 : decode cL_law 783 = .ok (.aload_n 2, 1) := by decide +kernel
theorem dL_law_784 : decode cL_law 784 = .ok (.invokevirtual 90, 3) := by decide +kernel
theorem dL_law_787 : decode cL_law 787 = .ok (.iload 5, 2) := by decide +kernel
theorem dL_law_789 : decode cL_law 789 = .ok (.if_icmp .eq 5, 3) := by decide +kernel
theorem dL_law_792 : decode cL_law 792 = .ok (.iconst 0, 1) := by decide +kernel
theorem dL_law_793 : decode cL_law 793 = .ok (.ireturn, 1) := by decide +kernel
theorem dL_law_794 : decode cL_law 794 = .ok (.iload 5, 2) := by decide +kernel
theorem dL_law_796 : decode cL_law 796 = .ok (.ifCond .ne 15, 3) := by decide +kernel
theorem dL_law_799 : decode cL_law 799 = .ok (.aload_n 3, 1) := by decide +kernel
theorem dL_law_800 : decode cL_law 800 = .ok (.iconst 0, 1) := by decide +kernel
theorem dL_law_801 : decode cL_law 801 = .ok (.laload, 1) := by decide +kernel
theorem dL_law_802 : decode cL_law 802 = .ok (.iload 6, 2) := by decide +kernel
theorem dL_law_804 : decode cL_law 804 = .ok (.i2l, 1) := by decide +kernel
theorem dL_law_805 : decode cL_law 805 = .ok (.lcmp, 1) := by decide +kernel
theorem dL_law_806 : decode cL_law 806 = .ok (.ifCond .eq 5, 3) := by decide +kernel
theorem dL_law_809 : decode cL_law 809 = .ok (.iconst 0, 1) := by decide +kernel
theorem dL_law_810 : decode cL_law 810 = .ok (.ireturn, 1) := by decide +kernel
theorem dL_law_811 : decode cL_law 811 = .ok (.goto 694, 3) := by decide +kernel
theorem dL_law_814 : decode cL_law 814 = .ok (.aload_n 1, 1) := by decide +kernel
theorem dL_law_815 : decode cL_law 815 = .ok (.aload_n 0, 1) := by decide +kernel
theorem dL_law_816 : decode cL_law 816 = .ok (.iload 4, 2) := by decide +kernel
theorem dL_law_818 : decode cL_law 818 = .ok (.iconst 1, 1) := by decide +kernel
theorem dL_law_819 : decode cL_law 819 = .ok (.iadd, 1) := by decide +kernel
theorem dL_law_820 : decode cL_law 820 = .ok (.iaload, 1) := by decide +kernel
theorem dL_law_821 : decode cL_law 821 = .ok (.aload_n 3, 1) := by decide +kernel
theorem dL_law_822 : decode cL_law 822 = .ok (.invokestatic 138, 3) := by decide +kernel
theorem dL_law_825 : decode cL_law 825 = .ok (.istore 5, 2) := by decide +kernel
theorem dL_law_827 : decode cL_law 827 = .ok (.aload_n 2, 1) := by decide +kernel
theorem dL_law_828 : decode cL_law 828 = .ok (.aload_n 0, 1) := by decide +kernel
theorem dL_law_829 : decode cL_law 829 = .ok (.iload 4, 2) := by decide +kernel
theorem dL_law_831 : decode cL_law 831 = .ok (.iconst 1, 1) := by decide +kernel
theorem dL_law_832 : decode cL_law 832 = .ok (.iadd, 1) := by decide +kernel
theorem dL_law_833 : decode cL_law 833 = .ok (.iaload, 1) := by decide +kernel
theorem dL_law_834 : decode cL_law 834 = .ok (.invokevirtual 140, 3) := by decide +kernel
theorem dL_law_837 : decode cL_law 837 = .ok (.istore 6, 2) := by decide +kernel
theorem dL_law_839 : decode cL_law 839 = .ok (.aload_n 2, 1) := by decide +kernel
theorem dL_law_840 : decode cL_law 840 = .ok (.invokevirtual 90, 3) := by decide +kernel
theorem dL_law_843 : decode cL_law 843 = .ok (.iload 5, 2) := by decide +kernel
theorem dL_law_845 : decode cL_law 845 = .ok (.if_icmp .eq 5, 3) := by decide +kernel
theorem dL_law_848 : decode cL_law 848 = .ok (.iconst 0, 1) := by decide +kernel
theorem dL_law_849 : decode cL_law 849 = .ok (.ireturn, 1) := by decide +kernel
theorem dL_law_850 : decode cL_law 850 = .ok (.iload 5, 2) := by decide +kernel
theorem dL_law_852 : decode cL_law 852 = .ok (.ifCond .ne 15, 3) := by decide +kernel
theorem dL_law_855 : decode cL_law 855 = .ok (.aload_n 3, 1) := by decide +kernel
theorem dL_law_856 : decode cL_law 856 = .ok (.iconst 0, 1) := by decide +kernel
theorem dL_law_857 : decode cL_law 857 = .ok (.laload, 1) := by decide +kernel
theorem dL_law_858 : decode cL_law 858 = .ok (.iload 6, 2) := by decide +kernel
theorem dL_law_860 : decode cL_law 860 = .ok (.i2l, 1) := by decide +kernel
theorem dL_law_861 : decode cL_law 861 = .ok (.lcmp, 1) := by decide +kernel
theorem dL_law_862 : decode cL_law 862 = .ok (.ifCond .eq 5, 3) := by decide +kernel
theorem dL_law_865 : decode cL_law 865 = .ok (.iconst 0, 1) := by decide +kernel
theorem dL_law_866 : decode cL_law 866 = .ok (.ireturn, 1) := by decide +kernel
theorem dL_law_867 : decode cL_law 867 = .ok (.goto 638, 3) := by decide +kernel
theorem dL_law_870 : decode cL_law 870 = .ok (.aload_n 1, 1) := by decide +kernel
theorem dL_law_871 : decode cL_law 871 = .ok (.invokevirtual 141, 3) := by decide +kernel
theorem dL_law_874 : decode cL_law 874 = .ok (.aload_n 2, 1) := by decide +kernel
theorem dL_law_875 : decode cL_law 875 = .ok (.invokevirtual 144, 3) := by decide +kernel
theorem dL_law_878 : decode cL_law 878 = .ok (.if_icmp .eq 627, 3) := by decide +kernel
theorem dL_law_881 : decode cL_law 881 = .ok (.iconst 0, 1) := by decide +kernel
theorem dL_law_882 : decode cL_law 882 = .ok (.ireturn, 1) := by decide +kernel
theorem dL_law_883 : decode cL_law 883 = .ok (.aload_n 1, 1) := by decide +kernel
theorem dL_law_884 : decode cL_law 884 = .ok (.aload_n 0, 1) := by decide +kernel
theorem dL_law_885 : decode cL_law 885 = .ok (.iload 4, 2) := by decide +kernel
theorem dL_law_887 : decode cL_law 887 = .ok (.iconst 1, 1) := by decide +kernel
theorem dL_law_888 : decode cL_law 888 = .ok (.iadd, 1) := by decide +kernel
theorem dL_law_889 : decode cL_law 889 = .ok (.iaload, 1) := by decide +kernel
theorem dL_law_890 : decode cL_law 890 = .ok (.aload_n 3, 1) := by decide +kernel
theorem dL_law_891 : decode cL_law 891 = .ok (.invokestatic 145, 3) := by decide +kernel
theorem dL_law_894 : decode cL_law 894 = .ok (.istore 5, 2) := by decide +kernel
theorem dL_law_896 : decode cL_law 896 = .ok (.aload_n 2, 1) := by decide +kernel
theorem dL_law_897 : decode cL_law 897 = .ok (.aload_n 0, 1) := by decide +kernel
theorem dL_law_898 : decode cL_law 898 = .ok (.iload 4, 2) := by decide +kernel
theorem dL_law_900 : decode cL_law 900 = .ok (.iconst 1, 1) := by decide +kernel
theorem dL_law_901 : decode cL_law 901 = .ok (.iadd, 1) := by decide +kernel
theorem dL_law_902 : decode cL_law 902 = .ok (.iaload, 1) := by decide +kernel
theorem dL_law_903 : decode cL_law 903 = .ok (.invokevirtual 147, 3) := by decide +kernel
theorem dL_law_906 : decode cL_law 906 = .ok (.istore 6, 2) := by decide +kernel
theorem dL_law_908 : decode cL_law 908 = .ok (.aload_n 2, 1) := by decide +kernel
theorem dL_law_909 : decode cL_law 909 = .ok (.invokevirtual 90, 3) := by decide +kernel
theorem dL_law_912 : decode cL_law 912 = .ok (.iload 5, 2) := by decide +kernel
theorem dL_law_914 : decode cL_law 914 = .ok (.if_icmp .eq 5, 3) := by decide +kernel
theorem dL_law_917 : decode cL_law 917 = .ok (.iconst 0, 1) := by decide +kernel
theorem dL_law_918 : decode cL_law 918 = .ok (.ireturn, 1) := by decide +kernel
theorem dL_law_919 : decode cL_law 919 = .ok (.iload 5, 2) := by decide +kernel
theorem dL_law_921 : decode cL_law 921 = .ok (.ifCond .ne 15, 3) := by decide +kernel
theorem dL_law_924 : decode cL_law 924 = .ok (.aload_n 3, 1) := by decide +kernel
theorem dL_law_925 : decode cL_law 925 = .ok (.iconst 0, 1) := by decide +kernel
theorem dL_law_926 : decode cL_law 926 = .ok (.laload, 1) := by decide +kernel
theorem dL_law_927 : decode cL_law 927 = .ok (.iload 6, 2) := by decide +kernel
theorem dL_law_929 : decode cL_law 929 = .ok (.i2l, 1) := by decide +kernel
theorem dL_law_930 : decode cL_law 930 = .ok (.lcmp, 1) := by decide +kernel
theorem dL_law_931 : decode cL_law 931 = .ok (.ifCond .eq 5, 3) := by decide +kernel
theorem dL_law_934 : decode cL_law 934 = .ok (.iconst 0, 1) := by decide +kernel
theorem dL_law_935 : decode cL_law 935 = .ok (.ireturn, 1) := by decide +kernel
theorem dL_law_936 : decode cL_law 936 = .ok (.goto 569, 3) := by decide +kernel
theorem dL_law_939 : decode cL_law 939 = .ok (.aload_n 1, 1) := by decide +kernel
theorem dL_law_940 : decode cL_law 940 = .ok (.aload_n 0, 1) := by decide +kernel
theorem dL_law_941 : decode cL_law 941 = .ok (.iload 4, 2) := by decide +kernel
theorem dL_law_943 : decode cL_law 943 = .ok (.iconst 1, 1) := by decide +kernel
theorem dL_law_944 : decode cL_law 944 = .ok (.iadd, 1) := by decide +kernel
theorem dL_law_945 : decode cL_law 945 = .ok (.iaload, 1) := by decide +kernel
theorem dL_law_946 : decode cL_law 946 = .ok (.aload_n 3, 1) := by decide +kernel
theorem dL_law_947 : decode cL_law 947 = .ok (.invokestatic 148, 3) := by decide +kernel
theorem dL_law_950 : decode cL_law 950 = .ok (.istore 5, 2) := by decide +kernel
theorem dL_law_952 : decode cL_law 952 = .ok (.aload_n 2, 1) := by decide +kernel
theorem dL_law_953 : decode cL_law 953 = .ok (.aload_n 0, 1) := by decide +kernel
theorem dL_law_954 : decode cL_law 954 = .ok (.iload 4, 2) := by decide +kernel
theorem dL_law_956 : decode cL_law 956 = .ok (.iconst 1, 1) := by decide +kernel
theorem dL_law_957 : decode cL_law 957 = .ok (.iadd, 1) := by decide +kernel
theorem dL_law_958 : decode cL_law 958 = .ok (.iaload, 1) := by decide +kernel
theorem dL_law_959 : decode cL_law 959 = .ok (.invokevirtual 150, 3) := by decide +kernel
theorem dL_law_962 : decode cL_law 962 = .ok (.istore 6, 2) := by decide +kernel
theorem dL_law_964 : decode cL_law 964 = .ok (.aload_n 2, 1) := by decide +kernel
theorem dL_law_965 : decode cL_law 965 = .ok (.invokevirtual 90, 3) := by decide +kernel
theorem dL_law_968 : decode cL_law 968 = .ok (.iload 5, 2) := by decide +kernel
theorem dL_law_970 : decode cL_law 970 = .ok (.if_icmp .eq 5, 3) := by decide +kernel
theorem dL_law_973 : decode cL_law 973 = .ok (.iconst 0, 1) := by decide +kernel
theorem dL_law_974 : decode cL_law 974 = .ok (.ireturn, 1) := by decide +kernel
theorem dL_law_975 : decode cL_law 975 = .ok (.iload 5, 2) := by decide +kernel
theorem dL_law_977 : decode cL_law 977 = .ok (.ifCond .ne 15, 3) := by decide +kernel
theorem dL_law_980 : decode cL_law 980 = .ok (.aload_n 3, 1) := by decide +kernel
theorem dL_law_981 : decode cL_law 981 = .ok (.iconst 0, 1) := by decide +kernel
theorem dL_law_982 : decode cL_law 982 = .ok (.laload, 1) := by decide +kernel
theorem dL_law_983 : decode cL_law 983 = .ok (.iload 6, 2) := by decide +kernel
theorem dL_law_985 : decode cL_law 985 = .ok (.i2l, 1) := by decide +kernel
theorem dL_law_986 : decode cL_law 986 = .ok (.lcmp, 1) := by decide +kernel
theorem dL_law_987 : decode cL_law 987 = .ok (.ifCond .eq 5, 3) := by decide +kernel
theorem dL_law_990 : decode cL_law 990 = .ok (.iconst 0, 1) := by decide +kernel
theorem dL_law_991 : decode cL_law 991 = .ok (.ireturn, 1) := by decide +kernel
theorem dL_law_992 : decode cL_law 992 = .ok (.goto 513, 3) := by decide +kernel
theorem dL_law_995 : decode cL_law 995 = .ok (.aload_n 1, 1) := by decide +kernel
theorem dL_law_996 : decode cL_law 996 = .ok (.aload_n 0, 1) := by decide +kernel
theorem dL_law_997 : decode cL_law 997 = .ok (.iload 4, 2) := by decide +kernel
theorem dL_law_999 : decode cL_law 999 = .ok (.iconst 1, 1) := by decide +kernel
theorem dL_law_1000 : decode cL_law 1000 = .ok (.iadd, 1) := by decide +kernel
theorem dL_law_1001 : decode cL_law 1001 = .ok (.iaload, 1) := by decide +kernel
theorem dL_law_1002 : decode cL_law 1002 = .ok (.aload_n 0, 1) := by decide +kernel
theorem dL_law_1003 : decode cL_law 1003 = .ok (.iload 4, 2) := by decide +kernel
theorem dL_law_1005 : decode cL_law 1005 = .ok (.iconst 2, 1) := by decide +kernel
theorem dL_law_1006 : decode cL_law 1006 = .ok (.iadd, 1) := by decide +kernel
theorem dL_law_1007 : decode cL_law 1007 = .ok (.iaload, 1) := by decide +kernel
theorem dL_law_1008 : decode cL_law 1008 = .ok (.aload_n 3, 1) := by decide +kernel
theorem dL_law_1009 : decode cL_law 1009 = .ok (.invokestatic 151, 3) := by decide +kernel
theorem dL_law_1012 : decode cL_law 1012 = .ok (.istore 5, 2) := by decide +kernel
theorem dL_law_1014 : decode cL_law 1014 = .ok (.aload_n 2, 1) := by decide +kernel
theorem dL_law_1015 : decode cL_law 1015 = .ok (.aload_n 0, 1) := by decide +kernel
theorem dL_law_1016 : decode cL_law 1016 = .ok (.iload 4, 2) := by decide +kernel
theorem dL_law_1018 : decode cL_law 1018 = .ok (.iconst 1, 1) := by decide +kernel
theorem dL_law_1019 : decode cL_law 1019 = .ok (.iadd, 1) := by decide +kernel
theorem dL_law_1020 : decode cL_law 1020 = .ok (.iaload, 1) := by decide +kernel
theorem dL_law_1021 : decode cL_law 1021 = .ok (.aload_n 0, 1) := by decide +kernel
theorem dL_law_1022 : decode cL_law 1022 = .ok (.iload 4, 2) := by decide +kernel
theorem dL_law_1024 : decode cL_law 1024 = .ok (.iconst 2, 1) := by decide +kernel
theorem dL_law_1025 : decode cL_law 1025 = .ok (.iadd, 1) := by decide +kernel
theorem dL_law_1026 : decode cL_law 1026 = .ok (.iaload, 1) := by decide +kernel
theorem dL_law_1027 : decode cL_law 1027 = .ok (.invokevirtual 153, 3) := by decide +kernel
theorem dL_law_1030 : decode cL_law 1030 = .ok (.istore 6, 2) := by decide +kernel
theorem dL_law_1032 : decode cL_law 1032 = .ok (.aload_n 2, 1) := by decide +kernel
theorem dL_law_1033 : decode cL_law 1033 = .ok (.invokevirtual 90, 3) := by decide +kernel
theorem dL_law_1036 : decode cL_law 1036 = .ok (.iload 5, 2) := by decide +kernel
theorem dL_law_1038 : decode cL_law 1038 = .ok (.if_icmp .eq 5, 3) := by decide +kernel
theorem dL_law_1041 : decode cL_law 1041 = .ok (.iconst 0, 1) := by decide +kernel
theorem dL_law_1042 : decode cL_law 1042 = .ok (.ireturn, 1) := by decide +kernel
theorem dL_law_1043 : decode cL_law 1043 = .ok (.iload 5, 2) := by decide +kernel
theorem dL_law_1045 : decode cL_law 1045 = .ok (.ifCond .ne 22, 3) := by decide +kernel
theorem dL_law_1048 : decode cL_law 1048 = .ok (.aload_n 3, 1) := by decide +kernel
theorem dL_law_1049 : decode cL_law 1049 = .ok (.iconst 0, 1) := by decide +kernel
theorem dL_law_1050 : decode cL_law 1050 = .ok (.laload, 1) := by decide +kernel
theorem dL_law_1051 : decode cL_law 1051 = .ok (.iload 6, 2) := by decide +kernel
theorem dL_law_1053 : decode cL_law 1053 = .ok (.ifCond .eq 7, 3) := by decide +kernel
theorem dL_law_1056 : decode cL_law 1056 = .ok (.lconst 1, 1) := by decide +kernel
theorem dL_law_1057 : decode cL_law 1057 = .ok (.goto 4, 3) := by decide +kernel
theorem dL_law_1060 : decode cL_law 1060 = .ok (.lconst 0, 1) := by decide +kernel
theorem dL_law_1061 : decode cL_law 1061 = .ok (.lcmp, 1) := by decide +kernel
theorem dL_law_1062 : decode cL_law 1062 = .ok (.ifCond .eq 5, 3) := by decide +kernel
theorem dL_law_1065 : decode cL_law 1065 = .ok (.iconst 0, 1) := by decide +kernel
theorem dL_law_1066 : decode cL_law 1066 = .ok (.ireturn, 1) := by decide +kernel
theorem dL_law_1067 : decode cL_law 1067 = .ok (.goto 438, 3) := by decide +kernel
theorem dL_law_1070 : decode cL_law 1070 = .ok (.aload_n 1, 1) := by decide +kernel
theorem dL_law_1071 : decode cL_law 1071 = .ok (.aload_n 0, 1) := by decide +kernel
theorem dL_law_1072 : decode cL_law 1072 = .ok (.iload 4, 2) := by decide +kernel
theorem dL_law_1074 : decode cL_law 1074 = .ok (.iconst 1, 1) := by decide +kernel
theorem dL_law_1075 : decode cL_law 1075 = .ok (.iadd, 1) := by decide +kernel
theorem dL_law_1076 : decode cL_law 1076 = .ok (.iaload, 1) := by decide +kernel
theorem dL_law_1077 : decode cL_law 1077 = .ok (.aload_n 3, 1) := by decide +kernel
theorem dL_law_1078 : decode cL_law 1078 = .ok (.invokestatic 154, 3) := by decide +kernel
theorem dL_law_1081 : decode cL_law 1081 = .ok (.istore 5, 2) := by decide +kernel
theorem dL_law_1083 : decode cL_law 1083 = .ok (.aload_n 2, 1) := by decide +kernel
theorem dL_law_1084 : decode cL_law 1084 = .ok (.aload_n 0, 1) := by decide +kernel
theorem dL_law_1085 : decode cL_law 1085 = .ok (.iload 4, 2) := by decide +kernel
theorem dL_law_1087 : decode cL_law 1087 = .ok (.iconst 1, 1) := by decide +kernel
theorem dL_law_1088 : decode cL_law 1088 = .ok (.iadd, 1) := by decide +kernel
theorem dL_law_1089 : decode cL_law 1089 = .ok (.iaload, 1) := by decide +kernel
theorem dL_law_1090 : decode cL_law 1090 = .ok (.invokevirtual 156, 3) := by decide +kernel
theorem dL_law_1093 : decode cL_law 1093 = .ok (.istore 6, 2) := by decide +kernel
theorem dL_law_1095 : decode cL_law 1095 = .ok (.aload_n 2, 1) := by decide +kernel
theorem dL_law_1096 : decode cL_law 1096 = .ok (.invokevirtual 90, 3) := by decide +kernel
theorem dL_law_1099 : decode cL_law 1099 = .ok (.iload 5, 2) := by decide +kernel
theorem dL_law_1101 : decode cL_law 1101 = .ok (.if_icmp .eq 5, 3) := by decide +kernel
theorem dL_law_1104 : decode cL_law 1104 = .ok (.iconst 0, 1) := by decide +kernel
theorem dL_law_1105 : decode cL_law 1105 = .ok (.ireturn, 1) := by decide +kernel
theorem dL_law_1106 : decode cL_law 1106 = .ok (.iload 5, 2) := by decide +kernel
theorem dL_law_1108 : decode cL_law 1108 = .ok (.ifCond .ne 15, 3) := by decide +kernel
theorem dL_law_1111 : decode cL_law 1111 = .ok (.aload_n 3, 1) := by decide +kernel
theorem dL_law_1112 : decode cL_law 1112 = .ok (.iconst 0, 1) := by decide +kernel
theorem dL_law_1113 : decode cL_law 1113 = .ok (.laload, 1) := by decide +kernel
theorem dL_law_1114 : decode cL_law 1114 = .ok (.iload 6, 2) := by decide +kernel
theorem dL_law_1116 : decode cL_law 1116 = .ok (.i2l, 1) := by decide +kernel
theorem dL_law_1117 : decode cL_law 1117 = .ok (.lcmp, 1) := by decide +kernel
theorem dL_law_1118 : decode cL_law 1118 = .ok (.ifCond .eq 5, 3) := by decide +kernel
theorem dL_law_1121 : decode cL_law 1121 = .ok (.iconst 0, 1) := by decide +kernel
theorem dL_law_1122 : decode cL_law 1122 = .ok (.ireturn, 1) := by decide +kernel
theorem dL_law_1123 : decode cL_law 1123 = .ok (.goto 382, 3) := by decide +kernel
theorem dL_law_1126 : decode cL_law 1126 = .ok (.aload_n 1, 1) := by decide +kernel
theorem dL_law_1127 : decode cL_law 1127 = .ok (.aload_n 0, 1) := by decide +kernel
theorem dL_law_1128 : decode cL_law 1128 = .ok (.iload 4, 2) := by decide +kernel
theorem dL_law_1130 : decode cL_law 1130 = .ok (.iconst 1, 1) := by decide +kernel
theorem dL_law_1131 : decode cL_law 1131 = .ok (.iadd, 1) := by decide +kernel
theorem dL_law_1132 : decode cL_law 1132 = .ok (.iaload, 1) := by decide +kernel
theorem dL_law_1133 : decode cL_law 1133 = .ok (.aload_n 3, 1) := by decide +kernel
theorem dL_law_1134 : decode cL_law 1134 = .ok (.invokestatic 157, 3) := by decide +kernel
theorem dL_law_1137 : decode cL_law 1137 = .ok (.istore 5, 2) := by decide +kernel
theorem dL_law_1139 : decode cL_law 1139 = .ok (.aload_n 2, 1) := by decide +kernel
theorem dL_law_1140 : decode cL_law 1140 = .ok (.aload_n 0, 1) := by decide +kernel
theorem dL_law_1141 : decode cL_law 1141 = .ok (.iload 4, 2) := by decide +kernel
theorem dL_law_1143 : decode cL_law 1143 = .ok (.iconst 1, 1) := by decide +kernel
theorem dL_law_1144 : decode cL_law 1144 = .ok (.iadd, 1) := by decide +kernel
theorem dL_law_1145 : decode cL_law 1145 = .ok (.iaload, 1) := by decide +kernel
theorem dL_law_1146 : decode cL_law 1146 = .ok (.invokevirtual 159, 3) := by decide +kernel
theorem dL_law_1149 : decode cL_law 1149 = .ok (.istore 6, 2) := by decide +kernel
theorem dL_law_1151 : decode cL_law 1151 = .ok (.aload_n 2, 1) := by decide +kernel
theorem dL_law_1152 : decode cL_law 1152 = .ok (.invokevirtual 90, 3) := by decide +kernel
theorem dL_law_1155 : decode cL_law 1155 = .ok (.iload 5, 2) := by decide +kernel
theorem dL_law_1157 : decode cL_law 1157 = .ok (.if_icmp .eq 5, 3) := by decide +kernel
theorem dL_law_1160 : decode cL_law 1160 = .ok (.iconst 0, 1) := by decide +kernel
theorem dL_law_1161 : decode cL_law 1161 = .ok (.ireturn, 1) := by decide +kernel
theorem dL_law_1162 : decode cL_law 1162 = .ok (.iload 5, 2) := by decide +kernel
theorem dL_law_1164 : decode cL_law 1164 = .ok (.ifCond .ne 15, 3) := by decide +kernel
theorem dL_law_1167 : decode cL_law 1167 = .ok (.aload_n 3, 1) := by decide +kernel
theorem dL_law_1168 : decode cL_law 1168 = .ok (.iconst 0, 1) := by decide +kernel
theorem dL_law_1169 : decode cL_law 1169 = .ok (.laload, 1) := by decide +kernel
theorem dL_law_1170 : decode cL_law 1170 = .ok (.iload 6, 2) := by decide +kernel
theorem dL_law_1172 : decode cL_law 1172 = .ok (.i2l, 1) := by decide +kernel
theorem dL_law_1173 : decode cL_law 1173 = .ok (.lcmp, 1) := by decide +kernel
theorem dL_law_1174 : decode cL_law 1174 = .ok (.ifCond .eq 5, 3) := by decide +kernel
theorem dL_law_1177 : decode cL_law 1177 = .ok (.iconst 0, 1) := by decide +kernel
theorem dL_law_1178 : decode cL_law 1178 = .ok (.ireturn, 1) := by decide +kernel
theorem dL_law_1179 : decode cL_law 1179 = .ok (.goto 326, 3) := by decide +kernel
theorem dL_law_1182 : decode cL_law 1182 = .ok (.aload_n 1, 1) := by decide +kernel
theorem dL_law_1183 : decode cL_law 1183 = .ok (.aload_n 0, 1) := by decide +kernel
theorem dL_law_1184 : decode cL_law 1184 = .ok (.iload 4, 2) := by decide +kernel
theorem dL_law_1186 : decode cL_law 1186 = .ok (.iconst 1, 1) := by decide +kernel
theorem dL_law_1187 : decode cL_law 1187 = .ok (.iadd, 1) := by decide +kernel
theorem dL_law_1188 : decode cL_law 1188 = .ok (.iaload, 1) := by decide +kernel
theorem dL_law_1189 : decode cL_law 1189 = .ok (.aload_n 0, 1) := by decide +kernel
theorem dL_law_1190 : decode cL_law 1190 = .ok (.iload 4, 2) := by decide +kernel
theorem dL_law_1192 : decode cL_law 1192 = .ok (.iconst 2, 1) := by decide +kernel
theorem dL_law_1193 : decode cL_law 1193 = .ok (.iadd, 1) := by decide +kernel
theorem dL_law_1194 : decode cL_law 1194 = .ok (.iaload, 1) := by decide +kernel
theorem dL_law_1195 : decode cL_law 1195 = .ok (.aload_n 3, 1) := by decide +kernel
theorem dL_law_1196 : decode cL_law 1196 = .ok (.invokestatic 160, 3) := by decide +kernel
theorem dL_law_1199 : decode cL_law 1199 = .ok (.istore 5, 2) := by decide +kernel
theorem dL_law_1201 : decode cL_law 1201 = .ok (.aload_n 2, 1) := by decide +kernel
theorem dL_law_1202 : decode cL_law 1202 = .ok (.aload_n 0, 1) := by decide +kernel
theorem dL_law_1203 : decode cL_law 1203 = .ok (.iload 4, 2) := by decide +kernel
theorem dL_law_1205 : decode cL_law 1205 = .ok (.iconst 1, 1) := by decide +kernel
theorem dL_law_1206 : decode cL_law 1206 = .ok (.iadd, 1) := by decide +kernel
theorem dL_law_1207 : decode cL_law 1207 = .ok (.iaload, 1) := by decide +kernel
theorem dL_law_1208 : decode cL_law 1208 = .ok (.aload_n 0, 1) := by decide +kernel
theorem dL_law_1209 : decode cL_law 1209 = .ok (.iload 4, 2) := by decide +kernel
theorem dL_law_1211 : decode cL_law 1211 = .ok (.iconst 2, 1) := by decide +kernel
theorem dL_law_1212 : decode cL_law 1212 = .ok (.iadd, 1) := by decide +kernel
theorem dL_law_1213 : decode cL_law 1213 = .ok (.iaload, 1) := by decide +kernel
theorem dL_law_1214 : decode cL_law 1214 = .ok (.invokevirtual 162, 3) := by decide +kernel
theorem dL_law_1217 : decode cL_law 1217 = .ok (.istore 6, 2) := by decide +kernel
theorem dL_law_1219 : decode cL_law 1219 = .ok (.aload_n 2, 1) := by decide +kernel
theorem dL_law_1220 : decode cL_law 1220 = .ok (.invokevirtual 90, 3) := by decide +kernel
theorem dL_law_1223 : decode cL_law 1223 = .ok (.iload 5, 2) := by decide +kernel
theorem dL_law_1225 : decode cL_law 1225 = .ok (.if_icmp .eq 5, 3) := by decide +kernel
theorem dL_law_1228 : decode cL_law 1228 = .ok (.iconst 0, 1) := by decide +kernel
theorem dL_law_1229 : decode cL_law 1229 = .ok (.ireturn, 1) := by decide +kernel
theorem dL_law_1230 : decode cL_law 1230 = .ok (.iload 5, 2) := by decide +kernel
theorem dL_law_1232 : decode cL_law 1232 = .ok (.ifCond .ne 22, 3) := by decide +kernel
theorem dL_law_1235 : decode cL_law 1235 = .ok (.aload_n 3, 1) := by decide +kernel
theorem dL_law_1236 : decode cL_law 1236 = .ok (.iconst 0, 1) := by decide +kernel
theorem dL_law_1237 : decode cL_law 1237 = .ok (.laload, 1) := by decide +kernel
theorem dL_law_1238 : decode cL_law 1238 = .ok (.iload 6, 2) := by decide +kernel
theorem dL_law_1240 : decode cL_law 1240 = .ok (.ifCond .eq 7, 3) := by decide +kernel
theorem dL_law_1243 : decode cL_law 1243 = .ok (.lconst 1, 1) := by decide +kernel
theorem dL_law_1244 : decode cL_law 1244 = .ok (.goto 4, 3) := by decide +kernel
theorem dL_law_1247 : decode cL_law 1247 = .ok (.lconst 0, 1) := by decide +kernel
theorem dL_law_1248 : decode cL_law 1248 = .ok (.lcmp, 1) := by decide +kernel
theorem dL_law_1249 : decode cL_law 1249 = .ok (.ifCond .eq 5, 3) := by decide +kernel
theorem dL_law_1252 : decode cL_law 1252 = .ok (.iconst 0, 1) := by decide +kernel
theorem dL_law_1253 : decode cL_law 1253 = .ok (.ireturn, 1) := by decide +kernel
theorem dL_law_1254 : decode cL_law 1254 = .ok (.goto 251, 3) := by decide +kernel
theorem dL_law_1257 : decode cL_law 1257 = .ok (.aload_n 1, 1) := by decide +kernel
theorem dL_law_1258 : decode cL_law 1258 = .ok (.aload_n 0, 1) := by decide +kernel
theorem dL_law_1259 : decode cL_law 1259 = .ok (.iload 4, 2) := by decide +kernel
theorem dL_law_1261 : decode cL_law 1261 = .ok (.iconst 1, 1) := by decide +kernel
theorem dL_law_1262 : decode cL_law 1262 = .ok (.iadd, 1) := by decide +kernel
theorem dL_law_1263 : decode cL_law 1263 = .ok (.iaload, 1) := by decide +kernel
theorem dL_law_1264 : decode cL_law 1264 = .ok (.aload_n 0, 1) := by decide +kernel
theorem dL_law_1265 : decode cL_law 1265 = .ok (.iload 4, 2) := by decide +kernel
theorem dL_law_1267 : decode cL_law 1267 = .ok (.iconst 2, 1) := by decide +kernel
theorem dL_law_1268 : decode cL_law 1268 = .ok (.iadd, 1) := by decide +kernel
theorem dL_law_1269 : decode cL_law 1269 = .ok (.iaload, 1) := by decide +kernel
theorem dL_law_1270 : decode cL_law 1270 = .ok (.aload_n 3, 1) := by decide +kernel
theorem dL_law_1271 : decode cL_law 1271 = .ok (.invokestatic 163, 3) := by decide +kernel
theorem dL_law_1274 : decode cL_law 1274 = .ok (.istore 5, 2) := by decide +kernel
theorem dL_law_1276 : decode cL_law 1276 = .ok (.aload_n 2, 1) := by decide +kernel
theorem dL_law_1277 : decode cL_law 1277 = .ok (.aload_n 0, 1) := by decide +kernel
theorem dL_law_1278 : decode cL_law 1278 = .ok (.iload 4, 2) := by decide +kernel
theorem dL_law_1280 : decode cL_law 1280 = .ok (.iconst 1, 1) := by decide +kernel
theorem dL_law_1281 : decode cL_law 1281 = .ok (.iadd, 1) := by decide +kernel
theorem dL_law_1282 : decode cL_law 1282 = .ok (.iaload, 1) := by decide +kernel
theorem dL_law_1283 : decode cL_law 1283 = .ok (.aload_n 0, 1) := by decide +kernel
theorem dL_law_1284 : decode cL_law 1284 = .ok (.iload 4, 2) := by decide +kernel
theorem dL_law_1286 : decode cL_law 1286 = .ok (.iconst 2, 1) := by decide +kernel
theorem dL_law_1287 : decode cL_law 1287 = .ok (.iadd, 1) := by decide +kernel
theorem dL_law_1288 : decode cL_law 1288 = .ok (.iaload, 1) := by decide +kernel
theorem dL_law_1289 : decode cL_law 1289 = .ok (.invokevirtual 165, 3) := by decide +kernel
theorem dL_law_1292 : decode cL_law 1292 = .ok (.istore 6, 2) := by decide +kernel
theorem dL_law_1294 : decode cL_law 1294 = .ok (.aload_n 2, 1) := by decide +kernel
theorem dL_law_1295 : decode cL_law 1295 = .ok (.invokevirtual 90, 3) := by decide +kernel
theorem dL_law_1298 : decode cL_law 1298 = .ok (.iload 5, 2) := by decide +kernel
theorem dL_law_1300 : decode cL_law 1300 = .ok (.if_icmp .eq 5, 3) := by decide +kernel
theorem dL_law_1303 : decode cL_law 1303 = .ok (.iconst 0, 1) := by decide +kernel
theorem dL_law_1304 : decode cL_law 1304 = .ok (.ireturn, 1) := by decide +kernel
theorem dL_law_1305 : decode cL_law 1305 = .ok (.iload 5, 2) := by decide +kernel
theorem dL_law_1307 : decode cL_law 1307 = .ok (.ifCond .ne 15, 3) := by decide +kernel
theorem dL_law_1310 : decode cL_law 1310 = .ok (.aload_n 3, 1) := by decide +kernel
theorem dL_law_1311 : decode cL_law 1311 = .ok (.iconst 0, 1) := by decide +kernel
theorem dL_law_1312 : decode cL_law 1312 = .ok (.laload, 1) := by decide +kernel
theorem dL_law_1313 : decode cL_law 1313 = .ok (.iload 6, 2) := by decide +kernel
theorem dL_law_1315 : decode cL_law 1315 = .ok (.i2l, 1) := by decide +kernel
theorem dL_law_1316 : decode cL_law 1316 = .ok (.lcmp, 1) := by decide +kernel
theorem dL_law_1317 : decode cL_law 1317 = .ok (.ifCond .eq 5, 3) := by decide +kernel
theorem dL_law_1320 : decode cL_law 1320 = .ok (.iconst 0, 1) := by decide +kernel
theorem dL_law_1321 : decode cL_law 1321 = .ok (.ireturn, 1) := by decide +kernel
theorem dL_law_1322 : decode cL_law 1322 = .ok (.goto 183, 3) := by decide +kernel
theorem dL_law_1325 : decode cL_law 1325 = .ok (.aload_n 1, 1) := by decide +kernel
theorem dL_law_1326 : decode cL_law 1326 = .ok (.aload_n 0, 1) := by decide +kernel
theorem dL_law_1327 : decode cL_law 1327 = .ok (.iload 4, 2) := by decide +kernel
theorem dL_law_1329 : decode cL_law 1329 = .ok (.iconst 1, 1) := by decide +kernel
theorem dL_law_1330 : decode cL_law 1330 = .ok (.iadd, 1) := by decide +kernel
theorem dL_law_1331 : decode cL_law 1331 = .ok (.iaload, 1) := by decide +kernel
theorem dL_law_1332 : decode cL_law 1332 = .ok (.aload_n 3, 1) := by decide +kernel
theorem dL_law_1333 : decode cL_law 1333 = .ok (.invokestatic 166, 3) := by decide +kernel
theorem dL_law_1336 : decode cL_law 1336 = .ok (.istore 5, 2) := by decide +kernel
theorem dL_law_1338 : decode cL_law 1338 = .ok (.aload_n 2, 1) := by decide +kernel
theorem dL_law_1339 : decode cL_law 1339 = .ok (.aload_n 0, 1) := by decide +kernel
theorem dL_law_1340 : decode cL_law 1340 = .ok (.iload 4, 2) := by decide +kernel
theorem dL_law_1342 : decode cL_law 1342 = .ok (.iconst 1, 1) := by decide +kernel
theorem dL_law_1343 : decode cL_law 1343 = .ok (.iadd, 1) := by decide +kernel
theorem dL_law_1344 : decode cL_law 1344 = .ok (.iaload, 1) := by decide +kernel
theorem dL_law_1345 : decode cL_law 1345 = .ok (.invokevirtual 168, 3) := by decide +kernel
theorem dL_law_1348 : decode cL_law 1348 = .ok (.istore 6, 2) := by decide +kernel
theorem dL_law_1350 : decode cL_law 1350 = .ok (.aload_n 2, 1) := by decide +kernel
theorem dL_law_1351 : decode cL_law 1351 = .ok (.invokevirtual 90, 3) := by decide +kernel
theorem dL_law_1354 : decode cL_law 1354 = .ok (.iload 5, 2) := by decide +kernel
theorem dL_law_1356 : decode cL_law 1356 = .ok (.if_icmp .eq 5, 3) := by decide +kernel
theorem dL_law_1359 : decode cL_law 1359 = .ok (.iconst 0, 1) := by decide +kernel
theorem dL_law_1360 : decode cL_law 1360 = .ok (.ireturn, 1) := by decide +kernel
theorem dL_law_1361 : decode cL_law 1361 = .ok (.iload 5, 2) := by decide +kernel
theorem dL_law_1363 : decode cL_law 1363 = .ok (.ifCond .ne 15, 3) := by decide +kernel
theorem dL_law_1366 : decode cL_law 1366 = .ok (.aload_n 3, 1) := by decide +kernel
theorem dL_law_1367 : decode cL_law 1367 = .ok (.iconst 0, 1) := by decide +kernel
theorem dL_law_1368 : decode cL_law 1368 = .ok (.laload, 1) := by decide +kernel
theorem dL_law_1369 : decode cL_law 1369 = .ok (.iload 6, 2) := by decide +kernel
theorem dL_law_1371 : decode cL_law 1371 = .ok (.i2l, 1) := by decide +kernel
theorem dL_law_1372 : decode cL_law 1372 = .ok (.lcmp, 1) := by decide +kernel
theorem dL_law_1373 : decode cL_law 1373 = .ok (.ifCond .eq 5, 3) := by decide +kernel
theorem dL_law_1376 : decode cL_law 1376 = .ok (.iconst 0, 1) := by decide +kernel
theorem dL_law_1377 : decode cL_law 1377 = .ok (.ireturn, 1) := by decide +kernel
theorem dL_law_1378 : decode cL_law 1378 = .ok (.goto 127, 3) := by decide +kernel
theorem dL_law_1381 : decode cL_law 1381 = .ok (.aload_n 1, 1) := by decide +kernel
theorem dL_law_1382 : decode cL_law 1382 = .ok (.aload_n 0, 1) := by decide +kernel
theorem dL_law_1383 : decode cL_law 1383 = .ok (.iload 4, 2) := by decide +kernel
theorem dL_law_1385 : decode cL_law 1385 = .ok (.iconst 1, 1) := by decide +kernel
theorem dL_law_1386 : decode cL_law 1386 = .ok (.iadd, 1) := by decide +kernel
theorem dL_law_1387 : decode cL_law 1387 = .ok (.iaload, 1) := by decide +kernel
theorem dL_law_1388 : decode cL_law 1388 = .ok (.aload_n 0, 1) := by decide +kernel
theorem dL_law_1389 : decode cL_law 1389 = .ok (.iload 4, 2) := by decide +kernel
theorem dL_law_1391 : decode cL_law 1391 = .ok (.iconst 2, 1) := by decide +kernel
theorem dL_law_1392 : decode cL_law 1392 = .ok (.iadd, 1) := by decide +kernel
theorem dL_law_1393 : decode cL_law 1393 = .ok (.iaload, 1) := by decide +kernel
theorem dL_law_1394 : decode cL_law 1394 = .ok (.aload_n 3, 1) := by decide +kernel
theorem dL_law_1395 : decode cL_law 1395 = .ok (.invokestatic 169, 3) := by decide +kernel
theorem dL_law_1398 : decode cL_law 1398 = .ok (.istore 5, 2) := by decide +kernel
theorem dL_law_1400 : decode cL_law 1400 = .ok (.aload_n 2, 1) := by decide +kernel
theorem dL_law_1401 : decode cL_law 1401 = .ok (.aload_n 0, 1) := by decide +kernel
theorem dL_law_1402 : decode cL_law 1402 = .ok (.iload 4, 2) := by decide +kernel
theorem dL_law_1404 : decode cL_law 1404 = .ok (.iconst 1, 1) := by decide +kernel
theorem dL_law_1405 : decode cL_law 1405 = .ok (.iadd, 1) := by decide +kernel
theorem dL_law_1406 : decode cL_law 1406 = .ok (.iaload, 1) := by decide +kernel
theorem dL_law_1407 : decode cL_law 1407 = .ok (.aload_n 0, 1) := by decide +kernel
theorem dL_law_1408 : decode cL_law 1408 = .ok (.iload 4, 2) := by decide +kernel
theorem dL_law_1410 : decode cL_law 1410 = .ok (.iconst 2, 1) := by decide +kernel
theorem dL_law_1411 : decode cL_law 1411 = .ok (.iadd, 1) := by decide +kernel
theorem dL_law_1412 : decode cL_law 1412 = .ok (.iaload, 1) := by decide +kernel
theorem dL_law_1413 : decode cL_law 1413 = .ok (.invokevirtual 171, 3) := by decide +kernel
theorem dL_law_1416 : decode cL_law 1416 = .ok (.istore 6, 2) := by decide +kernel
theorem dL_law_1418 : decode cL_law 1418 = .ok (.aload_n 2, 1) := by decide +kernel
theorem dL_law_1419 : decode cL_law 1419 = .ok (.invokevirtual 90, 3) := by decide +kernel
theorem dL_law_1422 : decode cL_law 1422 = .ok (.iload 5, 2) := by decide +kernel
theorem dL_law_1424 : decode cL_law 1424 = .ok (.if_icmp .eq 5, 3) := by decide +kernel
theorem dL_law_1427 : decode cL_law 1427 = .ok (.iconst 0, 1) := by decide +kernel
theorem dL_law_1428 : decode cL_law 1428 = .ok (.ireturn, 1) := by decide +kernel
theorem dL_law_1429 : decode cL_law 1429 = .ok (.iload 5, 2) := by decide +kernel
theorem dL_law_1431 : decode cL_law 1431 = .ok (.ifCond .ne 15, 3) := by decide +kernel
theorem dL_law_1434 : decode cL_law 1434 = .ok (.aload_n 3, 1) := by decide +kernel
theorem dL_law_1435 : decode cL_law 1435 = .ok (.iconst 0, 1) := by decide +kernel
theorem dL_law_1436 : decode cL_law 1436 = .ok (.laload, 1) := by decide +kernel
theorem dL_law_1437 : decode cL_law 1437 = .ok (.iload 6, 2) := by decide +kernel
theorem dL_law_1439 : decode cL_law 1439 = .ok (.i2l, 1) := by decide +kernel
theorem dL_law_1440 : decode cL_law 1440 = .ok (.lcmp, 1) := by decide +kernel
theorem dL_law_1441 : decode cL_law 1441 = .ok (.ifCond .eq 5, 3) := by decide +kernel
theorem dL_law_1444 : decode cL_law 1444 = .ok (.iconst 0, 1) := by decide +kernel
theorem dL_law_1445 : decode cL_law 1445 = .ok (.ireturn, 1) := by decide +kernel
theorem dL_law_1446 : decode cL_law 1446 = .ok (.goto 59, 3) := by decide +kernel
theorem dL_law_1449 : decode cL_law 1449 = .ok (.aload_n 1, 1) := by decide +kernel
theorem dL_law_1450 : decode cL_law 1450 = .ok (.aload_n 0, 1) := by decide +kernel
theorem dL_law_1451 : decode cL_law 1451 = .ok (.iload 4, 2) := by decide +kernel
theorem dL_law_1453 : decode cL_law 1453 = .ok (.iconst 1, 1) := by decide +kernel
theorem dL_law_1454 : decode cL_law 1454 = .ok (.iadd, 1) := by decide +kernel
theorem dL_law_1455 : decode cL_law 1455 = .ok (.iaload, 1) := by decide +kernel
theorem dL_law_1456 : decode cL_law 1456 = .ok (.aload_n 3, 1) := by decide +kernel
theorem dL_law_1457 : decode cL_law 1457 = .ok (.invokestatic 172, 3) := by decide +kernel
theorem dL_law_1460 : decode cL_law 1460 = .ok (.istore 5, 2) := by decide +kernel
theorem dL_law_1462 : decode cL_law 1462 = .ok (.aload_n 2, 1) := by decide +kernel
theorem dL_law_1463 : decode cL_law 1463 = .ok (.aload_n 0, 1) := by decide +kernel
theorem dL_law_1464 : decode cL_law 1464 = .ok (.iload 4, 2) := by decide +kernel
theorem dL_law_1466 : decode cL_law 1466 = .ok (.iconst 1, 1) := by decide +kernel
theorem dL_law_1467 : decode cL_law 1467 = .ok (.iadd, 1) := by decide +kernel
theorem dL_law_1468 : decode cL_law 1468 = .ok (.iaload, 1) := by decide +kernel
theorem dL_law_1469 : decode cL_law 1469 = .ok (.invokevirtual 174, 3) := by decide +kernel
theorem dL_law_1472 : decode cL_law 1472 = .ok (.istore 6, 2) := by decide +kernel
theorem dL_law_1474 : decode cL_law 1474 = .ok (.aload_n 2, 1) := by decide +kernel
theorem dL_law_1475 : decode cL_law 1475 = .ok (.invokevirtual 90, 3) := by decide +kernel
theorem dL_law_1478 : decode cL_law 1478 = .ok (.iload 5, 2) := by decide +kernel
theorem dL_law_1480 : decode cL_law 1480 = .ok (.if_icmp .eq 5, 3) := by decide +kernel
theorem dL_law_1483 : decode cL_law 1483 = .ok (.iconst 0, 1) := by decide +kernel
theorem dL_law_1484 : decode cL_law 1484 = .ok (.ireturn, 1) := by decide +kernel
theorem dL_law_1485 : decode cL_law 1485 = .ok (.iload 5, 2) := by decide +kernel
theorem dL_law_1487 : decode cL_law 1487 = .ok (.ifCond .ne 15, 3) := by decide +kernel
theorem dL_law_1490 : decode cL_law 1490 = .ok (.aload_n 3, 1) := by decide +kernel
theorem dL_law_1491 : decode cL_law 1491 = .ok (.iconst 0, 1) := by decide +kernel
theorem dL_law_1492 : decode cL_law 1492 = .ok (.laload, 1) := by decide +kernel
theorem dL_law_1493 : decode cL_law 1493 = .ok (.iload 6, 2) := by decide +kernel
theorem dL_law_1495 : decode cL_law 1495 = .ok (.i2l, 1) := by decide +kernel
theorem dL_law_1496 : decode cL_law 1496 = .ok (.lcmp, 1) := by decide +kernel
theorem dL_law_1497 : decode cL_law 1497 = .ok (.ifCond .eq 5, 3) := by decide +kernel
theorem dL_law_1500 : decode cL_law 1500 = .ok (.iconst 0, 1) := by decide +kernel
theorem dL_law_1501 : decode cL_law 1501 = .ok (.ireturn, 1) := by decide +kernel
theorem dL_law_1502 : decode cL_law 1502 = .ok (.goto 3, 3) := by decide +kernel
theorem dL_law_1505 : decode cL_law 1505 = .ok (.iinc 4 5, 3) := by decide +kernel
theorem dL_law_1508 : decode cL_law 1508 = .ok (.goto (-1485), 3) := by decide +kernel
theorem dL_law_1511 : decode cL_law 1511 = .ok (.iconst 1, 1) := by decide +kernel
theorem dL_law_1512 : decode cL_law 1512 = .ok (.ireturn, 1) := by decide +kernel
end
section
/-! What every method of this claim shares: the environment, a contract's start, its end, calls that keep the addresses. -/
section KB1
/-- the texts of the class's exceptions, by their places in its pool -/
def kStrs : List (Nat × String) := [(162, "no such issuer"), (168, "day out of range"), (43, "the last day is ahead of the first one"), (48, "limit out of range"), (56, "no place for another issuer"), (63, "the signer is not below the issuer"), (69, "this issuer can't be signed by that one, too"), (166, "no such name"), (84, "pins out of range"), (86, "subject out of range"), (88, "length out of range"), (93, "the issuer can't issue"), (99, "days out of range"), (101, "today would be too late"), (164, "no such certificate"), (132, "no such place")]
/-- what the tables say, at any state of a run: the classes, the array classes, the nest mates' private methods, the texts -/
def kE (D : va_G) (cy : ClassId × ClassId × ClassId) (U : State) : Prop :=
  va_K D vwCl [(cy.1, .int), (cy.2.1, .boolean), (cy.2.2, .long)] U ∧
  va_Nw (.methodLinkNest RX0 44 yX2_weekOf RX2) U ∧ va_Nw (.methodLinkNest RX1 64 yX2_contains RX2) U ∧ va_Nw (.methodLinkNest RX0 55 yX2_contains RX2) U ∧ va_Nw (.methodLinkNest RX0 58 yX2_namesOf RX2) U ∧
  ∀ q ∈ kStrs, ∃ a, vk_R RX2 q.1 q.2 a U
theorem kE.warm {D : va_G} {cy : ClassId × ClassId × ClassId} {s U : State} (hW : s.WarmedH U.vm) (h : kE D cy s) : kE D cy U :=
  ⟨va_K.moved hW.alike h.1, va_Nw.warmM hW h.2.1, va_Nw.warmM hW h.2.2.1, va_Nw.warmM hW h.2.2.2.1, va_Nw.warmM hW h.2.2.2.2.1, fun q hq => (h.2.2.2.2.2 q hq).elim fun a ha => ⟨a, vk_R.warm hW ha⟩⟩
theorem kE.same {D : va_G} {cy : ClassId × ClassId × ClassId} {u U : State} (hv : U.vm = u.vm) (h : kE D cy u) : kE D cy U :=
  ⟨va_K.moved (u := u) (U := U) (by rw [hv]; exact Vm.Alike.refl u.vm) h.1, va_Nw.same rfl hv.symm h.2.1, va_Nw.same rfl hv.symm h.2.2.1, va_Nw.same rfl hv.symm h.2.2.2.1, va_Nw.same rfl hv.symm h.2.2.2.2.1, fun q hq => (h.2.2.2.2.2 q hq).elim fun a ha => ⟨a, vk_R.same hv ha⟩⟩
/-- a contract's start -/
def kPc (D : va_G) (cy : ClassId × ClassId × ClassId) (av : List Value) (w : va_W) (sz : Nat) : Array Value → State → Prop :=
  va_Pc av (fun U => U.heap.size = sz ∧ va_P D vwCl w U.heap ∧ kE D cy U ∧ va_D (fun _ => True) w)
theorem kPc.blind {D : va_G} {cy : ClassId × ClassId × ClassId} {av : List Value} {w : va_W} {sz : Nat} : FrameBlind (kPc D cy av w sz) := by
  intro a U g mk q
  obtain ⟨q0, q1, qP, qK, qD⟩ := q
  exact ⟨q0, q1, qP, kE.same (u := U) (U := U.calling g mk a) rfl qK, qD⟩
/-- a contract: an int (or a boolean) is answered; no cell comes, no address changes -/
def kI (l : Launch) (D : va_G) (cy : ClassId × ClassId × ClassId) (y : MethodName) (wr : List Cond) (rm : Room) (av : List Value) (w : va_W) {S : Type} (post : Int32 → S → Prop) (wf : S → va_W) : Prop :=
  ∀ sz : Nat, Met l y wr rm (kPc D cy av w sz) (va_Qi post (fun u t => va_P D vwCl (wf u) t.heap) (va_A w sz)) 0 0 (va_A w sz)
/-- .. nothing is answered -/
def kV (l : Launch) (D : va_G) (cy : ClassId × ClassId × ClassId) (y : MethodName) (wr : List Cond) (rm : Room) (av : List Value) (w : va_W) {S : Type} (post : S → Prop) (wf : S → va_W) : Prop :=
  ∀ sz : Nat, Met l y wr rm (kPc D cy av w sz) (va_Qv post (fun u t => va_P D vwCl (wf u) t.heap) (va_A w sz)) 0 0 (va_A w sz)
theorem va_P_mem {D : va_G} {cl : List vw_C} {ws : va_W} {H : Heap} : va_P D cl ws H ↔ ∀ q ∈ ws, va_at D cl q H :=
  ⟨fun h q hq => (List.getElem?_of_mem hq).elim fun i hi => h i q hi, fun h _ q hk => h q (List.mem_of_getElem? hk)⟩
theorem va_D.alike {A : Nat → Prop} {ws ws' : va_W} (h : ws'.map (fun q => q.1) = ws.map (fun q => q.1)) (hD : va_D A ws) : va_D A ws' := by
  have key : ∀ (k : Nat) (q : Nat × va_E), ws'[k]? = some q → ∃ q0, ws[k]? = some q0 ∧ q0.1 = q.1 := by
    intro k q hk
    have h1 : (ws'.map (fun q => q.1))[k]? = some q.1 := by rw [List.getElem?_map, hk]; rfl
    rw [h, List.getElem?_map] at h1
    cases hq : ws[k]? with
    | none => rw [hq] at h1; cases h1
    | some q0 => rw [hq] at h1; exact ⟨q0, rfl, Option.some.inj h1⟩
  refine ⟨fun i j x y hi hj hxy => ?_, fun k q hk => ?_⟩
  · obtain ⟨x0, h1, h2⟩ := key i x hi
    obtain ⟨y0, h3, h4⟩ := key j y hj
    exact hD.1 i j x0 y0 h1 h3 (h2.trans (hxy.trans h4.symm))
  · obtain ⟨q0, h1, h2⟩ := key k q hk
    rw [← h2]
    exact hD.2 k q0 h1
theorem k_at_mid {X wc Y : va_W} {j : Nat} {q : Nat × va_E} (hj : wc[j]? = some q) : (X ++ (wc ++ Y))[X.length + j]? = some q := by
  have hjl : j < wc.length := (List.getElem?_eq_some_iff.mp hj).1
  rw [List.getElem?_append_right (Nat.le_add_right _ _), Nat.add_sub_cancel_left, List.getElem?_append_left hjl]
  exact hj
theorem k_D_mid {A : Nat → Prop} {X wc Y : va_W} (h : va_D A (X ++ (wc ++ Y))) : va_D A wc := by
  refine ⟨fun i j x y hi hj hxy => ?_, fun k q hk => h.2 _ q (k_at_mid hk)⟩
  have := h.1 _ _ x y (k_at_mid (X := X) (Y := Y) hi) (k_at_mid (X := X) (Y := Y) hj) hxy
  omega
theorem k_P_mid {D : va_G} {cl : List vw_C} {X wc Y : va_W} {H : Heap} (h : va_P D cl (X ++ (wc ++ Y)) H) : va_P D cl wc H := fun _ q hk => h _ q (k_at_mid hk)
theorem k_apart {A : Nat → Prop} {X wc Y : va_W} (h : va_D A (X ++ (wc ++ Y))) (x : Nat × va_E) (hx : x ∈ X ∨ x ∈ Y) (q : Nat × va_E) (hq : q ∈ wc) : x.1 ≠ q.1 := by
  intro e
  obtain ⟨j, hj⟩ := List.getElem?_of_mem hq
  have hjl : j < wc.length := (List.getElem?_eq_some_iff.mp hj).1
  have hj' := k_at_mid (X := X) (Y := Y) hj
  rcases hx with hx | hx
  · obtain ⟨i, hi⟩ := List.getElem?_of_mem hx
    have hil := (List.getElem?_eq_some_iff.mp hi).1
    have hi' : (X ++ (wc ++ Y))[i]? = some x := by rw [List.getElem?_append_left hil]; exact hi
    have := h.1 i _ x q hi' hj' e
    omega
  · obtain ⟨i, hi⟩ := List.getElem?_of_mem hx
    have hi' : (X ++ (wc ++ Y))[X.length + (wc.length + i)]? = some x := by
      rw [List.getElem?_append_right (Nat.le_add_right _ _), Nat.add_sub_cancel_left, List.getElem?_append_right (Nat.le_add_right _ _), Nat.add_sub_cancel_left]
      exact hi
    have := h.1 _ _ x q hi' hj' e
    omega
/-- behind a call that keeps the addresses: the callee's part is new, the rest is as it was -/
theorem k_upd {D : va_G} {A0 : Nat → Prop} {X wc Y w1 : va_W} {H H1 : Heap} (hP : va_P D vwCl (X ++ (wc ++ Y)) H) (hD : va_D A0 (X ++ (wc ++ Y))) (hk : ∀ q : Nat, q < H.size → ¬ va_A wc H.size q → H1[q]? = H[q]?) (hP1 : va_P D vwCl w1 H1) : va_P D vwCl (X ++ (w1 ++ Y)) H1 := by
  have hP' := va_P_mem.mp hP
  have hP1' := va_P_mem.mp hP1
  refine va_P_mem.mpr ?_
  have out : ∀ q, q ∈ X ∨ q ∈ Y → va_at D vwCl q H1 := by
    intro q hx
    have hat : va_at D vwCl q H := hP' q (by
      rcases hx with h | h
      · exact List.mem_append_left _ h
      · exact List.mem_append_right _ (List.mem_append_right _ h))
    refine hat.kept (hk q.1 hat.lt ?_)
    rintro (⟨k, e, h⟩ | h)
    · exact k_apart hD q hx (q.1, e) (List.mem_of_getElem? h) rfl
    · exact absurd hat.lt (Nat.not_lt.mpr h)
  intro q hq
  rcases List.mem_append.mp hq with h | h
  · exact out q (Or.inl h)
  · rcases List.mem_append.mp h with h | h
    · exact hP1' q h
    · exact out q (Or.inr h)
theorem k_free {A0 : Nat → Prop} {X wc Y : va_W} {H0 H : Heap} {locs : List Loc} (hD : va_D A0 (X ++ (wc ++ Y))) (hS : va_S A0 H0 H locs) (hA : ∀ q : Nat, H0.size ≤ q → A0 q) : ∀ q, va_A wc H.size q → A0 q := by
  rintro q (⟨k, e, h⟩ | h)
  · exact (k_D_mid hD).2 k (q, e) h
  · exact hA q (Nat.le_trans hS.1 h)
theorem k_same {X wc Y w1 : va_W} (h : w1.map (fun q => q.1) = wc.map (fun q => q.1)) : (X ++ (w1 ++ Y)).map (fun q => q.1) = (X ++ (wc ++ Y)).map (fun q => q.1) := by
  simp only [List.map_append, h]
/-- a truth value as an int -/
def bI (P : Prop) [Decidable P] : Int32 := if P then 1 else 0
theorem bI_t {P : Prop} [Decidable P] (h : P) : bI P = 1 := if_pos h
theorem bI_f {P : Prop} [Decidable P] (h : ¬ P) : bI P = 0 := if_neg h
theorem bI_01 (P : Prop) [Decidable P] : bI P = 0 ∨ bI P = 1 := by
  by_cases h : P
  · exact Or.inr (bI_t h)
  · exact Or.inl (bI_f h)
theorem bI_0 {P : Prop} [Decidable P] : bI P = 0 ↔ ¬ P := by
  by_cases h : P
  · rw [bI_t h]; exact ⟨fun q => absurd q (by decide), fun q => absurd h q⟩
  · rw [bI_f h]; exact ⟨fun _ => h, fun _ => rfl⟩
theorem bI_1 {P : Prop} [Decidable P] : bI P = 1 ↔ P := by
  by_cases h : P
  · rw [bI_t h]; exact ⟨fun _ => h, fun _ => rfl⟩
  · rw [bI_f h]; exact ⟨fun q => absurd q (by decide), fun q => absurd q h⟩
theorem bI_cong {P Q : Prop} [Decidable P] [Decidable Q] (h : P ↔ Q) : bI P = bI Q := by
  by_cases hq : Q
  · rw [bI_t hq, bI_t (h.mpr hq)]
  · rw [bI_f hq, bI_f (fun p => hq (h.mp p))]
theorem bI_eq {P : Prop} [Decidable P] {x : Int32} (h1 : P → x = 1) (h0 : ¬ P → x = 0) : x = bI P := by
  by_cases h : P
  · rw [bI_t h, h1 h]
  · rw [bI_f h, h0 h]
theorem k_narrow {r : Int32} (h : r = 0 ∨ r = 1) : narrow .boolean (.int r) = .int r := by
  rcases h with rfl | rfl <;> rfl
end KB1
section KB2
variable {l : Launch} {D : va_G} {cy : ClassId × ClassId × ClassId} {y : MethodName} {wr wr' : List Cond} {rm : Room} {av : List Value} {w : va_W}
set_option maxHeartbeats 4000000 in
theorem kI.of {S : Type} {post : Int32 → S → Prop} {wf : S → va_W} {cc : ByteArray} {maxL : Nat} {rt : FieldType} (hrt : rt = .int ∨ rt = .boolean) (hy : plainName y.cls = true) (hw : wr = Cond.code y cc maxL (some rt) :: wr') (hlen : (lg_sl av).length ≤ maxL)
    (body : ∀ (p : Program) (e : Env) (s : State) (m : MethodId) (args : Array Value) (below : List Frame) (meth : Method) (c : Code) (Q : State → Prop) (A : Nat → Prop) (ls : Array Slot),
      p.tables.exec = Jvm.exec → c.code = cc → c.maxLocals = maxL → s.vm.findClass y.cls = some m.cls → (∀ q ∈ wr, q.before args s = true) → kE D cy s → (∀ q : Nat, s.heap.size ≤ q → A q) → va_P D vwCl w s.heap → va_D A w → lv_has ls maxL (lv_args 0 av) →
      (∀ (H : Heap) (locs : List Loc) (pc : Nat) (ls : Array Slot) (r : Int32) (u : S), decode cc pc = .ok (.ireturn, 1) → (rt = .int ∨ r = 0 ∨ r = 1) → post r u → va_P D vwCl (wf u) H → va_S A s.heap H locs → W p l e rm s m args below meth c H locs 0 0 Q (F0 m pc ls [.int r])) →
      W p l e rm s m args below meth c s.heap [] 0 0 Q (F0 m 0 ls [])) : kI l D cy y wr rm av w post wf := by
  intro sz
  refine Met.ofW (cc := cc) (maxL := maxL) (ret := some rt) hy hw ?_
  intro p e s m args below meth c s₁ B hml hv
  obtain ⟨rfl, hsz, hP, hE, hD0⟩ := hv
  subst hsz
  have hl := lv_entry av (n := maxL) hlen
  rw [lg_entry_eq]
  have hlocks := B.notSynchronized
  refine body p e s m _ below meth c _ (va_A w s.heap.size) _ B.exec B.bytes hml (findClass_of_methodNamed B.named) (atoms_spec (ws := wr) B.pre) hE (fun q h => Or.inr h) hP hD0.self hl ?_
  intro H locs pc ls r u hd h01 hp hPu hS
  rcases hrt with rfl | rfl
  · exact W.iret (v := r) B.exec B.bytes B.returns (fun t ht hW => ⟨⟨r, u, rfl, hp, by show va_P D vwCl (wf u) t.heap; rw [ht]; exact hPu⟩, hS.F ht⟩) hS.2.2 hd
  · refine W.zret (v := r) (ty := .boolean) B.exec B.bytes B.returns (k_narrow ?_) (fun t ht hW => ⟨⟨r, u, rfl, hp, by show va_P D vwCl (wf u) t.heap; rw [ht]; exact hPu⟩, hS.F ht⟩) hS.2.2 hd
    rcases h01 with h | h
    · exact absurd h (by decide)
    · exact h
set_option maxHeartbeats 4000000 in
theorem kV.of {S : Type} {post : S → Prop} {wf : S → va_W} {cc : ByteArray} {maxL : Nat} (hy : plainName y.cls = true) (hw : wr = Cond.code y cc maxL none :: wr') (hlen : (lg_sl av).length ≤ maxL)
    (body : ∀ (p : Program) (e : Env) (s : State) (m : MethodId) (args : Array Value) (below : List Frame) (meth : Method) (c : Code) (Q : State → Prop) (A : Nat → Prop) (ls : Array Slot),
      p.tables.exec = Jvm.exec → c.code = cc → c.maxLocals = maxL → s.vm.findClass y.cls = some m.cls → (∀ q ∈ wr, q.before args s = true) → kE D cy s → (∀ q : Nat, s.heap.size ≤ q → A q) → va_P D vwCl w s.heap → va_D A w → lv_has ls maxL (lv_args 0 av) →
      (∀ (H : Heap) (locs : List Loc) (pc : Nat) (ls : Array Slot) (u : S), decode cc pc = .ok (.return_, 1) → post u → va_P D vwCl (wf u) H → va_S A s.heap H locs → W p l e rm s m args below meth c H locs 0 0 Q (F0 m pc ls [])) →
      W p l e rm s m args below meth c s.heap [] 0 0 Q (F0 m 0 ls [])) : kV l D cy y wr rm av w post wf := by
  intro sz
  refine Met.ofW (cc := cc) (maxL := maxL) (ret := none) hy hw ?_
  intro p e s m args below meth c s₁ B hml hv
  obtain ⟨rfl, hsz, hP, hE, hD0⟩ := hv
  subst hsz
  have hl := lv_entry av (n := maxL) hlen
  rw [lg_entry_eq]
  have hlocks := B.notSynchronized
  refine body p e s m _ below meth c _ (va_A w s.heap.size) _ B.exec B.bytes hml (findClass_of_methodNamed B.named) (atoms_spec (ws := wr) B.pre) hE (fun q h => Or.inr h) hP hD0.self hl ?_
  intro H locs pc ls u hd hp hPu hS
  exact W.vret B.exec B.bytes B.returns (fun t ht hW => ⟨⟨u, rfl, hp, by show va_P D vwCl (wf u) t.heap; rw [ht]; exact hPu⟩, hS.F ht⟩) hS.2.2 hd
end KB2
section KB3
variable {p : Program} {l : Launch} {e : Env} {R : Room} {s : State} {m : MethodId} {args : Array Value} {below : List Frame} {meth : Method} {c : Code} {H H0 : Heap} {locs : List Loc} {cells slots : Nat} {Q : State → Prop}
variable {cc : ByteArray} {nL : Nat} {Ts : List Cond} {own : String} {D : va_G} {cy : ClassId × ClassId × ClassId} {A0 : Nat → Prop}
variable {y : MethodName} {wr wr' : List Cond} {rm : Room} {b : Addr} {As rest st : List Value} {C host : String} {index maxL n : Nat} {bytes : ByteArray} {pc : Nat} {ls : Array Slot}
theorem k_preV {X Y wc : va_W} (hE : kE D cy s) (hP : va_P D vwCl (X ++ (wc ++ Y)) H) (hD : va_D A0 (X ++ (wc ++ Y))) {q0 ci : Nat} {fs : List Value} {q : vw_C} (hc : vwCl[ci]? = some q) (he : wc[q0]? = some (b, .inr (ci, fs))) : PreV s H q.1 b (kPc D cy (.ref b :: As) wc H.size) As :=
  ⟨kPc.blind, va_recv hE.1 (k_P_mid hP) hc he, fun U hU hW => ⟨rfl, by rw [hU], by rw [hU]; exact k_P_mid hP, kE.warm hW hE, (k_D_mid hD).weaken (fun _ _ _ _ => trivial)⟩⟩
theorem k_preS {X Y wc : va_W} (hE : kE D cy s) (hP : va_P D vwCl (X ++ (wc ++ Y)) H) (hD : va_D A0 (X ++ (wc ++ Y))) : PreS s H (kPc D cy As wc H.size) As :=
  ⟨kPc.blind, fun U hU hW => ⟨rfl, by rw [hU], by rw [hU]; exact k_P_mid hP, kE.warm hW hE, (k_D_mid hD).weaken (fun _ _ _ _ => trivial)⟩⟩
/-- a call of a method of an object, that answers an int -/
theorem kcV_i (S0 : CallFix p m c cc nL s args Ts own) (hE : kE D cy s) (hA : ∀ q : Nat, H0.size ≤ q → A0 q) {X wc Y : va_W} (hP : va_P D vwCl (X ++ (wc ++ Y)) H) (hD : va_D A0 (X ++ (wc ++ Y))) (hS : va_S A0 H0 H locs)
    {S : Type} {post : Int32 → S → Prop} {wf : S → va_W} (hM : kI l D cy y wr rm (.ref b :: As) wc post wf) (hsame : ∀ u, (wf u).map (fun q => q.1) = wc.map (fun q => q.1))
    {ret : Option FieldType} {q0 ci : Nat} {fs : List Value} {q : vw_C} (hc : vwCl[ci]? = some q) (he : wc[q0]? = some (b, .inr (ci, fs))) (hT : GoodIn Ts (wsV own index q.1 y wr)) (hw : wr = Cond.code y bytes maxL ret :: wr') (hrc : rm.cells = 0) (hrs : rm.slots = 0)
    (hd : y.cls = q.1 ∧ y.cls ≠ "java/lang/invoke/MethodHandle" ∧ y.cls ≠ "java/lang/invoke/VarHandle" ∧ (parseMethodDescriptor y.desc).map (fun d => d.parameters.length) = some n) (hR : rm.frames + 1 ≤ R.frames ∧ 8 + (maxL + 11) + rm.locals ≤ R.locals)
    (hn : As.length = n) (hsize : ls.size = nL) (hst : st = As.reverse ++ .ref b :: rest) (hW : (rest.map fun v => v.category).sum ≤ 8) (hdg : decode cc pc = .ok (.invokevirtual index, 3)) (hf : cells ≤ R.cells ∧ slots ≤ R.slots)
    (kk : ∀ (r : Int32) (u : S) (H1 : Heap) (locs1 : List Loc), post r u → va_P D vwCl (X ++ (wf u ++ Y)) H1 → va_D A0 (X ++ (wf u ++ Y)) → va_S A0 H0 H1 locs1 → W p l e R s m args below meth c H1 locs1 cells slots Q (F0 m (pc + 3) ls (.int r :: rest))) :
    W p l e R s m args below meth c H locs cells slots Q (F0 m pc ls st) := by
  refine va_calli (va_runV (As := As) (rest := rest) S0 (hM H.size) (cwV n S0.2.2.2.2 hT hw hrc hrs hd hR) (k_preV hE hP hD hc he) rfl hn hsize hst (lv_room hW) hdg hf) hS (fun q _ h => k_free hD hS hA q h) (k_free hD hS hA) ?_
  intro r u t H1 locs1 ht hvm hp hB hz hk hS1
  exact kk r u H1 locs1 hp (k_upd hP hD hk (by rw [← ht]; exact hB)) (va_D.alike (k_same (hsame u)) hD) hS1
theorem kcV_v (S0 : CallFix p m c cc nL s args Ts own) (hE : kE D cy s) (hA : ∀ q : Nat, H0.size ≤ q → A0 q) {X wc Y : va_W} (hP : va_P D vwCl (X ++ (wc ++ Y)) H) (hD : va_D A0 (X ++ (wc ++ Y))) (hS : va_S A0 H0 H locs)
    {S : Type} {post : S → Prop} {wf : S → va_W} (hM : kV l D cy y wr rm (.ref b :: As) wc post wf) (hsame : ∀ u, (wf u).map (fun q => q.1) = wc.map (fun q => q.1))
    {ret : Option FieldType} {q0 ci : Nat} {fs : List Value} {q : vw_C} (hc : vwCl[ci]? = some q) (he : wc[q0]? = some (b, .inr (ci, fs))) (hT : GoodIn Ts (wsV own index q.1 y wr)) (hw : wr = Cond.code y bytes maxL ret :: wr') (hrc : rm.cells = 0) (hrs : rm.slots = 0)
    (hd : y.cls = q.1 ∧ y.cls ≠ "java/lang/invoke/MethodHandle" ∧ y.cls ≠ "java/lang/invoke/VarHandle" ∧ (parseMethodDescriptor y.desc).map (fun d => d.parameters.length) = some n) (hR : rm.frames + 1 ≤ R.frames ∧ 8 + (maxL + 11) + rm.locals ≤ R.locals)
    (hn : As.length = n) (hsize : ls.size = nL) (hst : st = As.reverse ++ .ref b :: rest) (hW : (rest.map fun v => v.category).sum ≤ 8) (hdg : decode cc pc = .ok (.invokevirtual index, 3)) (hf : cells ≤ R.cells ∧ slots ≤ R.slots)
    (kk : ∀ (u : S) (H1 : Heap) (locs1 : List Loc), post u → va_P D vwCl (X ++ (wf u ++ Y)) H1 → va_D A0 (X ++ (wf u ++ Y)) → va_S A0 H0 H1 locs1 → W p l e R s m args below meth c H1 locs1 cells slots Q (F0 m (pc + 3) ls rest)) :
    W p l e R s m args below meth c H locs cells slots Q (F0 m pc ls st) := by
  refine va_callv (va_runV (As := As) (rest := rest) S0 (hM H.size) (cwV n S0.2.2.2.2 hT hw hrc hrs hd hR) (k_preV hE hP hD hc he) rfl hn hsize hst (lv_room hW) hdg hf) hS (fun q _ h => k_free hD hS hA q h) (k_free hD hS hA) ?_
  intro u t H1 locs1 ht hvm hp hB hz hk hS1
  exact kk u H1 locs1 hp (k_upd hP hD hk (by rw [← ht]; exact hB)) (va_D.alike (k_same (hsame u)) hD) hS1
/-- a call of a static method, that answers an int -/
theorem kcS_i (S0 : CallFix p m c cc nL s args Ts own) (hE : kE D cy s) (hA : ∀ q : Nat, H0.size ≤ q → A0 q) {X wc Y : va_W} (hP : va_P D vwCl (X ++ (wc ++ Y)) H) (hD : va_D A0 (X ++ (wc ++ Y))) (hS : va_S A0 H0 H locs)
    {S : Type} {post : Int32 → S → Prop} {wf : S → va_W} (hM : kI l D cy y wr rm As wc post wf) (hsame : ∀ u, (wf u).map (fun q => q.1) = wc.map (fun q => q.1))
    {ret : Option FieldType} (hT : GoodIn Ts (va_wsS own index y wr)) (hw : wr = Cond.code y bytes maxL ret :: wr') (hrc : rm.cells = 0) (hrs : rm.slots = 0)
    (hd : y.cls ≠ "java/lang/invoke/MethodHandle" ∧ y.cls ≠ "java/lang/invoke/VarHandle" ∧ (parseMethodDescriptor y.desc).map (fun d => d.parameters.length) = some n) (hR : rm.frames + 1 ≤ R.frames ∧ 8 + (maxL + 11) + rm.locals ≤ R.locals)
    (hn : As.length = n) (hsize : ls.size = nL) (hst : st = As.reverse ++ rest) (hW : (rest.map fun v => v.category).sum ≤ 8) (hdg : decode cc pc = .ok (.invokestatic index, 3)) (hf : cells ≤ R.cells ∧ slots ≤ R.slots)
    (kk : ∀ (r : Int32) (u : S) (H1 : Heap) (locs1 : List Loc), post r u → va_P D vwCl (X ++ (wf u ++ Y)) H1 → va_D A0 (X ++ (wf u ++ Y)) → va_S A0 H0 H1 locs1 → W p l e R s m args below meth c H1 locs1 cells slots Q (F0 m (pc + 3) ls (.int r :: rest))) :
    W p l e R s m args below meth c H locs cells slots Q (F0 m pc ls st) := by
  refine va_calli (va_runS (As := As) (rest := rest) S0 (hM H.size) (va_cwS n S0.2.2.2.2 hT hw hrc hrs hd hR) (k_preS hE hP hD) rfl hn hsize hst (lv_room hW) hdg hf) hS (fun q _ h => k_free hD hS hA q h) (k_free hD hS hA) ?_
  intro r u t H1 locs1 ht hvm hp hB hz hk hS1
  exact kk r u H1 locs1 hp (k_upd hP hD hk (by rw [← ht]; exact hB)) (va_D.alike (k_same (hsame u)) hD) hS1
/-- a call of a nest mate's private static method, that answers an int -/
theorem kcN_i (S0 : CallFix p m c cc nL s args Ts own) (hE : kE D cy s) (hA : ∀ q : Nat, H0.size ≤ q → A0 q) {X wc Y : va_W} (hP : va_P D vwCl (X ++ (wc ++ Y)) H) (hD : va_D A0 (X ++ (wc ++ Y))) (hS : va_S A0 H0 H locs)
    {S : Type} {post : Int32 → S → Prop} {wf : S → va_W} (hM : kI l D cy y wr rm As wc post wf) (hsame : ∀ u, (wf u).map (fun q => q.1) = wc.map (fun q => q.1))
    {ret : Option FieldType} (hl : va_Nw (.methodLinkNest own index y host) s) (hstat : (Cond.static y).before args s = true) (hini : (Cond.initialized y.cls).before args s = true) (hG : GoodIn Ts wr) (hw : wr = Cond.code y bytes maxL ret :: wr') (hrc : rm.cells = 0) (hrs : rm.slots = 0)
    (hd : y.cls ≠ "java/lang/invoke/MethodHandle" ∧ y.cls ≠ "java/lang/invoke/VarHandle" ∧ (parseMethodDescriptor y.desc).map (fun d => d.parameters.length) = some n) (hR : rm.frames + 1 ≤ R.frames ∧ 8 + (maxL + 11) + rm.locals ≤ R.locals)
    (hn : As.length = n) (hsize : ls.size = nL) (hst : st = As.reverse ++ rest) (hW : (rest.map fun v => v.category).sum ≤ 8) (hdg : decode cc pc = .ok (.invokestatic index, 3)) (hf : cells ≤ R.cells ∧ slots ≤ R.slots)
    (kk : ∀ (r : Int32) (u : S) (H1 : Heap) (locs1 : List Loc), post r u → va_P D vwCl (X ++ (wf u ++ Y)) H1 → va_D A0 (X ++ (wf u ++ Y)) → va_S A0 H0 H1 locs1 → W p l e R s m args below meth c H1 locs1 cells slots Q (F0 m (pc + 3) ls (.int r :: rest))) :
    W p l e R s m args below meth c H locs cells slots Q (F0 m pc ls st) := by
  refine va_calli (va_runSN (As := As) (rest := rest) S0 (hM H.size) ⟨va_cnB n S0.2.2.2.2 hG hw hrc hrs hl hini hd hR, hstat, trivial⟩ (k_preS hE hP hD) rfl hn hsize hst (lv_room hW) hdg hf) hS (fun q _ h => k_free hD hS hA q h) (k_free hD hS hA) ?_
  intro r u t H1 locs1 ht hvm hp hB hz hk hS1
  exact kk r u H1 locs1 hp (k_upd hP hD hk (by rw [← ht]; exact hB)) (va_D.alike (k_same (hsame u)) hD) hS1
end KB3
section KB4
variable {p : Program} {l : Launch} {e : Env} {R : Room} {s : State} {m : MethodId} {args : Array Value} {below : List Frame} {meth : Method} {c : Code} {H H0 : Heap} {locs : List Loc} {cells slots : Nat} {Q : State → Prop}
variable {cc : ByteArray} {pc : Nat} {ls : Array Slot} {rest : List Value} {D : va_G} {cl : List vw_C} {A : Nat → Prop} {a : Nat} {tys : List (ClassId × FieldType)} {ws : va_W}
theorem k_ild (hx : p.tables.exec = Jvm.exec) (hb : c.code = cc) (hK : va_K D cl tys s) (hP : va_P D cl ws H) (q0 t0 : Nat) {cA : ClassId} {n : Nat} {f : Nat → Int32} (ha : ws[q0]? = some (a, .inl (cA, n, .inl f))) (ht : tys[t0]? = some (cA, .int)) {j : Nat} (hj : j < n) (hn : n < 2147483648) (hdg : decode cc pc = .ok (.iaload, 1))
    (kk : W p l e R s m args below meth c H locs cells slots Q (F0 m (pc + 1) ls (.int (f j) :: rest))) : W p l e R s m args below meth c H locs cells slots Q (F0 m pc ls (.int (nI j) :: .ref a :: rest)) := by
  refine va_iald hx hb hK hP q0 t0 ha ht (vp_in_nI hj hn) hdg ?_
  rw [nI_clamp (by omega)]
  exact kk
theorem k_zld (hx : p.tables.exec = Jvm.exec) (hb : c.code = cc) (hK : va_K D cl tys s) (hP : va_P D cl ws H) (q0 t0 : Nat) {cA : ClassId} {n : Nat} {f : Nat → Int32} (ha : ws[q0]? = some (a, .inl (cA, n, .inl f))) (ht : tys[t0]? = some (cA, .boolean)) {j : Nat} (hj : j < n) (hn : n < 2147483648) (hdg : decode cc pc = .ok (.baload, 1))
    (kk : W p l e R s m args below meth c H locs cells slots Q (F0 m (pc + 1) ls (.int (f j) :: rest))) : W p l e R s m args below meth c H locs cells slots Q (F0 m pc ls (.int (nI j) :: .ref a :: rest)) := by
  refine va_zald hx hb hK hP q0 t0 ha ht (vp_in_nI hj hn) hdg ?_
  rw [nI_clamp (by omega)]
  exact kk
theorem k_ist (hx : p.tables.exec = Jvm.exec) (hb : c.code = cc) (hK : va_K D cl tys s) (hP : va_P D cl ws H) (hD : va_D A ws) (hS : va_S A H0 H locs) (q0 t0 : Nat) {cA : ClassId} {n : Nat} {f : Nat → Int32} (ha : ws[q0]? = some (a, .inl (cA, n, .inl f))) (ht : tys[t0]? = some (cA, .int)) {j : Nat} {x : Int32} (hj : j < n) (hn : n < 2147483648) (hdg : decode cc pc = .ok (.iastore, 1))
    (kk : ∀ (H1 : Heap) (locs1 : List Loc), va_P D cl (ws.set q0 (a, .inl (cA, n, .inl (upd f j x)))) H1 → va_D A (ws.set q0 (a, .inl (cA, n, .inl (upd f j x)))) → va_S A H0 H1 locs1 → W p l e R s m args below meth c H1 locs1 cells slots Q (F0 m (pc + 1) ls rest)) : W p l e R s m args below meth c H locs cells slots Q (F0 m pc ls (.int x :: .int (nI j) :: .ref a :: rest)) := by
  refine va_iast hx hb hK hP hD hS q0 t0 ha ht (vp_in_nI hj hn) hdg ?_
  rw [nI_clamp (by omega)]
  exact kk
theorem k_nar {x : Int32} (h : x = 0 ∨ x = 1) : vp_nar .boolean x = x := by
  rcases h with rfl | rfl <;> rfl
theorem k_zst (hx : p.tables.exec = Jvm.exec) (hb : c.code = cc) (hK : va_K D cl tys s) (hP : va_P D cl ws H) (hD : va_D A ws) (hS : va_S A H0 H locs) (q0 t0 : Nat) {cA : ClassId} {n : Nat} {f : Nat → Int32} (ha : ws[q0]? = some (a, .inl (cA, n, .inl f))) (ht : tys[t0]? = some (cA, .boolean)) {j : Nat} {x : Int32} (h01 : x = 0 ∨ x = 1) (hj : j < n) (hn : n < 2147483648) (hdg : decode cc pc = .ok (.bastore, 1))
    (kk : ∀ (H1 : Heap) (locs1 : List Loc), va_P D cl (ws.set q0 (a, .inl (cA, n, .inl (upd f j x)))) H1 → va_D A (ws.set q0 (a, .inl (cA, n, .inl (upd f j x)))) → va_S A H0 H1 locs1 → W p l e R s m args below meth c H1 locs1 cells slots Q (F0 m (pc + 1) ls rest)) : W p l e R s m args below meth c H locs cells slots Q (F0 m pc ls (.int x :: .int (nI j) :: .ref a :: rest)) := by
  refine va_zast hx hb hK hP hD hS q0 t0 ha ht (vp_in_nI hj hn) hdg ?_
  rw [nI_clamp (by omega), k_nar h01]
  exact kk
theorem k_ifeq (hx : p.tables.exec = Jvm.exec) (hb : c.code = cc) {P : Prop} [Decidable P] {off : Int} {tgt : Nat} (hdg : decode cc pc = .ok (.ifCond .eq off, 3)) (ht : (pc : Int) + off = (tgt : Int))
    (kt : ¬ P → W p l e R s m args below meth c H locs cells slots Q (F0 m tgt ls rest)) (kf : P → W p l e R s m args below meth c H locs cells slots Q (F0 m (pc + 3) ls rest)) : W p l e R s m args below meth c H locs cells slots Q (F0 m pc ls (.int (bI P) :: rest)) :=
  lv_if_eq hx hb hdg ht (fun h => kt (bI_0.mp h)) (fun h => kf (Decidable.byContradiction fun q => h (bI_0.mpr q)))
theorem k_ifne (hx : p.tables.exec = Jvm.exec) (hb : c.code = cc) {P : Prop} [Decidable P] {off : Int} {tgt : Nat} (hdg : decode cc pc = .ok (.ifCond .ne off, 3)) (ht : (pc : Int) + off = (tgt : Int))
    (kt : P → W p l e R s m args below meth c H locs cells slots Q (F0 m tgt ls rest)) (kf : ¬ P → W p l e R s m args below meth c H locs cells slots Q (F0 m (pc + 3) ls rest)) : W p l e R s m args below meth c H locs cells slots Q (F0 m pc ls (.int (bI P) :: rest)) :=
  lv_if_ne hx hb hdg ht (fun h => kt (Decidable.byContradiction fun q => h (bI_0.mpr q))) (fun h => kf (bI_0.mp h))
/-- the top is another term for the same number -/
theorem k_top {x z : Int32} (h : x = z) (k : W p l e R s m args below meth c H locs cells slots Q (F0 m pc ls (.int z :: rest))) : W p l e R s m args below meth c H locs cells slots Q (F0 m pc ls (.int x :: rest)) := by
  rw [h]; exact k
end KB4
theorem k_inc (k : Nat) : nI k + Int32.ofInt 1 = nI (k + 1) := by
  rw [show Int32.ofInt 1 = 1 by decide]
  exact (nI_succ k).symm
theorem k_eqN {a b : Nat} (ha : a < 2147483648) (hb : b < 2147483648) (h : nI a = nI b) : a = b := (nI_eq ha hb).mp h
theorem k_neN {a b : Nat} (ha : a < 2147483648) (hb : b < 2147483648) (h : ¬ nI a = nI b) : ¬ a = b := fun q => h ((nI_eq ha hb).mpr q)
theorem k_ltN {a b : Nat} (ha : a < 2147483648) (hb : b < 2147483648) (h : nI a < nI b) : a < b := (nI_ltI ha hb).mp h
theorem k_nltN {a b : Nat} (ha : a < 2147483648) (hb : b < 2147483648) (h : ¬ nI a < nI b) : ¬ a < b := fun q => h ((nI_ltI ha hb).mpr q)
theorem k_leN {a b : Nat} (ha : a < 2147483648) (hb : b < 2147483648) (h : nI a ≤ nI b) : a ≤ b := (nI_leI ha hb).mp h
theorem k_nleN {a b : Nat} (ha : a < 2147483648) (hb : b < 2147483648) (h : ¬ nI a ≤ nI b) : ¬ a ≤ b := fun q => h ((nI_leI ha hb).mpr q)
abbrev krm (f lo : Nat) : Room := { frames := f, cells := 0, slots := 0, locals := lo }
section KB5
variable {p : Program} {l : Launch} {e : Env} {R : Room} {s : State} {m : MethodId} {args : Array Value} {below : List Frame} {meth : Method} {c : Code} {H H0 : Heap} {locs : List Loc} {cells slots : Nat} {Q : State → Prop}
variable {cc : ByteArray} {nL : Nat} {Ts : List Cond} {own : String} {D : va_G} {cy : ClassId × ClassId × ClassId} {A0 : Nat → Prop}
variable {y : MethodName} {wr wr' : List Cond} {rm : Room} {b : Addr} {As rest st : List Value} {C host : String} {index maxL n : Nat} {bytes : ByteArray} {pc : Nat} {ls : Array Slot}
/-- .. of a method whose world is the whole of the caller's -/
theorem kcW_i (S0 : CallFix p m c cc nL s args Ts own) (hE : kE D cy s) (hA : ∀ q : Nat, H0.size ≤ q → A0 q) {wc : va_W} (hP : va_P D vwCl wc H) (hD : va_D A0 wc) (hS : va_S A0 H0 H locs)
    {S : Type} {post : Int32 → S → Prop} {wf : S → va_W} (hM : kI l D cy y wr rm (.ref b :: As) wc post wf) (hsame : ∀ u, (wf u).map (fun q => q.1) = wc.map (fun q => q.1))
    {ret : Option FieldType} {q0 ci : Nat} {fs : List Value} {q : vw_C} (hc : vwCl[ci]? = some q) (he : wc[q0]? = some (b, .inr (ci, fs))) (hT : GoodIn Ts (wsV own index q.1 y wr)) (hw : wr = Cond.code y bytes maxL ret :: wr') (hrc : rm.cells = 0) (hrs : rm.slots = 0)
    (hd : y.cls = q.1 ∧ y.cls ≠ "java/lang/invoke/MethodHandle" ∧ y.cls ≠ "java/lang/invoke/VarHandle" ∧ (parseMethodDescriptor y.desc).map (fun d => d.parameters.length) = some n) (hR : rm.frames + 1 ≤ R.frames ∧ 8 + (maxL + 11) + rm.locals ≤ R.locals)
    (hn : As.length = n) (hsize : ls.size = nL) (hst : st = As.reverse ++ .ref b :: rest) (hW : (rest.map fun v => v.category).sum ≤ 8) (hdg : decode cc pc = .ok (.invokevirtual index, 3)) (hf : cells ≤ R.cells ∧ slots ≤ R.slots)
    (kk : ∀ (r : Int32) (u : S) (H1 : Heap) (locs1 : List Loc), post r u → va_P D vwCl (wf u) H1 → va_D A0 (wf u) → va_S A0 H0 H1 locs1 → W p l e R s m args below meth c H1 locs1 cells slots Q (F0 m (pc + 3) ls (.int r :: rest))) :
    W p l e R s m args below meth c H locs cells slots Q (F0 m pc ls st) := by
  refine kcV_i (X := []) (Y := []) (wc := wc) S0 hE hA (by simpa using hP) (by simpa using hD) hS hM hsame hc he hT hw hrc hrs hd hR hn hsize hst hW hdg hf ?_
  intro r u H1 locs1 hp h1 h2 h3
  exact kk r u H1 locs1 hp (by simpa using h1) (by simpa using h2) h3
theorem kcW_v (S0 : CallFix p m c cc nL s args Ts own) (hE : kE D cy s) (hA : ∀ q : Nat, H0.size ≤ q → A0 q) {wc : va_W} (hP : va_P D vwCl wc H) (hD : va_D A0 wc) (hS : va_S A0 H0 H locs)
    {S : Type} {post : S → Prop} {wf : S → va_W} (hM : kV l D cy y wr rm (.ref b :: As) wc post wf) (hsame : ∀ u, (wf u).map (fun q => q.1) = wc.map (fun q => q.1))
    {ret : Option FieldType} {q0 ci : Nat} {fs : List Value} {q : vw_C} (hc : vwCl[ci]? = some q) (he : wc[q0]? = some (b, .inr (ci, fs))) (hT : GoodIn Ts (wsV own index q.1 y wr)) (hw : wr = Cond.code y bytes maxL ret :: wr') (hrc : rm.cells = 0) (hrs : rm.slots = 0)
    (hd : y.cls = q.1 ∧ y.cls ≠ "java/lang/invoke/MethodHandle" ∧ y.cls ≠ "java/lang/invoke/VarHandle" ∧ (parseMethodDescriptor y.desc).map (fun d => d.parameters.length) = some n) (hR : rm.frames + 1 ≤ R.frames ∧ 8 + (maxL + 11) + rm.locals ≤ R.locals)
    (hn : As.length = n) (hsize : ls.size = nL) (hst : st = As.reverse ++ .ref b :: rest) (hW : (rest.map fun v => v.category).sum ≤ 8) (hdg : decode cc pc = .ok (.invokevirtual index, 3)) (hf : cells ≤ R.cells ∧ slots ≤ R.slots)
    (kk : ∀ (u : S) (H1 : Heap) (locs1 : List Loc), post u → va_P D vwCl (wf u) H1 → va_D A0 (wf u) → va_S A0 H0 H1 locs1 → W p l e R s m args below meth c H1 locs1 cells slots Q (F0 m (pc + 3) ls rest)) :
    W p l e R s m args below meth c H locs cells slots Q (F0 m pc ls st) := by
  refine kcV_v (X := []) (Y := []) (wc := wc) S0 hE hA (by simpa using hP) (by simpa using hD) hS hM hsame hc he hT hw hrc hrs hd hR hn hsize hst hW hdg hf ?_
  intro u H1 locs1 hp h1 h2 h3
  exact kk u H1 locs1 hp (by simpa using h1) (by simpa using h2) h3
end KB5
end
section
/-! The class's methods as functions of numbers. -/
abbrev hasB (set el : Int32) : Prop := ¬ (set >>> (el &&& 31)) &&& 1 = 0
def nmOf (s : Int32) : Int32 := if (16 : Int32) ≤ s then 15 <<< (((s - 16) * 4) &&& 31) else 1 <<< (s &&& 31)
abbrev standsP (fd ed dd : Nat → Int32) (j : Nat) (day : Int32) : Prop := (dd j = -1 ∨ ¬ dd j ≤ day) ∧ ¬ day < fd j ∧ ¬ ed j < day
abbrev heldP (fs ss : Nat → Int32) (j : Nat) (good : Int32) : Prop := fs j = -1 ∨ hasB good (fs j) ∨ (¬ ss j = -1 ∧ hasB good (ss j))
/-- the set of the good ones of the first k issuers -/
def goodM (fs ss fd ed dd : Nat → Int32) (day wo : Int32) : Nat → Int32
  | 0 => 0
  | k + 1 => if ¬ nI k = wo ∧ standsP fd ed dd k day ∧ heldP fs ss k (goodM fs ss fd ed dd day wo k) then goodM fs ss fd ed dd day wo k ||| (1 <<< (nI k &&& 31)) else goodM fs ss fd ed dd day wo k
abbrev ix (x : Int32) : Nat := x.toNatClampNeg
/-- a signer: none, or a number below -/
def sgP (f : Nat → Int32) (i : Nat) : Prop := f i = -1 ∨ (f i = nI (ix (f i)) ∧ ix (f i) < i)
theorem upd_eq (f : Nat → Int32) (k : Nat) (x : Int32) : upd f k x k = x := pk_us
theorem upd_ne (f : Nat → Int32) {k j : Nat} (x : Int32) (h : j ≠ k) : upd f k x j = f j := pk_un h
theorem sgP_upd {f : Nat → Int32} {n : Nat} {x : Int32} (h : ∀ i, i < n → sgP f i) (hx : x = -1 ∨ (x = nI (ix x) ∧ ix x < n)) : ∀ i, i < n + 1 → sgP (upd f n x) i := by
  intro i hi
  unfold sgP
  by_cases e : i = n
  · subst e; rw [upd_eq]; exact hx
  · rw [upd_ne _ _ e]; exact h i (by omega)
theorem ix_nI {g : Nat} (h : g < 2147483648) : ix (nI g) = g := nI_clamp (by omega)
theorem sgP_put {f : Nat → Int32} {n j g : Nat} (h : ∀ i, i < n → sgP f i) (hg : g < j) (hj : j < 2147483648) : ∀ i, i < n → sgP (upd f j (nI g)) i := by
  intro i hi
  unfold sgP
  by_cases e : i = j
  · subst e; rw [upd_eq, ix_nI (by omega)]; exact Or.inr ⟨rfl, hg⟩
  · rw [upd_ne _ _ e]; exact h i hi
def ucEnd (fs ss ed ce : Nat → Int32) (k : Nat) : Int32 :=
  let e0 : Int32 := if fs k = -1 then 5000 else ce (ix (fs k))
  let e1 : Int32 := if ss k = -1 then e0 else (if e0 < ce (ix (ss k)) then ce (ix (ss k)) else e0)
  if ed k < e1 then ed k else e1
def ucCnt (fs ss cw : Nat → Int32) (k : Nat) : Int32 :=
  let c0 : Int32 := if fs k = -1 then 1 else cw (ix (fs k))
  if ss k = -1 then c0 else c0 + cw (ix (ss k))
def ucE (fs ss ed : Nat → Int32) (j : Nat) (ce : Nat → Int32) : Nat → (Nat → Int32)
  | 0 => ce
  | t + 1 => upd (ucE fs ss ed j ce t) (j + t) (ucEnd fs ss ed (ucE fs ss ed j ce t) (j + t))
def ucC (fs ss : Nat → Int32) (j : Nat) (cw : Nat → Int32) : Nat → (Nat → Int32)
  | 0 => cw
  | t + 1 => upd (ucC fs ss j cw t) (j + t) (ucCnt fs ss (ucC fs ss j cw t) (j + t))
abbrev ctEnd (fst len : Nat → Int32) (j : Nat) : Int32 := fst j + len j - 1
abbrev ctDue (fst len off : Nat → Int32) (j : Nat) : Int32 := fst j + len j * 2 / 3 + off j
abbrev waitP (fst len off ren : Nat → Int32) (day : Int32) (j : Nat) : Prop := ¬ day < ctDue fst len off j ∧ ren j = -1 ∧ ¬ ctEnd fst len j < day
def iwN (iss fst : Nat → Int32) (iu wk : Int32) : Nat → Int32
  | 0 => 0
  | k + 1 => if iss k = iu ∧ fst k / 7 = wk then iwN iss fst iu wk k + 1 else iwN iss fst iu wk k
/-- number x goes into the queue below place p, behind all that end no later -/
def insQ (fst len : Nat → Int32) (x : Nat) : (Nat → Int32) → Nat → (Nat → Int32)
  | q, 0 => upd q 0 (nI x)
  | q, p + 1 => if ctEnd fst len (ix (q p)) ≤ ctEnd fst len x then upd q (p + 1) (nI x) else insQ fst len x (upd q (p + 1) (q p)) p
def fqSQ (fst len off ren : Nat → Int32) (day : Int32) (que : Nat → Int32) : Nat → Nat × (Nat → Int32)
  | 0 => (0, que)
  | k + 1 => if waitP fst len off ren day k then ((fqSQ fst len off ren day que k).1 + 1, insQ fst len k (fqSQ fst len off ren day que k).2 (fqSQ fst len off ren day que k).1) else fqSQ fst len off ren day que k
abbrev fqS (fst len off ren : Nat → Int32) (day : Int32) (que : Nat → Int32) (k : Nat) : Nat := (fqSQ fst len off ren day que k).1
abbrev fqQ (fst len off ren : Nat → Int32) (day : Int32) (que : Nat → Int32) (k : Nat) : Nat → Int32 := (fqSQ fst len off ren day que k).2
theorem insQ_ok (fst len : Nat → Int32) (x B : Nat) (hx : x < B) (hB : B < 2147483648) : ∀ (p : Nat) (q : Nat → Int32), (∀ i, i < p → q i = nI (ix (q i)) ∧ ix (q i) < B) → ∀ n, p ≤ n → (∀ i, p < i → i < n + 1 → q i = nI (ix (q i)) ∧ ix (q i) < B) → ∀ i, i < n + 1 → insQ fst len x q p i = nI (ix (insQ fst len x q p i)) ∧ ix (insQ fst len x q p i) < B := by
  intro p
  induction p with
  | zero =>
    intro q h n hn h2 i hi
    unfold insQ
    by_cases e : i = 0
    · subst e; rw [upd_eq, ix_nI (by omega)]; exact ⟨rfl, hx⟩
    · rw [upd_ne _ _ e]; exact h2 i (by omega) hi
  | succ p ih =>
    intro q h n hn h2 i hi
    unfold insQ
    split
    · by_cases e : i = p + 1
      · subst e; rw [upd_eq, ix_nI (by omega)]; exact ⟨rfl, hx⟩
      · rw [upd_ne _ _ e]
        by_cases e2 : i < p + 1
        · exact h i e2
        · exact h2 i (by omega) hi
    · refine ih (upd q (p + 1) (q p)) (fun i hi => ?_) n (by omega) (fun i h3 h4 => ?_) i hi
      · rw [upd_ne _ _ (by omega : i ≠ p + 1)]; exact h i (by omega)
      · by_cases e : i = p + 1
        · subst e; rw [upd_eq]; exact h p (by omega)
        · rw [upd_ne _ _ e]; exact h2 i (by omega) h4
theorem fq_ok (fst len off ren : Nat → Int32) (day : Int32) (que : Nat → Int32) : ∀ k : Nat, k < 2147483648 → fqS fst len off ren day que k ≤ k ∧ ∀ i, i < fqS fst len off ren day que k → fqQ fst len off ren day que k i = nI (ix (fqQ fst len off ren day que k i)) ∧ ix (fqQ fst len off ren day que k i) < k := by
  intro k
  induction k with
  | zero => intro _; exact ⟨Nat.le_refl _, fun i h => absurd h (Nat.not_lt_zero _)⟩
  | succ k ih =>
    intro hk
    obtain ⟨h1, h2⟩ := ih (by omega)
    unfold fqS fqQ fqSQ
    split
    · refine ⟨by show _ + 1 ≤ _; exact Nat.succ_le_succ h1, fun i hi => ?_⟩
      exact insQ_ok fst len k (k + 1) (by omega) (by omega) _ _ (fun i hi => ⟨(h2 i hi).1, Nat.lt_succ_of_lt (h2 i hi).2⟩) _ (Nat.le_refl _) (fun i h3 h4 => absurd h3 (by omega)) i hi
    · exact ⟨Nat.le_succ_of_le h1, fun i hi => ⟨(h2 i hi).1, Nat.lt_succ_of_lt (h2 i hi).2⟩⟩
theorem k_dec (k : Nat) : nI (k + 1) + Int32.ofInt (-1) = nI k := by
  rw [show Int32.ofInt (-1) = -1 by decide]
  exact pk_m1 k
def nhN (iss sb fst len : Nat → Int32) (day good : Int32) : Nat → Int32
  | 0 => 0
  | k + 1 => if ¬ day < fst k ∧ ¬ ctEnd fst len k < day ∧ hasB good (iss k) then nhN iss sb fst len day good k ||| nmOf (sb k) else nhN iss sb fst len day good k
abbrev wT (cy : ClassId × ClassId × ClassId) (a0 a1 a2 a3 a4 a5 a6 a7 a8 : Nat) (fs ss fd ed lm dd ce cw : Nat → Int32) (n : Nat) : va_W := [(a0, .inr (1, [.ref a1, .ref a2, .ref a3, .ref a4, .ref a5, .ref a6, .ref a7, .ref a8, .int (nI n)])), (a1, .inl (cy.1, 8, .inl fs)), (a2, .inl (cy.1, 8, .inl ss)), (a3, .inl (cy.1, 8, .inl fd)), (a4, .inl (cy.1, 8, .inl ed)), (a5, .inl (cy.1, 8, .inl lm)), (a6, .inl (cy.1, 8, .inl dd)), (a7, .inl (cy.1, 8, .inl ce)), (a8, .inl (cy.1, 8, .inl cw))]
abbrev wC (cy : ClassId × ClassId × ClassId) (b0 b1 b2 b3 b4 b5 b6 b7 : Nat) (iss sb fst len off ren que : Nat → Int32) (kc : Nat) : va_W := [(b0, .inr (0, [.ref b1, .ref b2, .ref b3, .ref b4, .ref b5, .ref b6, .ref b7, .int (nI kc)])), (b1, .inl (cy.1, 60, .inl iss)), (b2, .inl (cy.1, 60, .inl sb)), (b3, .inl (cy.1, 60, .inl fst)), (b4, .inl (cy.1, 60, .inl len)), (b5, .inl (cy.1, 60, .inl off)), (b6, .inl (cy.1, 60, .inl ren)), (b7, .inl (cy.1, 60, .inl que))]
abbrev wM (cy : ClassId × ClassId × ClassId) (m0 m1 m2 m3 m4 m5 m6 m7 m8 m9 m10 m11 m12 m13 m14 m15 m16 m17 : Nat) (th td sed : Int32) (mi : Nat) (fr to lim f1 f2 dis pin ag en cm : Nat → Int32) (mc : Nat) (su isu fir lgt ofs rn wsn : Nat → Int32) : va_W := [(m0, .inr (3, [.int th, .int td, .int sed, .int (nI mi), .ref m1, .ref m2, .ref m3, .ref m4, .ref m5, .ref m6, .ref m7, .ref m8, .ref m9, .ref m10, .int (nI mc), .ref m11, .ref m12, .ref m13, .ref m14, .ref m15, .ref m16, .ref m17])), (m1, .inl (cy.1, 8, .inl fr)), (m2, .inl (cy.1, 8, .inl to)), (m3, .inl (cy.1, 8, .inl lim)), (m4, .inl (cy.1, 8, .inl f1)), (m5, .inl (cy.1, 8, .inl f2)), (m6, .inl (cy.1, 8, .inl dis)), (m7, .inl (cy.1, 16, .inl pin)), (m8, .inl (cy.2.1, 8, .inl ag)), (m9, .inl (cy.1, 8, .inl en)), (m10, .inl (cy.1, 8, .inl cm)), (m11, .inl (cy.1, 60, .inl su)), (m12, .inl (cy.1, 60, .inl isu)), (m13, .inl (cy.1, 60, .inl fir)), (m14, .inl (cy.1, 60, .inl lgt)), (m15, .inl (cy.1, 60, .inl ofs)), (m16, .inl (cy.1, 60, .inl rn)), (m17, .inl (cy.2.1, 60, .inl wsn))]
abbrev wH (cy : ClassId × ClassId × ClassId) (h pn a0 a1 a2 a3 a4 a5 a6 a7 a8 b0 b1 b2 b3 b4 b5 b6 b7 : Nat) (fs ss fd ed lm dd ce cw : Nat → Int32) (n : Nat) (iss sb fst len off ren que : Nat → Int32) (kc : Nat) (pins : Nat → Int32) (sd dy : Int32) : va_W := (h, .inr (2, [.ref a0, .ref b0, .ref pn, .int sd, .int dy])) :: (wT cy a0 a1 a2 a3 a4 a5 a6 a7 a8 fs ss fd ed lm dd ce cw n ++ (wC cy b0 b1 b2 b3 b4 b5 b6 b7 iss sb fst len off ren que kc ++ [(pn, .inl (cy.1, 16, .inl pins))]))
theorem k_le0t {a : Nat} (ha : a < 2147483648) (h : nI a ≤ 0) : a = 0 := by
  have := k_leN (a := a) (b := 0) ha (by omega) h
  omega
theorem k_le0f {a : Nat} (ha : a < 2147483648) (h : ¬ nI a ≤ 0) : 0 < a := by
  have := k_nleN (a := a) (b := 0) ha (by omega) h
  omega
theorem k_gt0t {a : Nat} (ha : a < 2147483648) (h : 0 < nI a) : 0 < a := k_ltN (a := 0) (b := a) (by omega) ha h
theorem k_gt0f {a : Nat} (ha : a < 2147483648) (h : ¬ 0 < nI a) : a = 0 := by
  have := k_nltN (a := 0) (b := a) (by omega) ha h
  omega
theorem k_eq0t {a : Nat} (ha : a < 2147483648) (h : nI a = 0) : a = 0 := k_eqN (a := a) (b := 0) ha (by omega) h
theorem k_eq0f {a : Nat} (ha : a < 2147483648) (h : ¬ nI a = 0) : 0 < a := by
  have := k_neN (a := a) (b := 0) ha (by omega) h
  omega
theorem k_ne0t {a : Nat} (ha : a < 2147483648) (h : ¬ nI a = 0) : 0 < a := k_eq0f ha h
theorem k_ne0f {a : Nat} (ha : a < 2147483648) (h : nI a = 0) : a = 0 := k_eq0t ha h
end
section
set_option maxHeartbeats 4000000 in
set_option maxRecDepth 100000 in
theorem c_X2_contains (l : Launch) (D : va_G) (cy : ClassId × ClassId × ClassId) (set_ : Int32) (el : Int32) : kI l D cy yX2_contains wsX2_contains (krm 0 0) [.int set_, .int el] (([] : va_W)) (fun (r : Int32) (u : Unit) => r = bI (hasB set_ el)) (fun _ : Unit => ([] : va_W)) := by
  refine kI.of (cc := cX2_contains) (maxL := 2) (rt := .boolean) (Or.inr rfl) (by decide) rfl (Nat.le_of_ble_eq_true rfl) ?_
  intro p e s m args below meth c Q A ls hx hb hml hown hts hE hA hP hD hl hret
  have hS : va_S A s.heap s.heap [] := va_S.rf
  have hl : lv_has ls 2 [(0, .int set_), (1, .int el)] := hl
  refine lv_iload_n hx hb dX2_contains_0 rfl (lv_at hl 0 rfl) ?_
  refine lv_iload_n hx hb dX2_contains_1 rfl (lv_at hl 1 rfl) ?_
  refine lv_ishr hx hb dX2_contains_2 ?_
  refine lv_iconst (v := 1) hx hb dX2_contains_3 (by decide) ?_
  refine lv_iand hx hb dX2_contains_4 ?_
  refine lv_if_eq (tgt := 12) hx hb dX2_contains_5 (by decide) (fun c_5 => ?_) (fun c_5 => ?_)
  · refine lv_iconst (v := 0) hx hb dX2_contains_12 (by decide) ?_
    exact hret _ _ _ _ 0 () dX2_contains_13 (Or.inr (Or.inl rfl)) (bI_f (by simp [c_5, hasB])).symm hP hS
  · refine lv_iconst (v := 1) hx hb dX2_contains_8 (by decide) ?_
    refine lv_goto (tgt := 13) hx hb dX2_contains_9 (by decide) ?_
    exact hret _ _ _ _ 1 () dX2_contains_13 (Or.inr (Or.inr rfl)) (bI_t (by simp [c_5, hasB])).symm hP hS

set_option maxHeartbeats 4000000 in
set_option maxRecDepth 100000 in
theorem c_X2_weekOf (l : Launch) (D : va_G) (cy : ClassId × ClassId × ClassId) (d : Int32) : kI l D cy yX2_weekOf wsX2_weekOf (krm 0 0) [.int d] (([] : va_W)) (fun (r : Int32) (u : Unit) => r = d / 7) (fun _ : Unit => ([] : va_W)) := by
  refine kI.of (cc := cX2_weekOf) (maxL := 1) (rt := .int) (Or.inl rfl) (by decide) rfl (Nat.le_of_ble_eq_true rfl) ?_
  intro p e s m args below meth c Q A ls hx hb hml hown hts hE hA hP hD hl hret
  have hS : va_S A s.heap s.heap [] := va_S.rf
  have hl : lv_has ls 1 [(0, .int d)] := hl
  refine lv_iload_n hx hb dX2_weekOf_0 rfl (lv_at hl 0 rfl) ?_
  refine lv_bipush (v := 7) hx hb dX2_weekOf_1 (by decide) ?_
  refine lv_idiv hx hb dX2_weekOf_3 (by decide) ?_
  exact hret _ _ _ _ (d / 7) () dX2_weekOf_4 (Or.inl rfl) rfl hP hS

set_option maxHeartbeats 4000000 in
set_option maxRecDepth 100000 in
theorem c_X2_namesOf (l : Launch) (D : va_G) (cy : ClassId × ClassId × ClassId) (su_ : Int32) : kI l D cy yX2_namesOf wsX2_namesOf (krm 0 0) [.int su_] (([] : va_W)) (fun (r : Int32) (u : Unit) => r = nmOf su_) (fun _ : Unit => ([] : va_W)) := by
  refine kI.of (cc := cX2_namesOf) (maxL := 1) (rt := .int) (Or.inl rfl) (by decide) rfl (Nat.le_of_ble_eq_true rfl) ?_
  intro p e s m args below meth c Q A ls hx hb hml hown hts hE hA hP hD hl hret
  have hS : va_S A s.heap s.heap [] := va_S.rf
  have hl : lv_has ls 1 [(0, .int su_)] := hl
  refine lv_iload_n hx hb dX2_namesOf_0 rfl (lv_at hl 0 rfl) ?_
  refine lv_bipush (v := 16) hx hb dX2_namesOf_1 (by decide) ?_
  refine lv_icmp_ge (tgt := 10) hx hb dX2_namesOf_3 (by decide) (fun c_3 => ?_) (fun c_3 => ?_)
  · refine lv_bipush (v := 15) hx hb dX2_namesOf_10 (by decide) ?_
    refine lv_iload_n hx hb dX2_namesOf_12 rfl (lv_at hl 0 rfl) ?_
    refine lv_bipush (v := 16) hx hb dX2_namesOf_13 (by decide) ?_
    refine lv_isub hx hb dX2_namesOf_15 ?_
    refine lv_iconst (v := 4) hx hb dX2_namesOf_16 (by decide) ?_
    refine lv_imul hx hb dX2_namesOf_17 ?_
    refine lv_ishl hx hb dX2_namesOf_18 ?_
    exact hret _ _ _ _ (15 <<< (((su_ - 16) * 4) &&& 31)) () dX2_namesOf_19 (Or.inl rfl) (by rw [nmOf, if_pos c_3]) hP hS
  · refine lv_iconst (v := 1) hx hb dX2_namesOf_6 (by decide) ?_
    refine lv_iload_n hx hb dX2_namesOf_7 rfl (lv_at hl 0 rfl) ?_
    refine lv_ishl hx hb dX2_namesOf_8 ?_
    exact hret _ _ _ _ (1 <<< (su_ &&& 31)) () dX2_namesOf_9 (Or.inl rfl) (by rw [nmOf, if_neg c_3]) hP hS

set_option maxHeartbeats 4000000 in
set_option maxRecDepth 100000 in
theorem c_X1_isFull (l : Launch) (D : va_G) (cy : ClassId × ClassId × ClassId) (a0 a1 a2 a3 a4 a5 a6 a7 a8 : Nat) (fs ss fd ed lm dd ce cw : Nat → Int32) (n : Nat) (hn : n ≤ 8) : kI l D cy yX1_isFull wsX1_isFull (krm 0 0) [.ref a0] (wT cy a0 a1 a2 a3 a4 a5 a6 a7 a8 fs ss fd ed lm dd ce cw n) (fun (r : Int32) (u : Unit) => r = bI (8 ≤ n)) (fun _ : Unit => wT cy a0 a1 a2 a3 a4 a5 a6 a7 a8 fs ss fd ed lm dd ce cw n) := by
  refine kI.of (cc := cX1_isFull) (maxL := 1) (rt := .boolean) (Or.inr rfl) (by decide) rfl (Nat.le_of_ble_eq_true rfl) ?_
  intro p e s m args below meth c Q A ls hx hb hml hown hts hE hA hP hD hl hret
  have hS : va_S A s.heap s.heap [] := va_S.rf
  have hl : lv_has ls 1 [(0, .ref a0)] := hl
  have g_X1 : ∀ w ∈ wsX10, w ∈ wsX1_isFull := by decide +kernel
  have f_36 := hts (.fieldLink RX1 36 "CertHerd$IssuerTable" "count" "I") (by decide +kernel)
  refine lv_aload_n hx hb dX1_isFull_0 rfl (lv_at hl 0 rfl) ?_
  refine va_get (D := D) (ci := 1) (v := .int (nI n)) (C := RX1) (T := TX1) (N := 9) hx hb hts g_X1 hown hE.1 hP 0 rfl rfl 8 (by decide) f_36 (fun _ h9 => h9) rfl dX1_isFull_1 ?_
  refine lv_bipush (v := 8) hx hb dX1_isFull_4 (by decide) ?_
  refine lv_icmp_lt (tgt := 13) hx hb dX1_isFull_6 (by decide) (fun c_6 => ?_) (fun c_6 => ?_)
  · have c_6n : n < 8 := k_ltN (a := n) (b := 8) (by omega) (by omega) c_6
    refine lv_iconst (v := 0) hx hb dX1_isFull_13 (by decide) ?_
    exact hret _ _ _ _ 0 () dX1_isFull_14 (Or.inr (Or.inl rfl)) (bI_f (by omega)).symm hP hS
  · have c_6n : ¬ n < 8 := k_nltN (a := n) (b := 8) (by omega) (by omega) c_6
    refine lv_iconst (v := 1) hx hb dX1_isFull_9 (by decide) ?_
    refine lv_goto (tgt := 14) hx hb dX1_isFull_10 (by decide) ?_
    exact hret _ _ _ _ 1 () dX1_isFull_14 (Or.inr (Or.inr rfl)) (bI_t (by omega)).symm hP hS

set_option maxHeartbeats 4000000 in
set_option maxRecDepth 100000 in
theorem c_X1_isRoot (l : Launch) (D : va_G) (cy : ClassId × ClassId × ClassId) (a0 a1 a2 a3 a4 a5 a6 a7 a8 : Nat) (fs ss fd ed lm dd ce cw : Nat → Int32) (n : Nat) (j : Nat) (hj : j < 8) : kI l D cy yX1_isRoot wsX1_isRoot (krm 0 0) [.ref a0, .int (nI j)] (wT cy a0 a1 a2 a3 a4 a5 a6 a7 a8 fs ss fd ed lm dd ce cw n) (fun (r : Int32) (u : Unit) => r = bI (fs j = -1)) (fun _ : Unit => wT cy a0 a1 a2 a3 a4 a5 a6 a7 a8 fs ss fd ed lm dd ce cw n) := by
  refine kI.of (cc := cX1_isRoot) (maxL := 2) (rt := .boolean) (Or.inr rfl) (by decide) rfl (Nat.le_of_ble_eq_true rfl) ?_
  intro p e s m args below meth c Q A ls hx hb hml hown hts hE hA hP hD hl hret
  have hS : va_S A s.heap s.heap [] := va_S.rf
  have hl : lv_has ls 2 [(0, .ref a0), (1, .int (nI j))] := hl
  have g_X1 : ∀ w ∈ wsX10, w ∈ wsX1_isRoot := by decide +kernel
  have f_11 := hts (.fieldLink RX1 11 "CertHerd$IssuerTable" "firstSigners" "[I") (by decide +kernel)
  refine lv_aload_n hx hb dX1_isRoot_0 rfl (lv_at hl 0 rfl) ?_
  refine va_get (D := D) (ci := 1) (v := .ref a1) (C := RX1) (T := TX1) (N := 9) hx hb hts g_X1 hown hE.1 hP 0 rfl rfl 0 (by decide) f_11 (fun _ h9 => h9) rfl dX1_isRoot_1 ?_
  refine lv_iload_n hx hb dX1_isRoot_4 rfl (lv_at hl 1 rfl) ?_
  refine k_ild hx hb hE.1 hP 1 0 rfl rfl (j := j) (by omega) (by decide) dX1_isRoot_5 ?_
  refine lv_iconst (v := (-1)) hx hb dX1_isRoot_6 (by decide) ?_
  refine lv_icmp_ne (tgt := 14) hx hb dX1_isRoot_7 (by decide) (fun c_7 => ?_) (fun c_7 => ?_)
  · refine lv_iconst (v := 0) hx hb dX1_isRoot_14 (by decide) ?_
    exact hret _ _ _ _ 0 () dX1_isRoot_15 (Or.inr (Or.inl rfl)) (bI_f (by simp [c_7])).symm hP hS
  · refine lv_iconst (v := 1) hx hb dX1_isRoot_10 (by decide) ?_
    refine lv_goto (tgt := 15) hx hb dX1_isRoot_11 (by decide) ?_
    exact hret _ _ _ _ 1 () dX1_isRoot_15 (Or.inr (Or.inr rfl)) (bI_t (by simp [c_7])).symm hP hS

set_option maxHeartbeats 4000000 in
set_option maxRecDepth 100000 in
theorem c_X1_canBeSignedAlsoBy (l : Launch) (D : va_G) (cy : ClassId × ClassId × ClassId) (a0 a1 a2 a3 a4 a5 a6 a7 a8 : Nat) (fs ss fd ed lm dd ce cw : Nat → Int32) (n : Nat) (j : Nat) (sg : Int32) (hj : j < 8) : kI l D cy yX1_canBeSignedAlsoBy wsX1_canBeSignedAlsoBy (krm 1 21) [.ref a0, .int (nI j), .int sg] (wT cy a0 a1 a2 a3 a4 a5 a6 a7 a8 fs ss fd ed lm dd ce cw n) (fun (r : Int32) (u : Unit) => r = bI (¬ fs j = -1 ∧ ss j = -1 ∧ ¬ fs j = sg)) (fun _ : Unit => wT cy a0 a1 a2 a3 a4 a5 a6 a7 a8 fs ss fd ed lm dd ce cw n) := by
  refine kI.of (cc := cX1_canBeSignedAlsoBy) (maxL := 3) (rt := .boolean) (Or.inr rfl) (by decide) rfl (Nat.le_of_ble_eq_true rfl) ?_
  intro p e s m args below meth c Q A ls hx hb hml hown hts hE hA hP hD hl hret
  have hS : va_S A s.heap s.heap [] := va_S.rf
  have hl : lv_has ls 3 [(0, .ref a0), (1, .int (nI j)), (2, .int sg)] := hl
  have g_X1 : ∀ w ∈ wsX10, w ∈ wsX1_canBeSignedAlsoBy := by decide +kernel
  have f_15 := hts (.fieldLink RX1 15 "CertHerd$IssuerTable" "secondSigners" "[I") (by decide +kernel)
  have f_11 := hts (.fieldLink RX1 11 "CertHerd$IssuerTable" "firstSigners" "[I") (by decide +kernel)
  refine lv_aload_n hx hb dX1_canBeSignedAlsoBy_0 rfl (lv_at hl 0 rfl) ?_
  refine lv_iload_n hx hb dX1_canBeSignedAlsoBy_1 rfl (lv_at hl 1 rfl) ?_
  refine kcW_i (n := 1) (wc := wT cy a0 a1 a2 a3 a4 a5 a6 a7 a8 fs ss fd ed lm dd ce cw n) (As := [.int (nI j)]) (rest := []) ⟨hx, hb, hml, hown, hts⟩ hE hA hP hD hS (c_X1_isRoot l D cy a0 a1 a2 a3 a4 a5 a6 a7 a8 fs ss fd ed lm dd ce cw n j (by first | assumption | omega)) (fun _ => rfl) (q0 := 0) (ci := 1) rfl rfl gX1_canBeSignedAlsoBy_X1_isRoot rfl rfl rfl ⟨rfl, by decide, by decide, by decide +kernel⟩ ⟨Nat.le_of_ble_eq_true rfl, Nat.le_of_ble_eq_true rfl⟩ rfl hl.1 rfl (Nat.le_of_ble_eq_true rfl) dX1_canBeSignedAlsoBy_2 ⟨Nat.zero_le _, Nat.zero_le _⟩ (fun r_1 u H locs e_2 hP hD hS => ?_)
  have hP : va_P D vwCl (wT cy a0 a1 a2 a3 a4 a5 a6 a7 a8 fs ss fd ed lm dd ce cw n) H := hP
  have hD : va_D A (wT cy a0 a1 a2 a3 a4 a5 a6 a7 a8 fs ss fd ed lm dd ce cw n) := hD
  have e_2 : r_1 = bI (fs j = -1) := e_2
  subst e_2
  refine k_ifne (tgt := 32) hx hb dX1_canBeSignedAlsoBy_5 (by decide) (fun c_5 => ?_) (fun c_5 => ?_)
  · refine lv_iconst (v := 0) hx hb dX1_canBeSignedAlsoBy_32 (by decide) ?_
    exact hret _ _ _ _ 0 () dX1_canBeSignedAlsoBy_33 (Or.inr (Or.inl rfl)) (bI_f (by simp [c_5])).symm hP hS
  · refine lv_aload_n hx hb dX1_canBeSignedAlsoBy_8 rfl (lv_at hl 0 rfl) ?_
    refine va_get (D := D) (ci := 1) (v := .ref a2) (C := RX1) (T := TX1) (N := 9) hx hb hts g_X1 hown hE.1 hP 0 rfl rfl 1 (by decide) f_15 (fun _ h9 => h9) rfl dX1_canBeSignedAlsoBy_9 ?_
    refine lv_iload_n hx hb dX1_canBeSignedAlsoBy_12 rfl (lv_at hl 1 rfl) ?_
    refine k_ild hx hb hE.1 hP 2 0 rfl rfl (j := j) (by omega) (by decide) dX1_canBeSignedAlsoBy_13 ?_
    refine lv_iconst (v := (-1)) hx hb dX1_canBeSignedAlsoBy_14 (by decide) ?_
    refine lv_icmp_ne (tgt := 32) hx hb dX1_canBeSignedAlsoBy_15 (by decide) (fun c_15 => ?_) (fun c_15 => ?_)
    · refine lv_iconst (v := 0) hx hb dX1_canBeSignedAlsoBy_32 (by decide) ?_
      exact hret _ _ _ _ 0 () dX1_canBeSignedAlsoBy_33 (Or.inr (Or.inl rfl)) (bI_f (by simp [c_5, c_15])).symm hP hS
    · refine lv_aload_n hx hb dX1_canBeSignedAlsoBy_18 rfl (lv_at hl 0 rfl) ?_
      refine va_get (D := D) (ci := 1) (v := .ref a1) (C := RX1) (T := TX1) (N := 9) hx hb hts g_X1 hown hE.1 hP 0 rfl rfl 0 (by decide) f_11 (fun _ h9 => h9) rfl dX1_canBeSignedAlsoBy_19 ?_
      refine lv_iload_n hx hb dX1_canBeSignedAlsoBy_22 rfl (lv_at hl 1 rfl) ?_
      refine k_ild hx hb hE.1 hP 1 0 rfl rfl (j := j) (by omega) (by decide) dX1_canBeSignedAlsoBy_23 ?_
      refine lv_iload_n hx hb dX1_canBeSignedAlsoBy_24 rfl (lv_at hl 2 rfl) ?_
      refine lv_icmp_eq (tgt := 32) hx hb dX1_canBeSignedAlsoBy_25 (by decide) (fun c_25 => ?_) (fun c_25 => ?_)
      · refine lv_iconst (v := 0) hx hb dX1_canBeSignedAlsoBy_32 (by decide) ?_
        exact hret _ _ _ _ 0 () dX1_canBeSignedAlsoBy_33 (Or.inr (Or.inl rfl)) (bI_f (by simp [c_5, c_15, c_25])).symm hP hS
      · refine lv_iconst (v := 1) hx hb dX1_canBeSignedAlsoBy_28 (by decide) ?_
        refine lv_goto (tgt := 33) hx hb dX1_canBeSignedAlsoBy_29 (by decide) ?_
        exact hret _ _ _ _ 1 () dX1_canBeSignedAlsoBy_33 (Or.inr (Or.inr rfl)) (bI_t (by simp [c_5, c_15, c_25])).symm hP hS

set_option maxHeartbeats 4000000 in
set_option maxRecDepth 100000 in
theorem c_X1_standsOn (l : Launch) (D : va_G) (cy : ClassId × ClassId × ClassId) (a0 a1 a2 a3 a4 a5 a6 a7 a8 : Nat) (fs ss fd ed lm dd ce cw : Nat → Int32) (n : Nat) (j : Nat) (day : Int32) (hj : j < 8) : kI l D cy yX1_standsOn wsX1_standsOn (krm 0 0) [.ref a0, .int (nI j), .int day] (wT cy a0 a1 a2 a3 a4 a5 a6 a7 a8 fs ss fd ed lm dd ce cw n) (fun (r : Int32) (u : Unit) => r = bI (standsP fd ed dd j day)) (fun _ : Unit => wT cy a0 a1 a2 a3 a4 a5 a6 a7 a8 fs ss fd ed lm dd ce cw n) := by
  refine kI.of (cc := cX1_standsOn) (maxL := 4) (rt := .boolean) (Or.inr rfl) (by decide) rfl (Nat.le_of_ble_eq_true rfl) ?_
  intro p e s m args below meth c Q A ls hx hb hml hown hts hE hA hP hD hl hret
  have hS : va_S A s.heap s.heap [] := va_S.rf
  have hl : lv_has ls 4 [(0, .ref a0), (1, .int (nI j)), (2, .int day)] := hl
  have g_X1 : ∀ w ∈ wsX10, w ∈ wsX1_standsOn := by decide +kernel
  have f_27 := hts (.fieldLink RX1 27 "CertHerd$IssuerTable" "distrustDays" "[I") (by decide +kernel)
  have f_18 := hts (.fieldLink RX1 18 "CertHerd$IssuerTable" "firstDays" "[I") (by decide +kernel)
  have f_21 := hts (.fieldLink RX1 21 "CertHerd$IssuerTable" "endDays" "[I") (by decide +kernel)
  refine lv_aload_n hx hb dX1_standsOn_0 rfl (lv_at hl 0 rfl) ?_
  refine va_get (D := D) (ci := 1) (v := .ref a6) (C := RX1) (T := TX1) (N := 9) hx hb hts g_X1 hown hE.1 hP 0 rfl rfl 5 (by decide) f_27 (fun _ h9 => h9) rfl dX1_standsOn_1 ?_
  refine lv_iload_n hx hb dX1_standsOn_4 rfl (lv_at hl 1 rfl) ?_
  refine k_ild hx hb hE.1 hP 6 0 rfl rfl (j := j) (by omega) (by decide) dX1_standsOn_5 ?_
  refine lv_iconst (v := (-1)) hx hb dX1_standsOn_6 (by decide) ?_
  refine lv_icmp_eq (tgt := 20) hx hb dX1_standsOn_7 (by decide) (fun c_7 => ?_) (fun c_7 => ?_)
  · refine lv_iconst (v := 1) hx hb dX1_standsOn_20 (by decide) ?_
    refine lv_goto (tgt := 25) hx hb dX1_standsOn_21 (by decide) ?_
    refine lv_istore_n (lv' := [(3, .int 1), (0, .ref a0), (1, .int (nI j)), (2, .int day)]) hx hb dX1_standsOn_25 rfl hl (by decide) rfl (fun ls hl => ?_)
    refine lv_iload_n hx hb dX1_standsOn_26 rfl (lv_at hl 0 rfl) ?_
    refine lv_if_eq (tgt := 54) hx hb dX1_standsOn_27 (by decide) (fun c_27 => absurd c_27 (by decide)) (fun _ => ?_)
    refine lv_aload_n hx hb dX1_standsOn_30 rfl (lv_at hl 1 rfl) ?_
    refine va_get (D := D) (ci := 1) (v := .ref a3) (C := RX1) (T := TX1) (N := 9) hx hb hts g_X1 hown hE.1 hP 0 rfl rfl 2 (by decide) f_18 (fun _ h9 => h9) rfl dX1_standsOn_31 ?_
    refine lv_iload_n hx hb dX1_standsOn_34 rfl (lv_at hl 2 rfl) ?_
    refine k_ild hx hb hE.1 hP 3 0 rfl rfl (j := j) (by omega) (by decide) dX1_standsOn_35 ?_
    refine lv_iload_n hx hb dX1_standsOn_36 rfl (lv_at hl 3 rfl) ?_
    refine lv_icmp_gt (tgt := 54) hx hb dX1_standsOn_37 (by decide) (fun c_37 => ?_) (fun c_37 => ?_)
    · refine lv_iconst (v := 0) hx hb dX1_standsOn_54 (by decide) ?_
      exact hret _ _ _ _ 0 () dX1_standsOn_55 (Or.inr (Or.inl rfl)) (bI_f (by simp [c_7, c_37, standsP])).symm hP hS
    · refine lv_iload_n hx hb dX1_standsOn_40 rfl (lv_at hl 3 rfl) ?_
      refine lv_aload_n hx hb dX1_standsOn_41 rfl (lv_at hl 1 rfl) ?_
      refine va_get (D := D) (ci := 1) (v := .ref a4) (C := RX1) (T := TX1) (N := 9) hx hb hts g_X1 hown hE.1 hP 0 rfl rfl 3 (by decide) f_21 (fun _ h9 => h9) rfl dX1_standsOn_42 ?_
      refine lv_iload_n hx hb dX1_standsOn_45 rfl (lv_at hl 2 rfl) ?_
      refine k_ild hx hb hE.1 hP 4 0 rfl rfl (j := j) (by omega) (by decide) dX1_standsOn_46 ?_
      refine lv_icmp_gt (tgt := 54) hx hb dX1_standsOn_47 (by decide) (fun c_47 => ?_) (fun c_47 => ?_)
      · refine lv_iconst (v := 0) hx hb dX1_standsOn_54 (by decide) ?_
        exact hret _ _ _ _ 0 () dX1_standsOn_55 (Or.inr (Or.inl rfl)) (bI_f (by simp [c_7, c_37, c_47, standsP])).symm hP hS
      · refine lv_iconst (v := 1) hx hb dX1_standsOn_50 (by decide) ?_
        refine lv_goto (tgt := 55) hx hb dX1_standsOn_51 (by decide) ?_
        exact hret _ _ _ _ 1 () dX1_standsOn_55 (Or.inr (Or.inr rfl)) (bI_t (by simp [c_7, c_37, c_47, standsP])).symm hP hS
  · refine lv_iload_n hx hb dX1_standsOn_10 rfl (lv_at hl 2 rfl) ?_
    refine lv_aload_n hx hb dX1_standsOn_11 rfl (lv_at hl 0 rfl) ?_
    refine va_get (D := D) (ci := 1) (v := .ref a6) (C := RX1) (T := TX1) (N := 9) hx hb hts g_X1 hown hE.1 hP 0 rfl rfl 5 (by decide) f_27 (fun _ h9 => h9) rfl dX1_standsOn_12 ?_
    refine lv_iload_n hx hb dX1_standsOn_15 rfl (lv_at hl 1 rfl) ?_
    refine k_ild hx hb hE.1 hP 6 0 rfl rfl (j := j) (by omega) (by decide) dX1_standsOn_16 ?_
    refine lv_icmp_ge (tgt := 24) hx hb dX1_standsOn_17 (by decide) (fun c_17 => ?_) (fun c_17 => ?_)
    · refine lv_iconst (v := 0) hx hb dX1_standsOn_24 (by decide) ?_
      refine lv_istore_n (lv' := [(3, .int 0), (0, .ref a0), (1, .int (nI j)), (2, .int day)]) hx hb dX1_standsOn_25 rfl hl (by decide) rfl (fun ls hl => ?_)
      refine lv_iload_n hx hb dX1_standsOn_26 rfl (lv_at hl 0 rfl) ?_
      refine lv_if_eq (tgt := 54) hx hb dX1_standsOn_27 (by decide) (fun _ => ?_) (fun c_27 => absurd c_27 (by decide))
      refine lv_iconst (v := 0) hx hb dX1_standsOn_54 (by decide) ?_
      exact hret _ _ _ _ 0 () dX1_standsOn_55 (Or.inr (Or.inl rfl)) (bI_f (by simp [c_7, c_17, standsP])).symm hP hS
    · refine lv_iconst (v := 1) hx hb dX1_standsOn_20 (by decide) ?_
      refine lv_goto (tgt := 25) hx hb dX1_standsOn_21 (by decide) ?_
      refine lv_istore_n (lv' := [(3, .int 1), (0, .ref a0), (1, .int (nI j)), (2, .int day)]) hx hb dX1_standsOn_25 rfl hl (by decide) rfl (fun ls hl => ?_)
      refine lv_iload_n hx hb dX1_standsOn_26 rfl (lv_at hl 0 rfl) ?_
      refine lv_if_eq (tgt := 54) hx hb dX1_standsOn_27 (by decide) (fun c_27 => absurd c_27 (by decide)) (fun _ => ?_)
      refine lv_aload_n hx hb dX1_standsOn_30 rfl (lv_at hl 1 rfl) ?_
      refine va_get (D := D) (ci := 1) (v := .ref a3) (C := RX1) (T := TX1) (N := 9) hx hb hts g_X1 hown hE.1 hP 0 rfl rfl 2 (by decide) f_18 (fun _ h9 => h9) rfl dX1_standsOn_31 ?_
      refine lv_iload_n hx hb dX1_standsOn_34 rfl (lv_at hl 2 rfl) ?_
      refine k_ild hx hb hE.1 hP 3 0 rfl rfl (j := j) (by omega) (by decide) dX1_standsOn_35 ?_
      refine lv_iload_n hx hb dX1_standsOn_36 rfl (lv_at hl 3 rfl) ?_
      refine lv_icmp_gt (tgt := 54) hx hb dX1_standsOn_37 (by decide) (fun c_37 => ?_) (fun c_37 => ?_)
      · refine lv_iconst (v := 0) hx hb dX1_standsOn_54 (by decide) ?_
        exact hret _ _ _ _ 0 () dX1_standsOn_55 (Or.inr (Or.inl rfl)) (bI_f (by simp [c_7, c_17, c_37, standsP])).symm hP hS
      · refine lv_iload_n hx hb dX1_standsOn_40 rfl (lv_at hl 3 rfl) ?_
        refine lv_aload_n hx hb dX1_standsOn_41 rfl (lv_at hl 1 rfl) ?_
        refine va_get (D := D) (ci := 1) (v := .ref a4) (C := RX1) (T := TX1) (N := 9) hx hb hts g_X1 hown hE.1 hP 0 rfl rfl 3 (by decide) f_21 (fun _ h9 => h9) rfl dX1_standsOn_42 ?_
        refine lv_iload_n hx hb dX1_standsOn_45 rfl (lv_at hl 2 rfl) ?_
        refine k_ild hx hb hE.1 hP 4 0 rfl rfl (j := j) (by omega) (by decide) dX1_standsOn_46 ?_
        refine lv_icmp_gt (tgt := 54) hx hb dX1_standsOn_47 (by decide) (fun c_47 => ?_) (fun c_47 => ?_)
        · refine lv_iconst (v := 0) hx hb dX1_standsOn_54 (by decide) ?_
          exact hret _ _ _ _ 0 () dX1_standsOn_55 (Or.inr (Or.inl rfl)) (bI_f (by simp [c_7, c_17, c_37, c_47, standsP])).symm hP hS
        · refine lv_iconst (v := 1) hx hb dX1_standsOn_50 (by decide) ?_
          refine lv_goto (tgt := 55) hx hb dX1_standsOn_51 (by decide) ?_
          exact hret _ _ _ _ 1 () dX1_standsOn_55 (Or.inr (Or.inr rfl)) (bI_t (by simp [c_7, c_17, c_37, c_47, standsP])).symm hP hS

set_option maxHeartbeats 4000000 in
set_option maxRecDepth 100000 in
theorem c_X1_isHeldBy (l : Launch) (D : va_G) (cy : ClassId × ClassId × ClassId) (a0 a1 a2 a3 a4 a5 a6 a7 a8 : Nat) (fs ss fd ed lm dd ce cw : Nat → Int32) (n : Nat) (j : Nat) (good : Int32) (hj : j < 8) : kI l D cy yX1_isHeldBy wsX1_isHeldBy (krm 1 21) [.ref a0, .int (nI j), .int good] (wT cy a0 a1 a2 a3 a4 a5 a6 a7 a8 fs ss fd ed lm dd ce cw n) (fun (r : Int32) (u : Unit) => r = bI (heldP fs ss j good)) (fun _ : Unit => wT cy a0 a1 a2 a3 a4 a5 a6 a7 a8 fs ss fd ed lm dd ce cw n) := by
  refine kI.of (cc := cX1_isHeldBy) (maxL := 3) (rt := .boolean) (Or.inr rfl) (by decide) rfl (Nat.le_of_ble_eq_true rfl) ?_
  intro p e s m args below meth c Q A ls hx hb hml hown hts hE hA hP hD hl hret
  have hS : va_S A s.heap s.heap [] := va_S.rf
  have hl : lv_has ls 3 [(0, .ref a0), (1, .int (nI j)), (2, .int good)] := hl
  have g_X1 : ∀ w ∈ wsX10, w ∈ wsX1_isHeldBy := by decide +kernel
  have f_11 := hts (.fieldLink RX1 11 "CertHerd$IssuerTable" "firstSigners" "[I") (by decide +kernel)
  have f_15 := hts (.fieldLink RX1 15 "CertHerd$IssuerTable" "secondSigners" "[I") (by decide +kernel)
  refine lv_aload_n hx hb dX1_isHeldBy_0 rfl (lv_at hl 0 rfl) ?_
  refine lv_iload_n hx hb dX1_isHeldBy_1 rfl (lv_at hl 1 rfl) ?_
  refine kcW_i (n := 1) (wc := wT cy a0 a1 a2 a3 a4 a5 a6 a7 a8 fs ss fd ed lm dd ce cw n) (As := [.int (nI j)]) (rest := []) ⟨hx, hb, hml, hown, hts⟩ hE hA hP hD hS (c_X1_isRoot l D cy a0 a1 a2 a3 a4 a5 a6 a7 a8 fs ss fd ed lm dd ce cw n j (by first | assumption | omega)) (fun _ => rfl) (q0 := 0) (ci := 1) rfl rfl gX1_isHeldBy_X1_isRoot rfl rfl rfl ⟨rfl, by decide, by decide, by decide +kernel⟩ ⟨Nat.le_of_ble_eq_true rfl, Nat.le_of_ble_eq_true rfl⟩ rfl hl.1 rfl (Nat.le_of_ble_eq_true rfl) dX1_isHeldBy_2 ⟨Nat.zero_le _, Nat.zero_le _⟩ (fun r_1 u H locs e_2 hP hD hS => ?_)
  have hP : va_P D vwCl (wT cy a0 a1 a2 a3 a4 a5 a6 a7 a8 fs ss fd ed lm dd ce cw n) H := hP
  have hD : va_D A (wT cy a0 a1 a2 a3 a4 a5 a6 a7 a8 fs ss fd ed lm dd ce cw n) := hD
  have e_2 : r_1 = bI (fs j = -1) := e_2
  subst e_2
  refine k_ifne (tgt := 44) hx hb dX1_isHeldBy_5 (by decide) (fun c_5 => ?_) (fun c_5 => ?_)
  · refine lv_iconst (v := 1) hx hb dX1_isHeldBy_44 (by decide) ?_
    refine lv_goto (tgt := 49) hx hb dX1_isHeldBy_45 (by decide) ?_
    exact hret _ _ _ _ 1 () dX1_isHeldBy_49 (Or.inr (Or.inr rfl)) (bI_t (by simp [c_5, heldP, hasB])).symm hP hS
  · refine lv_iload_n hx hb dX1_isHeldBy_8 rfl (lv_at hl 2 rfl) ?_
    refine lv_aload_n hx hb dX1_isHeldBy_9 rfl (lv_at hl 0 rfl) ?_
    refine va_get (D := D) (ci := 1) (v := .ref a1) (C := RX1) (T := TX1) (N := 9) hx hb hts g_X1 hown hE.1 hP 0 rfl rfl 0 (by decide) f_11 (fun _ h9 => h9) rfl dX1_isHeldBy_10 ?_
    refine lv_iload_n hx hb dX1_isHeldBy_13 rfl (lv_at hl 1 rfl) ?_
    refine k_ild hx hb hE.1 hP 1 0 rfl rfl (j := j) (by omega) (by decide) dX1_isHeldBy_14 ?_
    refine kcN_i (n := 2) (X := []) (wc := []) (Y := wT cy a0 a1 a2 a3 a4 a5 a6 a7 a8 fs ss fd ed lm dd ce cw n) (As := [.int good, .int (fs j)]) (rest := []) ⟨hx, hb, hml, hown, hts⟩ hE hA hP hD hS (c_X2_contains l D cy good (fs j)) (fun _ => rfl) hE.2.2.1 (hts (.static yX2_contains) (by decide +kernel)) (hts (.initialized RX2) (by decide +kernel)) gX1_isHeldBy_X2_contains_n64 rfl rfl rfl ⟨by decide, by decide, by decide +kernel⟩ ⟨Nat.le_of_ble_eq_true rfl, Nat.le_of_ble_eq_true rfl⟩ rfl hl.1 rfl (Nat.le_of_ble_eq_true rfl) dX1_isHeldBy_15 ⟨Nat.zero_le _, Nat.zero_le _⟩ (fun r_3 u H locs e_4 hP hD hS => ?_)
    have hP : va_P D vwCl (wT cy a0 a1 a2 a3 a4 a5 a6 a7 a8 fs ss fd ed lm dd ce cw n) H := hP
    have hD : va_D A (wT cy a0 a1 a2 a3 a4 a5 a6 a7 a8 fs ss fd ed lm dd ce cw n) := hD
    have e_4 : r_3 = bI (hasB good (fs j)) := e_4
    subst e_4
    refine k_ifne (tgt := 44) hx hb dX1_isHeldBy_18 (by decide) (fun c_18 => ?_) (fun c_18 => ?_)
    · refine lv_iconst (v := 1) hx hb dX1_isHeldBy_44 (by decide) ?_
      refine lv_goto (tgt := 49) hx hb dX1_isHeldBy_45 (by decide) ?_
      exact hret _ _ _ _ 1 () dX1_isHeldBy_49 (Or.inr (Or.inr rfl)) (bI_t (by simp [c_5, c_18, heldP, hasB])).symm hP hS
    · refine lv_aload_n hx hb dX1_isHeldBy_21 rfl (lv_at hl 0 rfl) ?_
      refine va_get (D := D) (ci := 1) (v := .ref a2) (C := RX1) (T := TX1) (N := 9) hx hb hts g_X1 hown hE.1 hP 0 rfl rfl 1 (by decide) f_15 (fun _ h9 => h9) rfl dX1_isHeldBy_22 ?_
      refine lv_iload_n hx hb dX1_isHeldBy_25 rfl (lv_at hl 1 rfl) ?_
      refine k_ild hx hb hE.1 hP 2 0 rfl rfl (j := j) (by omega) (by decide) dX1_isHeldBy_26 ?_
      refine lv_iconst (v := (-1)) hx hb dX1_isHeldBy_27 (by decide) ?_
      refine lv_icmp_eq (tgt := 48) hx hb dX1_isHeldBy_28 (by decide) (fun c_28 => ?_) (fun c_28 => ?_)
      · refine lv_iconst (v := 0) hx hb dX1_isHeldBy_48 (by decide) ?_
        exact hret _ _ _ _ 0 () dX1_isHeldBy_49 (Or.inr (Or.inl rfl)) (bI_f (by simp [c_5, c_18, c_28, heldP, hasB])).symm hP hS
      · refine lv_iload_n hx hb dX1_isHeldBy_31 rfl (lv_at hl 2 rfl) ?_
        refine lv_aload_n hx hb dX1_isHeldBy_32 rfl (lv_at hl 0 rfl) ?_
        refine va_get (D := D) (ci := 1) (v := .ref a2) (C := RX1) (T := TX1) (N := 9) hx hb hts g_X1 hown hE.1 hP 0 rfl rfl 1 (by decide) f_15 (fun _ h9 => h9) rfl dX1_isHeldBy_33 ?_
        refine lv_iload_n hx hb dX1_isHeldBy_36 rfl (lv_at hl 1 rfl) ?_
        refine k_ild hx hb hE.1 hP 2 0 rfl rfl (j := j) (by omega) (by decide) dX1_isHeldBy_37 ?_
        refine kcN_i (n := 2) (X := []) (wc := []) (Y := wT cy a0 a1 a2 a3 a4 a5 a6 a7 a8 fs ss fd ed lm dd ce cw n) (As := [.int good, .int (ss j)]) (rest := []) ⟨hx, hb, hml, hown, hts⟩ hE hA hP hD hS (c_X2_contains l D cy good (ss j)) (fun _ => rfl) hE.2.2.1 (hts (.static yX2_contains) (by decide +kernel)) (hts (.initialized RX2) (by decide +kernel)) gX1_isHeldBy_X2_contains_n64 rfl rfl rfl ⟨by decide, by decide, by decide +kernel⟩ ⟨Nat.le_of_ble_eq_true rfl, Nat.le_of_ble_eq_true rfl⟩ rfl hl.1 rfl (Nat.le_of_ble_eq_true rfl) dX1_isHeldBy_38 ⟨Nat.zero_le _, Nat.zero_le _⟩ (fun r_5 u H locs e_6 hP hD hS => ?_)
        have hP : va_P D vwCl (wT cy a0 a1 a2 a3 a4 a5 a6 a7 a8 fs ss fd ed lm dd ce cw n) H := hP
        have hD : va_D A (wT cy a0 a1 a2 a3 a4 a5 a6 a7 a8 fs ss fd ed lm dd ce cw n) := hD
        have e_6 : r_5 = bI (hasB good (ss j)) := e_6
        subst e_6
        refine k_ifeq (tgt := 48) hx hb dX1_isHeldBy_41 (by decide) (fun c_41 => ?_) (fun c_41 => ?_)
        · refine lv_iconst (v := 0) hx hb dX1_isHeldBy_48 (by decide) ?_
          exact hret _ _ _ _ 0 () dX1_isHeldBy_49 (Or.inr (Or.inl rfl)) (bI_f (by simp [c_5, c_18, c_28, c_41, heldP, hasB])).symm hP hS
        · refine lv_iconst (v := 1) hx hb dX1_isHeldBy_44 (by decide) ?_
          refine lv_goto (tgt := 49) hx hb dX1_isHeldBy_45 (by decide) ?_
          exact hret _ _ _ _ 1 () dX1_isHeldBy_49 (Or.inr (Or.inr rfl)) (bI_t (by simp [c_5, c_18, c_28, c_41, heldP, hasB])).symm hP hS

set_option maxHeartbeats 4000000 in
set_option maxRecDepth 100000 in
theorem c_X1_goodOn (l : Launch) (D : va_G) (cy : ClassId × ClassId × ClassId) (a0 a1 a2 a3 a4 a5 a6 a7 a8 : Nat) (fs ss fd ed lm dd ce cw : Nat → Int32) (n : Nat) (day : Int32) (wo : Int32) (hn : n ≤ 8) : kI l D cy yX1_goodOn wsX1_goodOn (krm 2 43) [.ref a0, .int day, .int wo] (wT cy a0 a1 a2 a3 a4 a5 a6 a7 a8 fs ss fd ed lm dd ce cw n) (fun (r : Int32) (u : Unit) => r = goodM fs ss fd ed dd day wo n) (fun _ : Unit => wT cy a0 a1 a2 a3 a4 a5 a6 a7 a8 fs ss fd ed lm dd ce cw n) := by
  refine kI.of (cc := cX1_goodOn) (maxL := 5) (rt := .int) (Or.inl rfl) (by decide) rfl (Nat.le_of_ble_eq_true rfl) ?_
  intro p e s m args below meth c Q A ls hx hb hml hown hts hE hA hP hD hl hret
  have hS : va_S A s.heap s.heap [] := va_S.rf
  have hl : lv_has ls 5 [(0, .ref a0), (1, .int day), (2, .int wo)] := hl
  have g_X1 : ∀ w ∈ wsX10, w ∈ wsX1_goodOn := by decide +kernel
  have f_36 := hts (.fieldLink RX1 36 "CertHerd$IssuerTable" "count" "I") (by decide +kernel)
  refine lv_iconst (v := 0) hx hb dX1_goodOn_0 (by decide) ?_
  refine lv_istore_n (lv' := [(3, .int 0), (0, .ref a0), (1, .int day), (2, .int wo)]) hx hb dX1_goodOn_1 rfl hl (by decide) rfl (fun ls hl => ?_)
  refine lv_iconst (v := 0) hx hb dX1_goodOn_2 (by decide) ?_
  refine lv_istore (lv' := [(4, .int 0), (3, .int 0), (0, .ref a0), (1, .int day), (2, .int wo)]) hx hb dX1_goodOn_3 hl (by decide) rfl (fun ls hl => ?_)
  have L_5 : ∀ (f : Nat) (k : Nat) (g : Int32) (H : Heap) (locs : List Loc) (ls : Array Slot), ((n - k) < f) → (k ≤ n) → (g = goodM fs ss fd ed dd day wo k) → va_P D vwCl (wT cy a0 a1 a2 a3 a4 a5 a6 a7 a8 fs ss fd ed lm dd ce cw n) H → va_D A (wT cy a0 a1 a2 a3 a4 a5 a6 a7 a8 fs ss fd ed lm dd ce cw n) → va_S A s.heap H locs → lv_has ls 5 [(4, .int (nI k)), (3, .int g), (0, .ref a0), (1, .int day), (2, .int wo)] → W p l e (krm 2 43) s m args below meth c H locs 0 0 Q (F0 m 5 ls []) := by
    intro f
    induction f with
    | zero => intro k g H locs ls hf; exact absurd hf (Nat.not_lt_zero _)
    | succ f ih_5 =>
      intro k g H locs ls hf hk eg hP hD hS hl
      refine lv_iload hx hb dX1_goodOn_5 (lv_at hl 0 rfl) ?_
      refine lv_aload_n hx hb dX1_goodOn_7 rfl (lv_at hl 2 rfl) ?_
      refine va_get (D := D) (ci := 1) (v := .int (nI n)) (C := RX1) (T := TX1) (N := 9) hx hb hts g_X1 hown hE.1 hP 0 rfl rfl 8 (by decide) f_36 (fun _ h9 => h9) rfl dX1_goodOn_8 ?_
      refine lv_icmp_ge (tgt := 53) hx hb dX1_goodOn_11 (by decide) (fun c_11 => ?_) (fun c_11 => ?_)
      · have c_11n : n ≤ k := k_leN (a := n) (b := k) (by omega) (by omega) c_11
        refine lv_iload_n hx hb dX1_goodOn_53 rfl (lv_at hl 1 rfl) ?_
        exact hret _ _ _ _ g () dX1_goodOn_54 (Or.inl rfl) (by have e9 : k = n := (by omega); subst e9; exact eg) hP hS
      · have c_11n : ¬ n ≤ k := k_nleN (a := n) (b := k) (by omega) (by omega) c_11
        have hk8 : k < 8 := by omega
        refine lv_iload hx hb dX1_goodOn_14 (lv_at hl 0 rfl) ?_
        refine lv_iload_n hx hb dX1_goodOn_16 rfl (lv_at hl 4 rfl) ?_
        refine lv_icmp_eq (tgt := 47) hx hb dX1_goodOn_17 (by decide) (fun c_17 => ?_) (fun c_17 => ?_)
        · refine lv_iinc (v := (nI (k + 1))) (lv' := [(4, .int (nI (k + 1))), (3, .int g), (0, .ref a0), (1, .int day), (2, .int wo)]) hx hb dX1_goodOn_47 hl (k := 0) rfl (k_inc _) (by decide) rfl (fun ls hl => ?_)
          refine lv_goto (tgt := 5) hx hb dX1_goodOn_50 (by decide) ?_
          exact ih_5 (k + 1) g _ _ ls (by omega) (by omega) (by subst eg; rw [goodM]; exact (if_neg (fun h => h.1 c_17)).symm) hP hD hS (lv_sub hl [0, 1, 2, 3, 4] rfl)
        · refine lv_aload_n hx hb dX1_goodOn_20 rfl (lv_at hl 2 rfl) ?_
          refine lv_iload hx hb dX1_goodOn_21 (lv_at hl 0 rfl) ?_
          refine lv_iload_n hx hb dX1_goodOn_23 rfl (lv_at hl 3 rfl) ?_
          refine kcW_i (n := 2) (wc := wT cy a0 a1 a2 a3 a4 a5 a6 a7 a8 fs ss fd ed lm dd ce cw n) (As := [.int (nI k), .int day]) (rest := []) ⟨hx, hb, hml, hown, hts⟩ hE hA hP hD hS (c_X1_standsOn l D cy a0 a1 a2 a3 a4 a5 a6 a7 a8 fs ss fd ed lm dd ce cw n k day (by first | assumption | omega)) (fun _ => rfl) (q0 := 0) (ci := 1) rfl rfl gX1_goodOn_X1_standsOn rfl rfl rfl ⟨rfl, by decide, by decide, by decide +kernel⟩ ⟨Nat.le_of_ble_eq_true rfl, Nat.le_of_ble_eq_true rfl⟩ rfl hl.1 rfl (Nat.le_of_ble_eq_true rfl) dX1_goodOn_24 ⟨Nat.zero_le _, Nat.zero_le _⟩ (fun r_1 u H locs e_2 hP hD hS => ?_)
          have hP : va_P D vwCl (wT cy a0 a1 a2 a3 a4 a5 a6 a7 a8 fs ss fd ed lm dd ce cw n) H := hP
          have hD : va_D A (wT cy a0 a1 a2 a3 a4 a5 a6 a7 a8 fs ss fd ed lm dd ce cw n) := hD
          have e_2 : r_1 = bI (standsP fd ed dd k day) := e_2
          subst e_2
          refine k_ifeq (tgt := 47) hx hb dX1_goodOn_27 (by decide) (fun c_27 => ?_) (fun c_27 => ?_)
          · refine lv_iinc (v := (nI (k + 1))) (lv' := [(4, .int (nI (k + 1))), (3, .int g), (0, .ref a0), (1, .int day), (2, .int wo)]) hx hb dX1_goodOn_47 hl (k := 0) rfl (k_inc _) (by decide) rfl (fun ls hl => ?_)
            refine lv_goto (tgt := 5) hx hb dX1_goodOn_50 (by decide) ?_
            exact ih_5 (k + 1) g _ _ ls (by omega) (by omega) (by subst eg; rw [goodM]; exact (if_neg (fun h => c_27 h.2.1)).symm) hP hD hS (lv_sub hl [0, 1, 2, 3, 4] rfl)
          · refine lv_aload_n hx hb dX1_goodOn_30 rfl (lv_at hl 2 rfl) ?_
            refine lv_iload hx hb dX1_goodOn_31 (lv_at hl 0 rfl) ?_
            refine lv_iload_n hx hb dX1_goodOn_33 rfl (lv_at hl 1 rfl) ?_
            refine kcW_i (n := 2) (wc := wT cy a0 a1 a2 a3 a4 a5 a6 a7 a8 fs ss fd ed lm dd ce cw n) (As := [.int (nI k), .int g]) (rest := []) ⟨hx, hb, hml, hown, hts⟩ hE hA hP hD hS (c_X1_isHeldBy l D cy a0 a1 a2 a3 a4 a5 a6 a7 a8 fs ss fd ed lm dd ce cw n k g (by first | assumption | omega)) (fun _ => rfl) (q0 := 0) (ci := 1) rfl rfl gX1_goodOn_X1_isHeldBy rfl rfl rfl ⟨rfl, by decide, by decide, by decide +kernel⟩ ⟨Nat.le_of_ble_eq_true rfl, Nat.le_of_ble_eq_true rfl⟩ rfl hl.1 rfl (Nat.le_of_ble_eq_true rfl) dX1_goodOn_34 ⟨Nat.zero_le _, Nat.zero_le _⟩ (fun r_3 u H locs e_4 hP hD hS => ?_)
            have hP : va_P D vwCl (wT cy a0 a1 a2 a3 a4 a5 a6 a7 a8 fs ss fd ed lm dd ce cw n) H := hP
            have hD : va_D A (wT cy a0 a1 a2 a3 a4 a5 a6 a7 a8 fs ss fd ed lm dd ce cw n) := hD
            have e_4 : r_3 = bI (heldP fs ss k g) := e_4
            subst e_4
            refine k_ifeq (tgt := 47) hx hb dX1_goodOn_37 (by decide) (fun c_37 => ?_) (fun c_37 => ?_)
            · refine lv_iinc (v := (nI (k + 1))) (lv' := [(4, .int (nI (k + 1))), (3, .int g), (0, .ref a0), (1, .int day), (2, .int wo)]) hx hb dX1_goodOn_47 hl (k := 0) rfl (k_inc _) (by decide) rfl (fun ls hl => ?_)
              refine lv_goto (tgt := 5) hx hb dX1_goodOn_50 (by decide) ?_
              exact ih_5 (k + 1) g _ _ ls (by omega) (by omega) (by subst eg; rw [goodM]; exact (if_neg (fun h => c_37 h.2.2)).symm) hP hD hS (lv_sub hl [0, 1, 2, 3, 4] rfl)
            · refine lv_iload_n hx hb dX1_goodOn_40 rfl (lv_at hl 1 rfl) ?_
              refine lv_iconst (v := 1) hx hb dX1_goodOn_41 (by decide) ?_
              refine lv_iload hx hb dX1_goodOn_42 (lv_at hl 0 rfl) ?_
              refine lv_ishl hx hb dX1_goodOn_44 ?_
              refine lv_ior hx hb dX1_goodOn_45 ?_
              refine lv_istore_n (lv' := [(3, .int (g ||| (1 <<< ((nI k) &&& 31)))), (4, .int (nI k)), (0, .ref a0), (1, .int day), (2, .int wo)]) hx hb dX1_goodOn_46 rfl hl (by decide) rfl (fun ls hl => ?_)
              refine lv_iinc (v := (nI (k + 1))) (lv' := [(4, .int (nI (k + 1))), (3, .int (g ||| (1 <<< ((nI k) &&& 31)))), (0, .ref a0), (1, .int day), (2, .int wo)]) hx hb dX1_goodOn_47 hl (k := 1) rfl (k_inc _) (by decide) rfl (fun ls hl => ?_)
              refine lv_goto (tgt := 5) hx hb dX1_goodOn_50 (by decide) ?_
              exact ih_5 (k + 1) (g ||| (1 <<< ((nI k) &&& 31))) _ _ ls (by omega) (by omega) (by subst eg; rw [goodM]; exact (if_pos ⟨c_17, c_27, c_37⟩).symm) hP hD hS (lv_sub hl [0, 1, 2, 3, 4] rfl)
  exact L_5 ((n - 0) + 1) 0 0 _ _ ls (Nat.lt_succ_self _) (by omega) rfl hP hD hS (lv_sub hl [0, 1, 2, 3, 4] rfl)

set_option maxHeartbeats 4000000 in
set_option maxRecDepth 100000 in
theorem c_X1_updateChains (l : Launch) (D : va_G) (cy : ClassId × ClassId × ClassId) (a0 a1 a2 a3 a4 a5 a6 a7 a8 : Nat) (fs ss fd ed lm dd ce cw : Nat → Int32) (n : Nat) (j : Nat) (hn : n ≤ 8) (hfs : ∀ i, i < n → sgP fs i) (hss : ∀ i, i < n → sgP ss i) (hj : j ≤ n) : kV l D cy yX1_updateChains wsX1_updateChains (krm 1 21) [.ref a0, .int (nI j)] (wT cy a0 a1 a2 a3 a4 a5 a6 a7 a8 fs ss fd ed lm dd ce cw n) (fun (u : Unit) => True) (fun _ : Unit => wT cy a0 a1 a2 a3 a4 a5 a6 a7 a8 fs ss fd ed lm dd (ucE fs ss ed j ce (n - j)) (ucC fs ss j cw (n - j)) n) := by
  refine kV.of (cc := cX1_updateChains) (maxL := 5) (by decide) rfl (Nat.le_of_ble_eq_true rfl) ?_
  intro p e s m args below meth c Q A ls hx hb hml hown hts hE hA hP hD hl hret
  have hS : va_S A s.heap s.heap [] := va_S.rf
  have hl : lv_has ls 5 [(0, .ref a0), (1, .int (nI j))] := hl
  have g_X1 : ∀ w ∈ wsX10, w ∈ wsX1_updateChains := by decide +kernel
  have f_36 := hts (.fieldLink RX1 36 "CertHerd$IssuerTable" "count" "I") (by decide +kernel)
  have f_30 := hts (.fieldLink RX1 30 "CertHerd$IssuerTable" "chainEnds" "[I") (by decide +kernel)
  have f_11 := hts (.fieldLink RX1 11 "CertHerd$IssuerTable" "firstSigners" "[I") (by decide +kernel)
  have f_33 := hts (.fieldLink RX1 33 "CertHerd$IssuerTable" "chainCounts" "[I") (by decide +kernel)
  have f_15 := hts (.fieldLink RX1 15 "CertHerd$IssuerTable" "secondSigners" "[I") (by decide +kernel)
  have f_21 := hts (.fieldLink RX1 21 "CertHerd$IssuerTable" "endDays" "[I") (by decide +kernel)
  refine lv_iload_n hx hb dX1_updateChains_0 rfl (lv_at hl 1 rfl) ?_
  refine lv_istore_n (lv' := [(2, .int (nI j)), (0, .ref a0), (1, .int (nI j))]) hx hb dX1_updateChains_1 rfl hl (by decide) rfl (fun ls hl => ?_)
  have L_2 : ∀ (f : Nat) (t : Nat) (ce_ : Nat → Int32) (cw_ : Nat → Int32) (H : Heap) (locs : List Loc) (ls : Array Slot), ((n - (j + t)) < f) → (j + t ≤ n) → (ce_ = ucE fs ss ed j ce t) → (cw_ = ucC fs ss j cw t) → va_P D vwCl (wT cy a0 a1 a2 a3 a4 a5 a6 a7 a8 fs ss fd ed lm dd ce_ cw_ n) H → va_D A (wT cy a0 a1 a2 a3 a4 a5 a6 a7 a8 fs ss fd ed lm dd ce_ cw_ n) → va_S A s.heap H locs → lv_has ls 5 [(2, .int (nI (j + t))), (0, .ref a0), (1, .int (nI j))] → W p l e (krm 1 21) s m args below meth c H locs 0 0 Q (F0 m 2 ls []) := by
    intro f
    induction f with
    | zero => intro t ce_ cw_ H locs ls hf; exact absurd hf (Nat.not_lt_zero _)
    | succ f ih_2 =>
      intro t ce_ cw_ H locs ls hf ht ece ecw hP hD hS hl
      refine lv_iload_n hx hb dX1_updateChains_2 rfl (lv_at hl 0 rfl) ?_
      refine lv_aload_n hx hb dX1_updateChains_3 rfl (lv_at hl 1 rfl) ?_
      refine va_get (D := D) (ci := 1) (v := .int (nI n)) (C := RX1) (T := TX1) (N := 9) hx hb hts g_X1 hown hE.1 hP 0 rfl rfl 8 (by decide) f_36 (fun _ h9 => h9) rfl dX1_updateChains_4 ?_
      refine lv_icmp_ge (tgt := 122) hx hb dX1_updateChains_7 (by decide) (fun c_7 => ?_) (fun c_7 => ?_)
      · have c_7n : n ≤ (j + t) := k_leN (a := n) (b := (j + t)) (by omega) (by omega) c_7
        have w_ce : ce_ = ucE fs ss ed j ce (n - j) := (by have e9 : t = n - j := (by omega); subst e9; exact ece)
        have w_cw : cw_ = ucC fs ss j cw (n - j) := (by have e9 : t = n - j := (by omega); subst e9; exact ecw)
        exact hret _ _ _ _ () dX1_updateChains_122 trivial (by show va_P D vwCl (wT cy a0 a1 a2 a3 a4 a5 a6 a7 a8 fs ss fd ed lm dd (ucE fs ss ed j ce (n - j)) (ucC fs ss j cw (n - j)) n) _; rw [← w_ce, ← w_cw]; exact hP) hS
      · have c_7n : ¬ n ≤ (j + t) := k_nleN (a := n) (b := (j + t)) (by omega) (by omega) c_7
        have hk8 : j + t < 8 := by omega
        have hkn : j + t < n := by omega
        refine lv_sipush (v := 5000) hx hb dX1_updateChains_10 (by decide) ?_
        refine lv_istore_n (lv' := [(3, .int 5000), (2, .int (nI (j + t))), (0, .ref a0), (1, .int (nI j))]) hx hb dX1_updateChains_13 rfl hl (by decide) rfl (fun ls hl => ?_)
        refine lv_iconst (v := 1) hx hb dX1_updateChains_14 (by decide) ?_
        refine lv_istore (lv' := [(4, .int 1), (3, .int 5000), (2, .int (nI (j + t))), (0, .ref a0), (1, .int (nI j))]) hx hb dX1_updateChains_15 hl (by decide) rfl (fun ls hl => ?_)
        refine lv_aload_n hx hb dX1_updateChains_17 rfl (lv_at hl 3 rfl) ?_
        refine lv_iload_n hx hb dX1_updateChains_18 rfl (lv_at hl 2 rfl) ?_
        refine kcW_i (n := 1) (wc := wT cy a0 a1 a2 a3 a4 a5 a6 a7 a8 fs ss fd ed lm dd ce_ cw_ n) (As := [.int (nI (j + t))]) (rest := []) ⟨hx, hb, hml, hown, hts⟩ hE hA hP hD hS (c_X1_isRoot l D cy a0 a1 a2 a3 a4 a5 a6 a7 a8 fs ss fd ed lm dd ce_ cw_ n (j + t) (by first | assumption | omega)) (fun _ => rfl) (q0 := 0) (ci := 1) rfl rfl gX1_updateChains_X1_isRoot rfl rfl rfl ⟨rfl, by decide, by decide, by decide +kernel⟩ ⟨Nat.le_of_ble_eq_true rfl, Nat.le_of_ble_eq_true rfl⟩ rfl hl.1 rfl (Nat.le_of_ble_eq_true rfl) dX1_updateChains_19 ⟨Nat.zero_le _, Nat.zero_le _⟩ (fun r_1 u H locs e_2 hP hD hS => ?_)
        have hP : va_P D vwCl (wT cy a0 a1 a2 a3 a4 a5 a6 a7 a8 fs ss fd ed lm dd ce_ cw_ n) H := hP
        have hD : va_D A (wT cy a0 a1 a2 a3 a4 a5 a6 a7 a8 fs ss fd ed lm dd ce_ cw_ n) := hD
        have e_2 : r_1 = bI (fs (j + t) = -1) := e_2
        subst e_2
        refine k_ifne (tgt := 50) hx hb dX1_updateChains_22 (by decide) (fun c_22 => ?_) (fun c_22 => ?_)
        · refine lv_aload_n hx hb dX1_updateChains_50 rfl (lv_at hl 3 rfl) ?_
          refine va_get (D := D) (ci := 1) (v := .ref a2) (C := RX1) (T := TX1) (N := 9) hx hb hts g_X1 hown hE.1 hP 0 rfl rfl 1 (by decide) f_15 (fun _ h9 => h9) rfl dX1_updateChains_51 ?_
          refine lv_iload_n hx hb dX1_updateChains_54 rfl (lv_at hl 2 rfl) ?_
          refine k_ild hx hb hE.1 hP 2 0 rfl rfl (j := (j + t)) (by omega) (by decide) dX1_updateChains_55 ?_
          refine lv_iconst (v := (-1)) hx hb dX1_updateChains_56 (by decide) ?_
          refine lv_icmp_eq (tgt := 92) hx hb dX1_updateChains_57 (by decide) (fun c_57 => ?_) (fun c_57 => ?_)
          · refine lv_aload_n hx hb dX1_updateChains_92 rfl (lv_at hl 3 rfl) ?_
            refine va_get (D := D) (ci := 1) (v := .ref a7) (C := RX1) (T := TX1) (N := 9) hx hb hts g_X1 hown hE.1 hP 0 rfl rfl 6 (by decide) f_30 (fun _ h9 => h9) rfl dX1_updateChains_93 ?_
            refine lv_iload_n hx hb dX1_updateChains_96 rfl (lv_at hl 2 rfl) ?_
            refine lv_iload_n hx hb dX1_updateChains_97 rfl (lv_at hl 1 rfl) ?_
            refine lv_aload_n hx hb dX1_updateChains_98 rfl (lv_at hl 3 rfl) ?_
            refine va_get (D := D) (ci := 1) (v := .ref a4) (C := RX1) (T := TX1) (N := 9) hx hb hts g_X1 hown hE.1 hP 0 rfl rfl 3 (by decide) f_21 (fun _ h9 => h9) rfl dX1_updateChains_99 ?_
            refine lv_iload_n hx hb dX1_updateChains_102 rfl (lv_at hl 2 rfl) ?_
            refine k_ild hx hb hE.1 hP 4 0 rfl rfl (j := (j + t)) (by omega) (by decide) dX1_updateChains_103 ?_
            refine va_mmin (ls := ls) hx hb (by rw [hml]; exact hl.1.symm) hown (hts (.methodLink RX1 54 Lib.Math.min.name) (by decide +kernel)) (hts (.static Lib.Math.min.name) (by decide +kernel)) (hts (.initialized "java/lang/Math") (by decide +kernel)) (hts (.code Lib.Math.min.name Lib.Math.min.code 2 (some .int)) (by decide +kernel)) (Nat.le_of_ble_eq_true rfl) (Nat.le_of_ble_eq_true rfl) (Nat.zero_le _) (Nat.zero_le _) dX1_updateChains_104 ?_
            refine k_ist hx hb hE.1 hP hD hS 7 0 rfl rfl (j := (j + t)) (by omega) (by decide) dX1_updateChains_107 (fun H locs hP hD hS => ?_)
            have hP : va_P D vwCl (wT cy a0 a1 a2 a3 a4 a5 a6 a7 a8 fs ss fd ed lm dd (upd ce_ (j + t) (if (ed (j + t)) < 5000 then (ed (j + t)) else 5000)) cw_ n) H := hP
            have hD : va_D A (wT cy a0 a1 a2 a3 a4 a5 a6 a7 a8 fs ss fd ed lm dd (upd ce_ (j + t) (if (ed (j + t)) < 5000 then (ed (j + t)) else 5000)) cw_ n) := hD
            refine lv_aload_n hx hb dX1_updateChains_108 rfl (lv_at hl 3 rfl) ?_
            refine va_get (D := D) (ci := 1) (v := .ref a8) (C := RX1) (T := TX1) (N := 9) hx hb hts g_X1 hown hE.1 hP 0 rfl rfl 7 (by decide) f_33 (fun _ h9 => h9) rfl dX1_updateChains_109 ?_
            refine lv_iload_n hx hb dX1_updateChains_112 rfl (lv_at hl 2 rfl) ?_
            refine lv_iload hx hb dX1_updateChains_113 (lv_at hl 0 rfl) ?_
            refine k_ist hx hb hE.1 hP hD hS 8 0 rfl rfl (j := (j + t)) (by omega) (by decide) dX1_updateChains_115 (fun H locs hP hD hS => ?_)
            have hP : va_P D vwCl (wT cy a0 a1 a2 a3 a4 a5 a6 a7 a8 fs ss fd ed lm dd (upd ce_ (j + t) (if (ed (j + t)) < 5000 then (ed (j + t)) else 5000)) (upd cw_ (j + t) 1) n) H := hP
            have hD : va_D A (wT cy a0 a1 a2 a3 a4 a5 a6 a7 a8 fs ss fd ed lm dd (upd ce_ (j + t) (if (ed (j + t)) < 5000 then (ed (j + t)) else 5000)) (upd cw_ (j + t) 1) n) := hD
            refine lv_iinc (v := (nI (j + t + 1))) (lv' := [(2, .int (nI (j + t + 1))), (4, .int 1), (3, .int 5000), (0, .ref a0), (1, .int (nI j))]) hx hb dX1_updateChains_116 hl (k := 2) rfl (k_inc _) (by decide) rfl (fun ls hl => ?_)
            refine lv_goto (tgt := 2) hx hb dX1_updateChains_119 (by decide) ?_
            exact ih_2 (t + 1) (upd ce_ (j + t) (if (ed (j + t)) < 5000 then (ed (j + t)) else 5000)) (upd cw_ (j + t) 1) _ _ ls (by omega) (by omega) (by subst ece; rw [ucE]; congr 1; simp [ucEnd, c_7, c_22, c_57]) (by subst ecw; rw [ucC]; congr 1; simp [ucCnt, c_7, c_22, c_57]) hP hD hS (lv_sub hl [0, 3, 4] rfl)
          · obtain ⟨q3, q4⟩ := (hss _ hkn).resolve_left c_57
            refine lv_iload_n hx hb dX1_updateChains_60 rfl (lv_at hl 1 rfl) ?_
            refine lv_aload_n hx hb dX1_updateChains_61 rfl (lv_at hl 3 rfl) ?_
            refine va_get (D := D) (ci := 1) (v := .ref a7) (C := RX1) (T := TX1) (N := 9) hx hb hts g_X1 hown hE.1 hP 0 rfl rfl 6 (by decide) f_30 (fun _ h9 => h9) rfl dX1_updateChains_62 ?_
            refine lv_aload_n hx hb dX1_updateChains_65 rfl (lv_at hl 3 rfl) ?_
            refine va_get (D := D) (ci := 1) (v := .ref a2) (C := RX1) (T := TX1) (N := 9) hx hb hts g_X1 hown hE.1 hP 0 rfl rfl 1 (by decide) f_15 (fun _ h9 => h9) rfl dX1_updateChains_66 ?_
            refine lv_iload_n hx hb dX1_updateChains_69 rfl (lv_at hl 2 rfl) ?_
            refine k_ild hx hb hE.1 hP 2 0 rfl rfl (j := (j + t)) (by omega) (by decide) dX1_updateChains_70 ?_
            refine k_top (z := nI (ix (ss (j + t)))) q3 ?_
            refine k_ild hx hb hE.1 hP 7 0 rfl rfl (j := (ix (ss (j + t)))) (by omega) (by decide) dX1_updateChains_71 ?_
            refine va_mmax (ls := ls) hx hb (by rw [hml]; exact hl.1.symm) hown (hts (.methodLink RX1 48 Lib.Math.max.name) (by decide +kernel)) (hts (.static Lib.Math.max.name) (by decide +kernel)) (hts (.initialized "java/lang/Math") (by decide +kernel)) (hts (.code Lib.Math.max.name Lib.Math.max.code 2 (some .int)) (by decide +kernel)) (Nat.le_of_ble_eq_true rfl) (Nat.le_of_ble_eq_true rfl) (Nat.zero_le _) (Nat.zero_le _) dX1_updateChains_72 ?_
            refine lv_istore_n (lv' := [(3, .int (if 5000 < (ce_ (ix (ss (j + t)))) then (ce_ (ix (ss (j + t)))) else 5000)), (4, .int 1), (2, .int (nI (j + t))), (0, .ref a0), (1, .int (nI j))]) hx hb dX1_updateChains_75 rfl hl (by decide) rfl (fun ls hl => ?_)
            refine lv_iload hx hb dX1_updateChains_76 (lv_at hl 1 rfl) ?_
            refine lv_aload_n hx hb dX1_updateChains_78 rfl (lv_at hl 3 rfl) ?_
            refine va_get (D := D) (ci := 1) (v := .ref a8) (C := RX1) (T := TX1) (N := 9) hx hb hts g_X1 hown hE.1 hP 0 rfl rfl 7 (by decide) f_33 (fun _ h9 => h9) rfl dX1_updateChains_79 ?_
            refine lv_aload_n hx hb dX1_updateChains_82 rfl (lv_at hl 3 rfl) ?_
            refine va_get (D := D) (ci := 1) (v := .ref a2) (C := RX1) (T := TX1) (N := 9) hx hb hts g_X1 hown hE.1 hP 0 rfl rfl 1 (by decide) f_15 (fun _ h9 => h9) rfl dX1_updateChains_83 ?_
            refine lv_iload_n hx hb dX1_updateChains_86 rfl (lv_at hl 2 rfl) ?_
            refine k_ild hx hb hE.1 hP 2 0 rfl rfl (j := (j + t)) (by omega) (by decide) dX1_updateChains_87 ?_
            refine k_top (z := nI (ix (ss (j + t)))) q3 ?_
            refine k_ild hx hb hE.1 hP 8 0 rfl rfl (j := (ix (ss (j + t)))) (by omega) (by decide) dX1_updateChains_88 ?_
            refine lv_iadd hx hb dX1_updateChains_89 ?_
            refine lv_istore (lv' := [(4, .int (1 + (cw_ (ix (ss (j + t)))))), (3, .int (if 5000 < (ce_ (ix (ss (j + t)))) then (ce_ (ix (ss (j + t)))) else 5000)), (2, .int (nI (j + t))), (0, .ref a0), (1, .int (nI j))]) hx hb dX1_updateChains_90 hl (by decide) rfl (fun ls hl => ?_)
            refine lv_aload_n hx hb dX1_updateChains_92 rfl (lv_at hl 3 rfl) ?_
            refine va_get (D := D) (ci := 1) (v := .ref a7) (C := RX1) (T := TX1) (N := 9) hx hb hts g_X1 hown hE.1 hP 0 rfl rfl 6 (by decide) f_30 (fun _ h9 => h9) rfl dX1_updateChains_93 ?_
            refine lv_iload_n hx hb dX1_updateChains_96 rfl (lv_at hl 2 rfl) ?_
            refine lv_iload_n hx hb dX1_updateChains_97 rfl (lv_at hl 1 rfl) ?_
            refine lv_aload_n hx hb dX1_updateChains_98 rfl (lv_at hl 3 rfl) ?_
            refine va_get (D := D) (ci := 1) (v := .ref a4) (C := RX1) (T := TX1) (N := 9) hx hb hts g_X1 hown hE.1 hP 0 rfl rfl 3 (by decide) f_21 (fun _ h9 => h9) rfl dX1_updateChains_99 ?_
            refine lv_iload_n hx hb dX1_updateChains_102 rfl (lv_at hl 2 rfl) ?_
            refine k_ild hx hb hE.1 hP 4 0 rfl rfl (j := (j + t)) (by omega) (by decide) dX1_updateChains_103 ?_
            refine va_mmin (ls := ls) hx hb (by rw [hml]; exact hl.1.symm) hown (hts (.methodLink RX1 54 Lib.Math.min.name) (by decide +kernel)) (hts (.static Lib.Math.min.name) (by decide +kernel)) (hts (.initialized "java/lang/Math") (by decide +kernel)) (hts (.code Lib.Math.min.name Lib.Math.min.code 2 (some .int)) (by decide +kernel)) (Nat.le_of_ble_eq_true rfl) (Nat.le_of_ble_eq_true rfl) (Nat.zero_le _) (Nat.zero_le _) dX1_updateChains_104 ?_
            refine k_ist hx hb hE.1 hP hD hS 7 0 rfl rfl (j := (j + t)) (by omega) (by decide) dX1_updateChains_107 (fun H locs hP hD hS => ?_)
            have hP : va_P D vwCl (wT cy a0 a1 a2 a3 a4 a5 a6 a7 a8 fs ss fd ed lm dd (upd ce_ (j + t) (if (ed (j + t)) < (if 5000 < (ce_ (ix (ss (j + t)))) then (ce_ (ix (ss (j + t)))) else 5000) then (ed (j + t)) else (if 5000 < (ce_ (ix (ss (j + t)))) then (ce_ (ix (ss (j + t)))) else 5000))) cw_ n) H := hP
            have hD : va_D A (wT cy a0 a1 a2 a3 a4 a5 a6 a7 a8 fs ss fd ed lm dd (upd ce_ (j + t) (if (ed (j + t)) < (if 5000 < (ce_ (ix (ss (j + t)))) then (ce_ (ix (ss (j + t)))) else 5000) then (ed (j + t)) else (if 5000 < (ce_ (ix (ss (j + t)))) then (ce_ (ix (ss (j + t)))) else 5000))) cw_ n) := hD
            refine lv_aload_n hx hb dX1_updateChains_108 rfl (lv_at hl 3 rfl) ?_
            refine va_get (D := D) (ci := 1) (v := .ref a8) (C := RX1) (T := TX1) (N := 9) hx hb hts g_X1 hown hE.1 hP 0 rfl rfl 7 (by decide) f_33 (fun _ h9 => h9) rfl dX1_updateChains_109 ?_
            refine lv_iload_n hx hb dX1_updateChains_112 rfl (lv_at hl 2 rfl) ?_
            refine lv_iload hx hb dX1_updateChains_113 (lv_at hl 0 rfl) ?_
            refine k_ist hx hb hE.1 hP hD hS 8 0 rfl rfl (j := (j + t)) (by omega) (by decide) dX1_updateChains_115 (fun H locs hP hD hS => ?_)
            have hP : va_P D vwCl (wT cy a0 a1 a2 a3 a4 a5 a6 a7 a8 fs ss fd ed lm dd (upd ce_ (j + t) (if (ed (j + t)) < (if 5000 < (ce_ (ix (ss (j + t)))) then (ce_ (ix (ss (j + t)))) else 5000) then (ed (j + t)) else (if 5000 < (ce_ (ix (ss (j + t)))) then (ce_ (ix (ss (j + t)))) else 5000))) (upd cw_ (j + t) (1 + (cw_ (ix (ss (j + t)))))) n) H := hP
            have hD : va_D A (wT cy a0 a1 a2 a3 a4 a5 a6 a7 a8 fs ss fd ed lm dd (upd ce_ (j + t) (if (ed (j + t)) < (if 5000 < (ce_ (ix (ss (j + t)))) then (ce_ (ix (ss (j + t)))) else 5000) then (ed (j + t)) else (if 5000 < (ce_ (ix (ss (j + t)))) then (ce_ (ix (ss (j + t)))) else 5000))) (upd cw_ (j + t) (1 + (cw_ (ix (ss (j + t)))))) n) := hD
            refine lv_iinc (v := (nI (j + t + 1))) (lv' := [(2, .int (nI (j + t + 1))), (4, .int (1 + (cw_ (ix (ss (j + t)))))), (3, .int (if 5000 < (ce_ (ix (ss (j + t)))) then (ce_ (ix (ss (j + t)))) else 5000)), (0, .ref a0), (1, .int (nI j))]) hx hb dX1_updateChains_116 hl (k := 2) rfl (k_inc _) (by decide) rfl (fun ls hl => ?_)
            refine lv_goto (tgt := 2) hx hb dX1_updateChains_119 (by decide) ?_
            exact ih_2 (t + 1) (upd ce_ (j + t) (if (ed (j + t)) < (if 5000 < (ce_ (ix (ss (j + t)))) then (ce_ (ix (ss (j + t)))) else 5000) then (ed (j + t)) else (if 5000 < (ce_ (ix (ss (j + t)))) then (ce_ (ix (ss (j + t)))) else 5000))) (upd cw_ (j + t) (1 + (cw_ (ix (ss (j + t)))))) _ _ ls (by omega) (by omega) (by subst ece; rw [ucE]; congr 1; simp [ucEnd, c_7, c_22, c_57]) (by subst ecw; rw [ucC]; congr 1; simp [ucCnt, c_7, c_22, c_57]) hP hD hS (lv_sub hl [0, 3, 4] rfl)
        · obtain ⟨q1, q2⟩ := (hfs _ hkn).resolve_left c_22
          refine lv_aload_n hx hb dX1_updateChains_25 rfl (lv_at hl 3 rfl) ?_
          refine va_get (D := D) (ci := 1) (v := .ref a7) (C := RX1) (T := TX1) (N := 9) hx hb hts g_X1 hown hE.1 hP 0 rfl rfl 6 (by decide) f_30 (fun _ h9 => h9) rfl dX1_updateChains_26 ?_
          refine lv_aload_n hx hb dX1_updateChains_29 rfl (lv_at hl 3 rfl) ?_
          refine va_get (D := D) (ci := 1) (v := .ref a1) (C := RX1) (T := TX1) (N := 9) hx hb hts g_X1 hown hE.1 hP 0 rfl rfl 0 (by decide) f_11 (fun _ h9 => h9) rfl dX1_updateChains_30 ?_
          refine lv_iload_n hx hb dX1_updateChains_33 rfl (lv_at hl 2 rfl) ?_
          refine k_ild hx hb hE.1 hP 1 0 rfl rfl (j := (j + t)) (by omega) (by decide) dX1_updateChains_34 ?_
          refine k_top (z := nI (ix (fs (j + t)))) q1 ?_
          refine k_ild hx hb hE.1 hP 7 0 rfl rfl (j := (ix (fs (j + t)))) (by omega) (by decide) dX1_updateChains_35 ?_
          refine lv_istore_n (lv' := [(3, .int (ce_ (ix (fs (j + t))))), (4, .int 1), (2, .int (nI (j + t))), (0, .ref a0), (1, .int (nI j))]) hx hb dX1_updateChains_36 rfl hl (by decide) rfl (fun ls hl => ?_)
          refine lv_aload_n hx hb dX1_updateChains_37 rfl (lv_at hl 3 rfl) ?_
          refine va_get (D := D) (ci := 1) (v := .ref a8) (C := RX1) (T := TX1) (N := 9) hx hb hts g_X1 hown hE.1 hP 0 rfl rfl 7 (by decide) f_33 (fun _ h9 => h9) rfl dX1_updateChains_38 ?_
          refine lv_aload_n hx hb dX1_updateChains_41 rfl (lv_at hl 3 rfl) ?_
          refine va_get (D := D) (ci := 1) (v := .ref a1) (C := RX1) (T := TX1) (N := 9) hx hb hts g_X1 hown hE.1 hP 0 rfl rfl 0 (by decide) f_11 (fun _ h9 => h9) rfl dX1_updateChains_42 ?_
          refine lv_iload_n hx hb dX1_updateChains_45 rfl (lv_at hl 2 rfl) ?_
          refine k_ild hx hb hE.1 hP 1 0 rfl rfl (j := (j + t)) (by omega) (by decide) dX1_updateChains_46 ?_
          refine k_top (z := nI (ix (fs (j + t)))) q1 ?_
          refine k_ild hx hb hE.1 hP 8 0 rfl rfl (j := (ix (fs (j + t)))) (by omega) (by decide) dX1_updateChains_47 ?_
          refine lv_istore (lv' := [(4, .int (cw_ (ix (fs (j + t))))), (3, .int (ce_ (ix (fs (j + t))))), (2, .int (nI (j + t))), (0, .ref a0), (1, .int (nI j))]) hx hb dX1_updateChains_48 hl (by decide) rfl (fun ls hl => ?_)
          refine lv_aload_n hx hb dX1_updateChains_50 rfl (lv_at hl 3 rfl) ?_
          refine va_get (D := D) (ci := 1) (v := .ref a2) (C := RX1) (T := TX1) (N := 9) hx hb hts g_X1 hown hE.1 hP 0 rfl rfl 1 (by decide) f_15 (fun _ h9 => h9) rfl dX1_updateChains_51 ?_
          refine lv_iload_n hx hb dX1_updateChains_54 rfl (lv_at hl 2 rfl) ?_
          refine k_ild hx hb hE.1 hP 2 0 rfl rfl (j := (j + t)) (by omega) (by decide) dX1_updateChains_55 ?_
          refine lv_iconst (v := (-1)) hx hb dX1_updateChains_56 (by decide) ?_
          refine lv_icmp_eq (tgt := 92) hx hb dX1_updateChains_57 (by decide) (fun c_57 => ?_) (fun c_57 => ?_)
          · refine lv_aload_n hx hb dX1_updateChains_92 rfl (lv_at hl 3 rfl) ?_
            refine va_get (D := D) (ci := 1) (v := .ref a7) (C := RX1) (T := TX1) (N := 9) hx hb hts g_X1 hown hE.1 hP 0 rfl rfl 6 (by decide) f_30 (fun _ h9 => h9) rfl dX1_updateChains_93 ?_
            refine lv_iload_n hx hb dX1_updateChains_96 rfl (lv_at hl 2 rfl) ?_
            refine lv_iload_n hx hb dX1_updateChains_97 rfl (lv_at hl 1 rfl) ?_
            refine lv_aload_n hx hb dX1_updateChains_98 rfl (lv_at hl 3 rfl) ?_
            refine va_get (D := D) (ci := 1) (v := .ref a4) (C := RX1) (T := TX1) (N := 9) hx hb hts g_X1 hown hE.1 hP 0 rfl rfl 3 (by decide) f_21 (fun _ h9 => h9) rfl dX1_updateChains_99 ?_
            refine lv_iload_n hx hb dX1_updateChains_102 rfl (lv_at hl 2 rfl) ?_
            refine k_ild hx hb hE.1 hP 4 0 rfl rfl (j := (j + t)) (by omega) (by decide) dX1_updateChains_103 ?_
            refine va_mmin (ls := ls) hx hb (by rw [hml]; exact hl.1.symm) hown (hts (.methodLink RX1 54 Lib.Math.min.name) (by decide +kernel)) (hts (.static Lib.Math.min.name) (by decide +kernel)) (hts (.initialized "java/lang/Math") (by decide +kernel)) (hts (.code Lib.Math.min.name Lib.Math.min.code 2 (some .int)) (by decide +kernel)) (Nat.le_of_ble_eq_true rfl) (Nat.le_of_ble_eq_true rfl) (Nat.zero_le _) (Nat.zero_le _) dX1_updateChains_104 ?_
            refine k_ist hx hb hE.1 hP hD hS 7 0 rfl rfl (j := (j + t)) (by omega) (by decide) dX1_updateChains_107 (fun H locs hP hD hS => ?_)
            have hP : va_P D vwCl (wT cy a0 a1 a2 a3 a4 a5 a6 a7 a8 fs ss fd ed lm dd (upd ce_ (j + t) (if (ed (j + t)) < (ce_ (ix (fs (j + t)))) then (ed (j + t)) else (ce_ (ix (fs (j + t)))))) cw_ n) H := hP
            have hD : va_D A (wT cy a0 a1 a2 a3 a4 a5 a6 a7 a8 fs ss fd ed lm dd (upd ce_ (j + t) (if (ed (j + t)) < (ce_ (ix (fs (j + t)))) then (ed (j + t)) else (ce_ (ix (fs (j + t)))))) cw_ n) := hD
            refine lv_aload_n hx hb dX1_updateChains_108 rfl (lv_at hl 3 rfl) ?_
            refine va_get (D := D) (ci := 1) (v := .ref a8) (C := RX1) (T := TX1) (N := 9) hx hb hts g_X1 hown hE.1 hP 0 rfl rfl 7 (by decide) f_33 (fun _ h9 => h9) rfl dX1_updateChains_109 ?_
            refine lv_iload_n hx hb dX1_updateChains_112 rfl (lv_at hl 2 rfl) ?_
            refine lv_iload hx hb dX1_updateChains_113 (lv_at hl 0 rfl) ?_
            refine k_ist hx hb hE.1 hP hD hS 8 0 rfl rfl (j := (j + t)) (by omega) (by decide) dX1_updateChains_115 (fun H locs hP hD hS => ?_)
            have hP : va_P D vwCl (wT cy a0 a1 a2 a3 a4 a5 a6 a7 a8 fs ss fd ed lm dd (upd ce_ (j + t) (if (ed (j + t)) < (ce_ (ix (fs (j + t)))) then (ed (j + t)) else (ce_ (ix (fs (j + t)))))) (upd cw_ (j + t) (cw_ (ix (fs (j + t))))) n) H := hP
            have hD : va_D A (wT cy a0 a1 a2 a3 a4 a5 a6 a7 a8 fs ss fd ed lm dd (upd ce_ (j + t) (if (ed (j + t)) < (ce_ (ix (fs (j + t)))) then (ed (j + t)) else (ce_ (ix (fs (j + t)))))) (upd cw_ (j + t) (cw_ (ix (fs (j + t))))) n) := hD
            refine lv_iinc (v := (nI (j + t + 1))) (lv' := [(2, .int (nI (j + t + 1))), (4, .int (cw_ (ix (fs (j + t))))), (3, .int (ce_ (ix (fs (j + t))))), (0, .ref a0), (1, .int (nI j))]) hx hb dX1_updateChains_116 hl (k := 2) rfl (k_inc _) (by decide) rfl (fun ls hl => ?_)
            refine lv_goto (tgt := 2) hx hb dX1_updateChains_119 (by decide) ?_
            exact ih_2 (t + 1) (upd ce_ (j + t) (if (ed (j + t)) < (ce_ (ix (fs (j + t)))) then (ed (j + t)) else (ce_ (ix (fs (j + t)))))) (upd cw_ (j + t) (cw_ (ix (fs (j + t))))) _ _ ls (by omega) (by omega) (by subst ece; rw [ucE]; congr 1; simp [ucEnd, c_7, c_22, c_57]) (by subst ecw; rw [ucC]; congr 1; simp [ucCnt, c_7, c_22, c_57]) hP hD hS (lv_sub hl [0, 3, 4] rfl)
          · obtain ⟨q3, q4⟩ := (hss _ hkn).resolve_left c_57
            refine lv_iload_n hx hb dX1_updateChains_60 rfl (lv_at hl 1 rfl) ?_
            refine lv_aload_n hx hb dX1_updateChains_61 rfl (lv_at hl 3 rfl) ?_
            refine va_get (D := D) (ci := 1) (v := .ref a7) (C := RX1) (T := TX1) (N := 9) hx hb hts g_X1 hown hE.1 hP 0 rfl rfl 6 (by decide) f_30 (fun _ h9 => h9) rfl dX1_updateChains_62 ?_
            refine lv_aload_n hx hb dX1_updateChains_65 rfl (lv_at hl 3 rfl) ?_
            refine va_get (D := D) (ci := 1) (v := .ref a2) (C := RX1) (T := TX1) (N := 9) hx hb hts g_X1 hown hE.1 hP 0 rfl rfl 1 (by decide) f_15 (fun _ h9 => h9) rfl dX1_updateChains_66 ?_
            refine lv_iload_n hx hb dX1_updateChains_69 rfl (lv_at hl 2 rfl) ?_
            refine k_ild hx hb hE.1 hP 2 0 rfl rfl (j := (j + t)) (by omega) (by decide) dX1_updateChains_70 ?_
            refine k_top (z := nI (ix (ss (j + t)))) q3 ?_
            refine k_ild hx hb hE.1 hP 7 0 rfl rfl (j := (ix (ss (j + t)))) (by omega) (by decide) dX1_updateChains_71 ?_
            refine va_mmax (ls := ls) hx hb (by rw [hml]; exact hl.1.symm) hown (hts (.methodLink RX1 48 Lib.Math.max.name) (by decide +kernel)) (hts (.static Lib.Math.max.name) (by decide +kernel)) (hts (.initialized "java/lang/Math") (by decide +kernel)) (hts (.code Lib.Math.max.name Lib.Math.max.code 2 (some .int)) (by decide +kernel)) (Nat.le_of_ble_eq_true rfl) (Nat.le_of_ble_eq_true rfl) (Nat.zero_le _) (Nat.zero_le _) dX1_updateChains_72 ?_
            refine lv_istore_n (lv' := [(3, .int (if (ce_ (ix (fs (j + t)))) < (ce_ (ix (ss (j + t)))) then (ce_ (ix (ss (j + t)))) else (ce_ (ix (fs (j + t)))))), (4, .int (cw_ (ix (fs (j + t))))), (2, .int (nI (j + t))), (0, .ref a0), (1, .int (nI j))]) hx hb dX1_updateChains_75 rfl hl (by decide) rfl (fun ls hl => ?_)
            refine lv_iload hx hb dX1_updateChains_76 (lv_at hl 1 rfl) ?_
            refine lv_aload_n hx hb dX1_updateChains_78 rfl (lv_at hl 3 rfl) ?_
            refine va_get (D := D) (ci := 1) (v := .ref a8) (C := RX1) (T := TX1) (N := 9) hx hb hts g_X1 hown hE.1 hP 0 rfl rfl 7 (by decide) f_33 (fun _ h9 => h9) rfl dX1_updateChains_79 ?_
            refine lv_aload_n hx hb dX1_updateChains_82 rfl (lv_at hl 3 rfl) ?_
            refine va_get (D := D) (ci := 1) (v := .ref a2) (C := RX1) (T := TX1) (N := 9) hx hb hts g_X1 hown hE.1 hP 0 rfl rfl 1 (by decide) f_15 (fun _ h9 => h9) rfl dX1_updateChains_83 ?_
            refine lv_iload_n hx hb dX1_updateChains_86 rfl (lv_at hl 2 rfl) ?_
            refine k_ild hx hb hE.1 hP 2 0 rfl rfl (j := (j + t)) (by omega) (by decide) dX1_updateChains_87 ?_
            refine k_top (z := nI (ix (ss (j + t)))) q3 ?_
            refine k_ild hx hb hE.1 hP 8 0 rfl rfl (j := (ix (ss (j + t)))) (by omega) (by decide) dX1_updateChains_88 ?_
            refine lv_iadd hx hb dX1_updateChains_89 ?_
            refine lv_istore (lv' := [(4, .int ((cw_ (ix (fs (j + t)))) + (cw_ (ix (ss (j + t)))))), (3, .int (if (ce_ (ix (fs (j + t)))) < (ce_ (ix (ss (j + t)))) then (ce_ (ix (ss (j + t)))) else (ce_ (ix (fs (j + t)))))), (2, .int (nI (j + t))), (0, .ref a0), (1, .int (nI j))]) hx hb dX1_updateChains_90 hl (by decide) rfl (fun ls hl => ?_)
            refine lv_aload_n hx hb dX1_updateChains_92 rfl (lv_at hl 3 rfl) ?_
            refine va_get (D := D) (ci := 1) (v := .ref a7) (C := RX1) (T := TX1) (N := 9) hx hb hts g_X1 hown hE.1 hP 0 rfl rfl 6 (by decide) f_30 (fun _ h9 => h9) rfl dX1_updateChains_93 ?_
            refine lv_iload_n hx hb dX1_updateChains_96 rfl (lv_at hl 2 rfl) ?_
            refine lv_iload_n hx hb dX1_updateChains_97 rfl (lv_at hl 1 rfl) ?_
            refine lv_aload_n hx hb dX1_updateChains_98 rfl (lv_at hl 3 rfl) ?_
            refine va_get (D := D) (ci := 1) (v := .ref a4) (C := RX1) (T := TX1) (N := 9) hx hb hts g_X1 hown hE.1 hP 0 rfl rfl 3 (by decide) f_21 (fun _ h9 => h9) rfl dX1_updateChains_99 ?_
            refine lv_iload_n hx hb dX1_updateChains_102 rfl (lv_at hl 2 rfl) ?_
            refine k_ild hx hb hE.1 hP 4 0 rfl rfl (j := (j + t)) (by omega) (by decide) dX1_updateChains_103 ?_
            refine va_mmin (ls := ls) hx hb (by rw [hml]; exact hl.1.symm) hown (hts (.methodLink RX1 54 Lib.Math.min.name) (by decide +kernel)) (hts (.static Lib.Math.min.name) (by decide +kernel)) (hts (.initialized "java/lang/Math") (by decide +kernel)) (hts (.code Lib.Math.min.name Lib.Math.min.code 2 (some .int)) (by decide +kernel)) (Nat.le_of_ble_eq_true rfl) (Nat.le_of_ble_eq_true rfl) (Nat.zero_le _) (Nat.zero_le _) dX1_updateChains_104 ?_
            refine k_ist hx hb hE.1 hP hD hS 7 0 rfl rfl (j := (j + t)) (by omega) (by decide) dX1_updateChains_107 (fun H locs hP hD hS => ?_)
            have hP : va_P D vwCl (wT cy a0 a1 a2 a3 a4 a5 a6 a7 a8 fs ss fd ed lm dd (upd ce_ (j + t) (if (ed (j + t)) < (if (ce_ (ix (fs (j + t)))) < (ce_ (ix (ss (j + t)))) then (ce_ (ix (ss (j + t)))) else (ce_ (ix (fs (j + t))))) then (ed (j + t)) else (if (ce_ (ix (fs (j + t)))) < (ce_ (ix (ss (j + t)))) then (ce_ (ix (ss (j + t)))) else (ce_ (ix (fs (j + t))))))) cw_ n) H := hP
            have hD : va_D A (wT cy a0 a1 a2 a3 a4 a5 a6 a7 a8 fs ss fd ed lm dd (upd ce_ (j + t) (if (ed (j + t)) < (if (ce_ (ix (fs (j + t)))) < (ce_ (ix (ss (j + t)))) then (ce_ (ix (ss (j + t)))) else (ce_ (ix (fs (j + t))))) then (ed (j + t)) else (if (ce_ (ix (fs (j + t)))) < (ce_ (ix (ss (j + t)))) then (ce_ (ix (ss (j + t)))) else (ce_ (ix (fs (j + t))))))) cw_ n) := hD
            refine lv_aload_n hx hb dX1_updateChains_108 rfl (lv_at hl 3 rfl) ?_
            refine va_get (D := D) (ci := 1) (v := .ref a8) (C := RX1) (T := TX1) (N := 9) hx hb hts g_X1 hown hE.1 hP 0 rfl rfl 7 (by decide) f_33 (fun _ h9 => h9) rfl dX1_updateChains_109 ?_
            refine lv_iload_n hx hb dX1_updateChains_112 rfl (lv_at hl 2 rfl) ?_
            refine lv_iload hx hb dX1_updateChains_113 (lv_at hl 0 rfl) ?_
            refine k_ist hx hb hE.1 hP hD hS 8 0 rfl rfl (j := (j + t)) (by omega) (by decide) dX1_updateChains_115 (fun H locs hP hD hS => ?_)
            have hP : va_P D vwCl (wT cy a0 a1 a2 a3 a4 a5 a6 a7 a8 fs ss fd ed lm dd (upd ce_ (j + t) (if (ed (j + t)) < (if (ce_ (ix (fs (j + t)))) < (ce_ (ix (ss (j + t)))) then (ce_ (ix (ss (j + t)))) else (ce_ (ix (fs (j + t))))) then (ed (j + t)) else (if (ce_ (ix (fs (j + t)))) < (ce_ (ix (ss (j + t)))) then (ce_ (ix (ss (j + t)))) else (ce_ (ix (fs (j + t))))))) (upd cw_ (j + t) ((cw_ (ix (fs (j + t)))) + (cw_ (ix (ss (j + t)))))) n) H := hP
            have hD : va_D A (wT cy a0 a1 a2 a3 a4 a5 a6 a7 a8 fs ss fd ed lm dd (upd ce_ (j + t) (if (ed (j + t)) < (if (ce_ (ix (fs (j + t)))) < (ce_ (ix (ss (j + t)))) then (ce_ (ix (ss (j + t)))) else (ce_ (ix (fs (j + t))))) then (ed (j + t)) else (if (ce_ (ix (fs (j + t)))) < (ce_ (ix (ss (j + t)))) then (ce_ (ix (ss (j + t)))) else (ce_ (ix (fs (j + t))))))) (upd cw_ (j + t) ((cw_ (ix (fs (j + t)))) + (cw_ (ix (ss (j + t)))))) n) := hD
            refine lv_iinc (v := (nI (j + t + 1))) (lv' := [(2, .int (nI (j + t + 1))), (4, .int ((cw_ (ix (fs (j + t)))) + (cw_ (ix (ss (j + t)))))), (3, .int (if (ce_ (ix (fs (j + t)))) < (ce_ (ix (ss (j + t)))) then (ce_ (ix (ss (j + t)))) else (ce_ (ix (fs (j + t)))))), (0, .ref a0), (1, .int (nI j))]) hx hb dX1_updateChains_116 hl (k := 2) rfl (k_inc _) (by decide) rfl (fun ls hl => ?_)
            refine lv_goto (tgt := 2) hx hb dX1_updateChains_119 (by decide) ?_
            exact ih_2 (t + 1) (upd ce_ (j + t) (if (ed (j + t)) < (if (ce_ (ix (fs (j + t)))) < (ce_ (ix (ss (j + t)))) then (ce_ (ix (ss (j + t)))) else (ce_ (ix (fs (j + t))))) then (ed (j + t)) else (if (ce_ (ix (fs (j + t)))) < (ce_ (ix (ss (j + t)))) then (ce_ (ix (ss (j + t)))) else (ce_ (ix (fs (j + t))))))) (upd cw_ (j + t) ((cw_ (ix (fs (j + t)))) + (cw_ (ix (ss (j + t)))))) _ _ ls (by omega) (by omega) (by subst ece; rw [ucE]; congr 1; simp [ucEnd, c_7, c_22, c_57]) (by subst ecw; rw [ucC]; congr 1; simp [ucCnt, c_7, c_22, c_57]) hP hD hS (lv_sub hl [0, 3, 4] rfl)
  exact L_2 ((n - (j + 0)) + 1) 0 ce cw _ _ ls (Nat.lt_succ_self _) (by omega) rfl rfl hP hD hS (lv_sub hl [0, 1, 2] rfl)

set_option maxHeartbeats 4000000 in
set_option maxRecDepth 100000 in
theorem c_X1_append (l : Launch) (D : va_G) (cy : ClassId × ClassId × ClassId) (a0 a1 a2 a3 a4 a5 a6 a7 a8 : Nat) (fs ss fd ed lm dd ce cw : Nat → Int32) (n : Nat) (sg : Int32) (fr_ : Int32) (to_ : Int32) (li_ : Int32) (hn : n < 8) (hfs : ∀ i, i < n → sgP fs i) (hss : ∀ i, i < n → sgP ss i) (hsg : sg = -1 ∨ (sg = nI (ix sg) ∧ ix sg < n)) : kI l D cy yX1_append wsX1_append (krm 2 45) [.ref a0, .int sg, .int fr_, .int to_, .int li_] (wT cy a0 a1 a2 a3 a4 a5 a6 a7 a8 fs ss fd ed lm dd ce cw n) (fun (r : Int32) (u : Unit) => r = nI n) (fun _ : Unit => wT cy a0 a1 a2 a3 a4 a5 a6 a7 a8 (upd fs n sg) (upd ss n (-1)) (upd fd n fr_) (upd ed n to_) (upd lm n li_) (upd dd n (-1)) (ucE (upd fs n sg) (upd ss n (-1)) (upd ed n to_) n ce 1) (ucC (upd fs n sg) (upd ss n (-1)) n cw 1) (n + 1)) := by
  refine kI.of (cc := cX1_append) (maxL := 6) (rt := .int) (Or.inl rfl) (by decide) rfl (Nat.le_of_ble_eq_true rfl) ?_
  intro p e s m args below meth c Q A ls hx hb hml hown hts hE hA hP hD hl hret
  have hS : va_S A s.heap s.heap [] := va_S.rf
  have hl : lv_has ls 6 [(0, .ref a0), (1, .int sg), (2, .int fr_), (3, .int to_), (4, .int li_)] := hl
  have g_X1 : ∀ w ∈ wsX10, w ∈ wsX1_append := by decide +kernel
  have f_36 := hts (.fieldLink RX1 36 "CertHerd$IssuerTable" "count" "I") (by decide +kernel)
  have f_11 := hts (.fieldLink RX1 11 "CertHerd$IssuerTable" "firstSigners" "[I") (by decide +kernel)
  have f_15 := hts (.fieldLink RX1 15 "CertHerd$IssuerTable" "secondSigners" "[I") (by decide +kernel)
  have f_18 := hts (.fieldLink RX1 18 "CertHerd$IssuerTable" "firstDays" "[I") (by decide +kernel)
  have f_21 := hts (.fieldLink RX1 21 "CertHerd$IssuerTable" "endDays" "[I") (by decide +kernel)
  have f_24 := hts (.fieldLink RX1 24 "CertHerd$IssuerTable" "limits" "[I") (by decide +kernel)
  have f_27 := hts (.fieldLink RX1 27 "CertHerd$IssuerTable" "distrustDays" "[I") (by decide +kernel)
  refine lv_aload_n hx hb dX1_append_0 rfl (lv_at hl 0 rfl) ?_
  refine va_get (D := D) (ci := 1) (v := .int (nI n)) (C := RX1) (T := TX1) (N := 9) hx hb hts g_X1 hown hE.1 hP 0 rfl rfl 8 (by decide) f_36 (fun _ h9 => h9) rfl dX1_append_1 ?_
  refine lv_istore (lv' := [(5, .int (nI n)), (0, .ref a0), (1, .int sg), (2, .int fr_), (3, .int to_), (4, .int li_)]) hx hb dX1_append_4 hl (by decide) rfl (fun ls hl => ?_)
  refine lv_aload_n hx hb dX1_append_6 rfl (lv_at hl 1 rfl) ?_
  refine va_get (D := D) (ci := 1) (v := .ref a1) (C := RX1) (T := TX1) (N := 9) hx hb hts g_X1 hown hE.1 hP 0 rfl rfl 0 (by decide) f_11 (fun _ h9 => h9) rfl dX1_append_7 ?_
  refine lv_iload hx hb dX1_append_10 (lv_at hl 0 rfl) ?_
  refine lv_iload_n hx hb dX1_append_12 rfl (lv_at hl 2 rfl) ?_
  refine k_ist hx hb hE.1 hP hD hS 1 0 rfl rfl (j := n) (by omega) (by decide) dX1_append_13 (fun H locs hP hD hS => ?_)
  have hP : va_P D vwCl (wT cy a0 a1 a2 a3 a4 a5 a6 a7 a8 (upd fs n sg) ss fd ed lm dd ce cw n) H := hP
  have hD : va_D A (wT cy a0 a1 a2 a3 a4 a5 a6 a7 a8 (upd fs n sg) ss fd ed lm dd ce cw n) := hD
  refine lv_aload_n hx hb dX1_append_14 rfl (lv_at hl 1 rfl) ?_
  refine va_get (D := D) (ci := 1) (v := .ref a2) (C := RX1) (T := TX1) (N := 9) hx hb hts g_X1 hown hE.1 hP 0 rfl rfl 1 (by decide) f_15 (fun _ h9 => h9) rfl dX1_append_15 ?_
  refine lv_iload hx hb dX1_append_18 (lv_at hl 0 rfl) ?_
  refine lv_iconst (v := (-1)) hx hb dX1_append_20 (by decide) ?_
  refine k_ist hx hb hE.1 hP hD hS 2 0 rfl rfl (j := n) (by omega) (by decide) dX1_append_21 (fun H locs hP hD hS => ?_)
  have hP : va_P D vwCl (wT cy a0 a1 a2 a3 a4 a5 a6 a7 a8 (upd fs n sg) (upd ss n (-1)) fd ed lm dd ce cw n) H := hP
  have hD : va_D A (wT cy a0 a1 a2 a3 a4 a5 a6 a7 a8 (upd fs n sg) (upd ss n (-1)) fd ed lm dd ce cw n) := hD
  refine lv_aload_n hx hb dX1_append_22 rfl (lv_at hl 1 rfl) ?_
  refine va_get (D := D) (ci := 1) (v := .ref a3) (C := RX1) (T := TX1) (N := 9) hx hb hts g_X1 hown hE.1 hP 0 rfl rfl 2 (by decide) f_18 (fun _ h9 => h9) rfl dX1_append_23 ?_
  refine lv_iload hx hb dX1_append_26 (lv_at hl 0 rfl) ?_
  refine lv_iload_n hx hb dX1_append_28 rfl (lv_at hl 3 rfl) ?_
  refine k_ist hx hb hE.1 hP hD hS 3 0 rfl rfl (j := n) (by omega) (by decide) dX1_append_29 (fun H locs hP hD hS => ?_)
  have hP : va_P D vwCl (wT cy a0 a1 a2 a3 a4 a5 a6 a7 a8 (upd fs n sg) (upd ss n (-1)) (upd fd n fr_) ed lm dd ce cw n) H := hP
  have hD : va_D A (wT cy a0 a1 a2 a3 a4 a5 a6 a7 a8 (upd fs n sg) (upd ss n (-1)) (upd fd n fr_) ed lm dd ce cw n) := hD
  refine lv_aload_n hx hb dX1_append_30 rfl (lv_at hl 1 rfl) ?_
  refine va_get (D := D) (ci := 1) (v := .ref a4) (C := RX1) (T := TX1) (N := 9) hx hb hts g_X1 hown hE.1 hP 0 rfl rfl 3 (by decide) f_21 (fun _ h9 => h9) rfl dX1_append_31 ?_
  refine lv_iload hx hb dX1_append_34 (lv_at hl 0 rfl) ?_
  refine lv_iload_n hx hb dX1_append_36 rfl (lv_at hl 4 rfl) ?_
  refine k_ist hx hb hE.1 hP hD hS 4 0 rfl rfl (j := n) (by omega) (by decide) dX1_append_37 (fun H locs hP hD hS => ?_)
  have hP : va_P D vwCl (wT cy a0 a1 a2 a3 a4 a5 a6 a7 a8 (upd fs n sg) (upd ss n (-1)) (upd fd n fr_) (upd ed n to_) lm dd ce cw n) H := hP
  have hD : va_D A (wT cy a0 a1 a2 a3 a4 a5 a6 a7 a8 (upd fs n sg) (upd ss n (-1)) (upd fd n fr_) (upd ed n to_) lm dd ce cw n) := hD
  refine lv_aload_n hx hb dX1_append_38 rfl (lv_at hl 1 rfl) ?_
  refine va_get (D := D) (ci := 1) (v := .ref a5) (C := RX1) (T := TX1) (N := 9) hx hb hts g_X1 hown hE.1 hP 0 rfl rfl 4 (by decide) f_24 (fun _ h9 => h9) rfl dX1_append_39 ?_
  refine lv_iload hx hb dX1_append_42 (lv_at hl 0 rfl) ?_
  refine lv_iload hx hb dX1_append_44 (lv_at hl 5 rfl) ?_
  refine k_ist hx hb hE.1 hP hD hS 5 0 rfl rfl (j := n) (by omega) (by decide) dX1_append_46 (fun H locs hP hD hS => ?_)
  have hP : va_P D vwCl (wT cy a0 a1 a2 a3 a4 a5 a6 a7 a8 (upd fs n sg) (upd ss n (-1)) (upd fd n fr_) (upd ed n to_) (upd lm n li_) dd ce cw n) H := hP
  have hD : va_D A (wT cy a0 a1 a2 a3 a4 a5 a6 a7 a8 (upd fs n sg) (upd ss n (-1)) (upd fd n fr_) (upd ed n to_) (upd lm n li_) dd ce cw n) := hD
  refine lv_aload_n hx hb dX1_append_47 rfl (lv_at hl 1 rfl) ?_
  refine va_get (D := D) (ci := 1) (v := .ref a6) (C := RX1) (T := TX1) (N := 9) hx hb hts g_X1 hown hE.1 hP 0 rfl rfl 5 (by decide) f_27 (fun _ h9 => h9) rfl dX1_append_48 ?_
  refine lv_iload hx hb dX1_append_51 (lv_at hl 0 rfl) ?_
  refine lv_iconst (v := (-1)) hx hb dX1_append_53 (by decide) ?_
  refine k_ist hx hb hE.1 hP hD hS 6 0 rfl rfl (j := n) (by omega) (by decide) dX1_append_54 (fun H locs hP hD hS => ?_)
  have hP : va_P D vwCl (wT cy a0 a1 a2 a3 a4 a5 a6 a7 a8 (upd fs n sg) (upd ss n (-1)) (upd fd n fr_) (upd ed n to_) (upd lm n li_) (upd dd n (-1)) ce cw n) H := hP
  have hD : va_D A (wT cy a0 a1 a2 a3 a4 a5 a6 a7 a8 (upd fs n sg) (upd ss n (-1)) (upd fd n fr_) (upd ed n to_) (upd lm n li_) (upd dd n (-1)) ce cw n) := hD
  refine lv_aload_n hx hb dX1_append_55 rfl (lv_at hl 1 rfl) ?_
  refine lv_dup hx hb dX1_append_56 rfl ?_
  refine va_get (D := D) (ci := 1) (v := .int (nI n)) (C := RX1) (T := TX1) (N := 9) hx hb hts g_X1 hown hE.1 hP 0 rfl rfl 8 (by decide) f_36 (fun _ h9 => h9) rfl dX1_append_57 ?_
  refine lv_iconst (v := 1) hx hb dX1_append_60 (by decide) ?_
  refine lv_iadd hx hb dX1_append_61 ?_
  refine k_top (z := nI (n + 1)) (nI_1 _) ?_
  refine va_put (D := D) (ci := 1) (v := .int (nI (n + 1))) (ty := .int) (C := RX1) (T := TX1) (N := 9) hx hb hts g_X1 tyX1 tyX1_ok nmX1 hown hE.1 hP hD hS 0 rfl rfl 8 (by decide) f_36 (fun _ h9 => h9) rfl (by decide +kernel) rfl rfl (Nat.le_of_ble_eq_true rfl) dX1_append_62 (fun H locs hP hD hS => ?_)
  have hP : va_P D vwCl (wT cy a0 a1 a2 a3 a4 a5 a6 a7 a8 (upd fs n sg) (upd ss n (-1)) (upd fd n fr_) (upd ed n to_) (upd lm n li_) (upd dd n (-1)) ce cw (n + 1)) H := hP
  have hD : va_D A (wT cy a0 a1 a2 a3 a4 a5 a6 a7 a8 (upd fs n sg) (upd ss n (-1)) (upd fd n fr_) (upd ed n to_) (upd lm n li_) (upd dd n (-1)) ce cw (n + 1)) := hD
  refine lv_aload_n hx hb dX1_append_65 rfl (lv_at hl 1 rfl) ?_
  refine lv_iload hx hb dX1_append_66 (lv_at hl 0 rfl) ?_
  refine kcW_v (n := 1) (wc := wT cy a0 a1 a2 a3 a4 a5 a6 a7 a8 (upd fs n sg) (upd ss n (-1)) (upd fd n fr_) (upd ed n to_) (upd lm n li_) (upd dd n (-1)) ce cw (n + 1)) (As := [.int (nI n)]) (rest := []) ⟨hx, hb, hml, hown, hts⟩ hE hA hP hD hS (c_X1_updateChains l D cy a0 a1 a2 a3 a4 a5 a6 a7 a8 (upd fs n sg) (upd ss n (-1)) (upd fd n fr_) (upd ed n to_) (upd lm n li_) (upd dd n (-1)) ce cw (n + 1) n (by omega) (sgP_upd hfs hsg) (sgP_upd hss (Or.inl rfl)) (by omega)) (fun _ => rfl) (q0 := 0) (ci := 1) rfl rfl gX1_append_X1_updateChains rfl rfl rfl ⟨rfl, by decide, by decide, by decide +kernel⟩ ⟨Nat.le_of_ble_eq_true rfl, Nat.le_of_ble_eq_true rfl⟩ rfl hl.1 rfl (Nat.le_of_ble_eq_true rfl) dX1_append_68 ⟨Nat.zero_le _, Nat.zero_le _⟩ (fun u H locs e_2 hP hD hS => ?_)
  have hP : va_P D vwCl (wT cy a0 a1 a2 a3 a4 a5 a6 a7 a8 (upd fs n sg) (upd ss n (-1)) (upd fd n fr_) (upd ed n to_) (upd lm n li_) (upd dd n (-1)) (ucE (upd fs n sg) (upd ss n (-1)) (upd ed n to_) n ce ((n + 1) - n)) (ucC (upd fs n sg) (upd ss n (-1)) n cw ((n + 1) - n)) (n + 1)) H := hP
  have hD : va_D A (wT cy a0 a1 a2 a3 a4 a5 a6 a7 a8 (upd fs n sg) (upd ss n (-1)) (upd fd n fr_) (upd ed n to_) (upd lm n li_) (upd dd n (-1)) (ucE (upd fs n sg) (upd ss n (-1)) (upd ed n to_) n ce ((n + 1) - n)) (ucC (upd fs n sg) (upd ss n (-1)) n cw ((n + 1) - n)) (n + 1)) := hD
  refine lv_iload hx hb dX1_append_71 (lv_at hl 0 rfl) ?_
  have w_ce : ucE (upd fs n sg) (upd ss n (-1)) (upd ed n to_) n ce ((n + 1) - n) = ucE (upd fs n sg) (upd ss n (-1)) (upd ed n to_) n ce 1 := (by rw [show n + 1 - n = 1 by omega])
  have w_cw : ucC (upd fs n sg) (upd ss n (-1)) n cw ((n + 1) - n) = ucC (upd fs n sg) (upd ss n (-1)) n cw 1 := (by rw [show n + 1 - n = 1 by omega])
  exact hret _ _ _ _ (nI n) () dX1_append_73 (Or.inl rfl) rfl (by show va_P D vwCl (wT cy a0 a1 a2 a3 a4 a5 a6 a7 a8 (upd fs n sg) (upd ss n (-1)) (upd fd n fr_) (upd ed n to_) (upd lm n li_) (upd dd n (-1)) (ucE (upd fs n sg) (upd ss n (-1)) (upd ed n to_) n ce 1) (ucC (upd fs n sg) (upd ss n (-1)) n cw 1) (n + 1)) _; rw [← w_ce, ← w_cw]; exact hP) hS

set_option maxHeartbeats 4000000 in
set_option maxRecDepth 100000 in
theorem c_X1_signAlsoBy (l : Launch) (D : va_G) (cy : ClassId × ClassId × ClassId) (a0 a1 a2 a3 a4 a5 a6 a7 a8 : Nat) (fs ss fd ed lm dd ce cw : Nat → Int32) (n : Nat) (j : Nat) (g : Nat) (hn : n ≤ 8) (hfs : ∀ i, i < n → sgP fs i) (hss : ∀ i, i < n → sgP ss i) (hj : j < n) (hg : g < j) : kV l D cy yX1_signAlsoBy wsX1_signAlsoBy (krm 2 45) [.ref a0, .int (nI j), .int (nI g)] (wT cy a0 a1 a2 a3 a4 a5 a6 a7 a8 fs ss fd ed lm dd ce cw n) (fun (u : Unit) => True) (fun _ : Unit => wT cy a0 a1 a2 a3 a4 a5 a6 a7 a8 fs (upd ss j (nI g)) fd ed lm dd (ucE fs (upd ss j (nI g)) ed j ce (n - j)) (ucC fs (upd ss j (nI g)) j cw (n - j)) n) := by
  refine kV.of (cc := cX1_signAlsoBy) (maxL := 3) (by decide) rfl (Nat.le_of_ble_eq_true rfl) ?_
  intro p e s m args below meth c Q A ls hx hb hml hown hts hE hA hP hD hl hret
  have hS : va_S A s.heap s.heap [] := va_S.rf
  have hl : lv_has ls 3 [(0, .ref a0), (1, .int (nI j)), (2, .int (nI g))] := hl
  have g_X1 : ∀ w ∈ wsX10, w ∈ wsX1_signAlsoBy := by decide +kernel
  have f_15 := hts (.fieldLink RX1 15 "CertHerd$IssuerTable" "secondSigners" "[I") (by decide +kernel)
  refine lv_aload_n hx hb dX1_signAlsoBy_0 rfl (lv_at hl 0 rfl) ?_
  refine va_get (D := D) (ci := 1) (v := .ref a2) (C := RX1) (T := TX1) (N := 9) hx hb hts g_X1 hown hE.1 hP 0 rfl rfl 1 (by decide) f_15 (fun _ h9 => h9) rfl dX1_signAlsoBy_1 ?_
  refine lv_iload_n hx hb dX1_signAlsoBy_4 rfl (lv_at hl 1 rfl) ?_
  refine lv_iload_n hx hb dX1_signAlsoBy_5 rfl (lv_at hl 2 rfl) ?_
  refine k_ist hx hb hE.1 hP hD hS 2 0 rfl rfl (j := j) (by omega) (by decide) dX1_signAlsoBy_6 (fun H locs hP hD hS => ?_)
  have hP : va_P D vwCl (wT cy a0 a1 a2 a3 a4 a5 a6 a7 a8 fs (upd ss j (nI g)) fd ed lm dd ce cw n) H := hP
  have hD : va_D A (wT cy a0 a1 a2 a3 a4 a5 a6 a7 a8 fs (upd ss j (nI g)) fd ed lm dd ce cw n) := hD
  refine lv_aload_n hx hb dX1_signAlsoBy_7 rfl (lv_at hl 0 rfl) ?_
  refine lv_iload_n hx hb dX1_signAlsoBy_8 rfl (lv_at hl 1 rfl) ?_
  refine kcW_v (n := 1) (wc := wT cy a0 a1 a2 a3 a4 a5 a6 a7 a8 fs (upd ss j (nI g)) fd ed lm dd ce cw n) (As := [.int (nI j)]) (rest := []) ⟨hx, hb, hml, hown, hts⟩ hE hA hP hD hS (c_X1_updateChains l D cy a0 a1 a2 a3 a4 a5 a6 a7 a8 fs (upd ss j (nI g)) fd ed lm dd ce cw n j (by first | assumption | omega) (by first | assumption | omega) (sgP_put hss hg (by omega)) (by omega)) (fun _ => rfl) (q0 := 0) (ci := 1) rfl rfl gX1_signAlsoBy_X1_updateChains rfl rfl rfl ⟨rfl, by decide, by decide, by decide +kernel⟩ ⟨Nat.le_of_ble_eq_true rfl, Nat.le_of_ble_eq_true rfl⟩ rfl hl.1 rfl (Nat.le_of_ble_eq_true rfl) dX1_signAlsoBy_9 ⟨Nat.zero_le _, Nat.zero_le _⟩ (fun u H locs e_2 hP hD hS => ?_)
  have hP : va_P D vwCl (wT cy a0 a1 a2 a3 a4 a5 a6 a7 a8 fs (upd ss j (nI g)) fd ed lm dd (ucE fs (upd ss j (nI g)) ed j ce (n - j)) (ucC fs (upd ss j (nI g)) j cw (n - j)) n) H := hP
  have hD : va_D A (wT cy a0 a1 a2 a3 a4 a5 a6 a7 a8 fs (upd ss j (nI g)) fd ed lm dd (ucE fs (upd ss j (nI g)) ed j ce (n - j)) (ucC fs (upd ss j (nI g)) j cw (n - j)) n) := hD
  exact hret _ _ _ _ () dX1_signAlsoBy_12 trivial hP hS
end
section
set_option maxHeartbeats 4000000 in
set_option maxRecDepth 100000 in
theorem c_X0_isFull (l : Launch) (D : va_G) (cy : ClassId × ClassId × ClassId) (b0 b1 b2 b3 b4 b5 b6 b7 : Nat) (iss sb fst len off ren que : Nat → Int32) (kc : Nat) (hc : kc ≤ 60) : kI l D cy yX0_isFull wsX0_isFull (krm 0 0) [.ref b0] (wC cy b0 b1 b2 b3 b4 b5 b6 b7 iss sb fst len off ren que kc) (fun (r : Int32) (u : Unit) => r = bI (60 ≤ kc)) (fun _ : Unit => wC cy b0 b1 b2 b3 b4 b5 b6 b7 iss sb fst len off ren que kc) := by
  refine kI.of (cc := cX0_isFull) (maxL := 1) (rt := .boolean) (Or.inr rfl) (by decide) rfl (Nat.le_of_ble_eq_true rfl) ?_
  intro p e s m args below meth c Q A ls hx hb hml hown hts hE hA hP hD hl hret
  have hS : va_S A s.heap s.heap [] := va_S.rf
  have hl : lv_has ls 1 [(0, .ref b0)] := hl
  have g_X0 : ∀ w ∈ wsX00, w ∈ wsX0_isFull := by decide +kernel
  have f_33 := hts (.fieldLink RX0 33 "CertHerd$CertificateTable" "count" "I") (by decide +kernel)
  refine lv_aload_n hx hb dX0_isFull_0 rfl (lv_at hl 0 rfl) ?_
  refine va_get (D := D) (ci := 0) (v := .int (nI kc)) (C := RX0) (T := TX0) (N := 8) hx hb hts g_X0 hown hE.1 hP 0 rfl rfl 7 (by decide) f_33 (fun _ h9 => h9) rfl dX0_isFull_1 ?_
  refine lv_bipush (v := 60) hx hb dX0_isFull_4 (by decide) ?_
  refine lv_icmp_lt (tgt := 13) hx hb dX0_isFull_6 (by decide) (fun c_6 => ?_) (fun c_6 => ?_)
  · have c_6n : kc < 60 := k_ltN (a := kc) (b := 60) (by omega) (by omega) c_6
    refine lv_iconst (v := 0) hx hb dX0_isFull_13 (by decide) ?_
    exact hret _ _ _ _ 0 () dX0_isFull_14 (Or.inr (Or.inl rfl)) (bI_f (by omega)).symm hP hS
  · have c_6n : ¬ kc < 60 := k_nltN (a := kc) (b := 60) (by omega) (by omega) c_6
    refine lv_iconst (v := 1) hx hb dX0_isFull_9 (by decide) ?_
    refine lv_goto (tgt := 14) hx hb dX0_isFull_10 (by decide) ?_
    exact hret _ _ _ _ 1 () dX0_isFull_14 (Or.inr (Or.inr rfl)) (bI_t (by omega)).symm hP hS

set_option maxHeartbeats 4000000 in
set_option maxRecDepth 100000 in
theorem c_X0_append (l : Launch) (D : va_G) (cy : ClassId × ClassId × ClassId) (b0 b1 b2 b3 b4 b5 b6 b7 : Nat) (iss sb fst len off ren que : Nat → Int32) (kc : Nat) (i_ : Int32) (s_ : Int32) (f_ : Int32) (l_ : Int32) (o_ : Int32) (hc : kc < 60) : kI l D cy yX0_append wsX0_append (krm 0 0) [.ref b0, .int i_, .int s_, .int f_, .int l_, .int o_] (wC cy b0 b1 b2 b3 b4 b5 b6 b7 iss sb fst len off ren que kc) (fun (r : Int32) (u : Unit) => r = nI kc) (fun _ : Unit => wC cy b0 b1 b2 b3 b4 b5 b6 b7 (upd iss kc i_) (upd sb kc s_) (upd fst kc f_) (upd len kc l_) (upd off kc o_) (upd ren kc (-1)) que (kc + 1)) := by
  refine kI.of (cc := cX0_append) (maxL := 7) (rt := .int) (Or.inl rfl) (by decide) rfl (Nat.le_of_ble_eq_true rfl) ?_
  intro p e s m args below meth c Q A ls hx hb hml hown hts hE hA hP hD hl hret
  have hS : va_S A s.heap s.heap [] := va_S.rf
  have hl : lv_has ls 7 [(0, .ref b0), (1, .int i_), (2, .int s_), (3, .int f_), (4, .int l_), (5, .int o_)] := hl
  have g_X0 : ∀ w ∈ wsX00, w ∈ wsX0_append := by decide +kernel
  have f_33 := hts (.fieldLink RX0 33 "CertHerd$CertificateTable" "count" "I") (by decide +kernel)
  have f_11 := hts (.fieldLink RX0 11 "CertHerd$CertificateTable" "issuerNumbers" "[I") (by decide +kernel)
  have f_15 := hts (.fieldLink RX0 15 "CertHerd$CertificateTable" "subjects" "[I") (by decide +kernel)
  have f_18 := hts (.fieldLink RX0 18 "CertHerd$CertificateTable" "firstDays" "[I") (by decide +kernel)
  have f_21 := hts (.fieldLink RX0 21 "CertHerd$CertificateTable" "lengths" "[I") (by decide +kernel)
  have f_24 := hts (.fieldLink RX0 24 "CertHerd$CertificateTable" "offsets" "[I") (by decide +kernel)
  have f_27 := hts (.fieldLink RX0 27 "CertHerd$CertificateTable" "renewals" "[I") (by decide +kernel)
  refine lv_aload_n hx hb dX0_append_0 rfl (lv_at hl 0 rfl) ?_
  refine va_get (D := D) (ci := 0) (v := .int (nI kc)) (C := RX0) (T := TX0) (N := 8) hx hb hts g_X0 hown hE.1 hP 0 rfl rfl 7 (by decide) f_33 (fun _ h9 => h9) rfl dX0_append_1 ?_
  refine lv_istore (lv' := [(6, .int (nI kc)), (0, .ref b0), (1, .int i_), (2, .int s_), (3, .int f_), (4, .int l_), (5, .int o_)]) hx hb dX0_append_4 hl (by decide) rfl (fun ls hl => ?_)
  refine lv_aload_n hx hb dX0_append_6 rfl (lv_at hl 1 rfl) ?_
  refine va_get (D := D) (ci := 0) (v := .ref b1) (C := RX0) (T := TX0) (N := 8) hx hb hts g_X0 hown hE.1 hP 0 rfl rfl 0 (by decide) f_11 (fun _ h9 => h9) rfl dX0_append_7 ?_
  refine lv_iload hx hb dX0_append_10 (lv_at hl 0 rfl) ?_
  refine lv_iload_n hx hb dX0_append_12 rfl (lv_at hl 2 rfl) ?_
  refine k_ist hx hb hE.1 hP hD hS 1 0 rfl rfl (j := kc) (by omega) (by decide) dX0_append_13 (fun H locs hP hD hS => ?_)
  have hP : va_P D vwCl (wC cy b0 b1 b2 b3 b4 b5 b6 b7 (upd iss kc i_) sb fst len off ren que kc) H := hP
  have hD : va_D A (wC cy b0 b1 b2 b3 b4 b5 b6 b7 (upd iss kc i_) sb fst len off ren que kc) := hD
  refine lv_aload_n hx hb dX0_append_14 rfl (lv_at hl 1 rfl) ?_
  refine va_get (D := D) (ci := 0) (v := .ref b2) (C := RX0) (T := TX0) (N := 8) hx hb hts g_X0 hown hE.1 hP 0 rfl rfl 1 (by decide) f_15 (fun _ h9 => h9) rfl dX0_append_15 ?_
  refine lv_iload hx hb dX0_append_18 (lv_at hl 0 rfl) ?_
  refine lv_iload_n hx hb dX0_append_20 rfl (lv_at hl 3 rfl) ?_
  refine k_ist hx hb hE.1 hP hD hS 2 0 rfl rfl (j := kc) (by omega) (by decide) dX0_append_21 (fun H locs hP hD hS => ?_)
  have hP : va_P D vwCl (wC cy b0 b1 b2 b3 b4 b5 b6 b7 (upd iss kc i_) (upd sb kc s_) fst len off ren que kc) H := hP
  have hD : va_D A (wC cy b0 b1 b2 b3 b4 b5 b6 b7 (upd iss kc i_) (upd sb kc s_) fst len off ren que kc) := hD
  refine lv_aload_n hx hb dX0_append_22 rfl (lv_at hl 1 rfl) ?_
  refine va_get (D := D) (ci := 0) (v := .ref b3) (C := RX0) (T := TX0) (N := 8) hx hb hts g_X0 hown hE.1 hP 0 rfl rfl 2 (by decide) f_18 (fun _ h9 => h9) rfl dX0_append_23 ?_
  refine lv_iload hx hb dX0_append_26 (lv_at hl 0 rfl) ?_
  refine lv_iload_n hx hb dX0_append_28 rfl (lv_at hl 4 rfl) ?_
  refine k_ist hx hb hE.1 hP hD hS 3 0 rfl rfl (j := kc) (by omega) (by decide) dX0_append_29 (fun H locs hP hD hS => ?_)
  have hP : va_P D vwCl (wC cy b0 b1 b2 b3 b4 b5 b6 b7 (upd iss kc i_) (upd sb kc s_) (upd fst kc f_) len off ren que kc) H := hP
  have hD : va_D A (wC cy b0 b1 b2 b3 b4 b5 b6 b7 (upd iss kc i_) (upd sb kc s_) (upd fst kc f_) len off ren que kc) := hD
  refine lv_aload_n hx hb dX0_append_30 rfl (lv_at hl 1 rfl) ?_
  refine va_get (D := D) (ci := 0) (v := .ref b4) (C := RX0) (T := TX0) (N := 8) hx hb hts g_X0 hown hE.1 hP 0 rfl rfl 3 (by decide) f_21 (fun _ h9 => h9) rfl dX0_append_31 ?_
  refine lv_iload hx hb dX0_append_34 (lv_at hl 0 rfl) ?_
  refine lv_iload hx hb dX0_append_36 (lv_at hl 5 rfl) ?_
  refine k_ist hx hb hE.1 hP hD hS 4 0 rfl rfl (j := kc) (by omega) (by decide) dX0_append_38 (fun H locs hP hD hS => ?_)
  have hP : va_P D vwCl (wC cy b0 b1 b2 b3 b4 b5 b6 b7 (upd iss kc i_) (upd sb kc s_) (upd fst kc f_) (upd len kc l_) off ren que kc) H := hP
  have hD : va_D A (wC cy b0 b1 b2 b3 b4 b5 b6 b7 (upd iss kc i_) (upd sb kc s_) (upd fst kc f_) (upd len kc l_) off ren que kc) := hD
  refine lv_aload_n hx hb dX0_append_39 rfl (lv_at hl 1 rfl) ?_
  refine va_get (D := D) (ci := 0) (v := .ref b5) (C := RX0) (T := TX0) (N := 8) hx hb hts g_X0 hown hE.1 hP 0 rfl rfl 4 (by decide) f_24 (fun _ h9 => h9) rfl dX0_append_40 ?_
  refine lv_iload hx hb dX0_append_43 (lv_at hl 0 rfl) ?_
  refine lv_iload hx hb dX0_append_45 (lv_at hl 6 rfl) ?_
  refine k_ist hx hb hE.1 hP hD hS 5 0 rfl rfl (j := kc) (by omega) (by decide) dX0_append_47 (fun H locs hP hD hS => ?_)
  have hP : va_P D vwCl (wC cy b0 b1 b2 b3 b4 b5 b6 b7 (upd iss kc i_) (upd sb kc s_) (upd fst kc f_) (upd len kc l_) (upd off kc o_) ren que kc) H := hP
  have hD : va_D A (wC cy b0 b1 b2 b3 b4 b5 b6 b7 (upd iss kc i_) (upd sb kc s_) (upd fst kc f_) (upd len kc l_) (upd off kc o_) ren que kc) := hD
  refine lv_aload_n hx hb dX0_append_48 rfl (lv_at hl 1 rfl) ?_
  refine va_get (D := D) (ci := 0) (v := .ref b6) (C := RX0) (T := TX0) (N := 8) hx hb hts g_X0 hown hE.1 hP 0 rfl rfl 5 (by decide) f_27 (fun _ h9 => h9) rfl dX0_append_49 ?_
  refine lv_iload hx hb dX0_append_52 (lv_at hl 0 rfl) ?_
  refine lv_iconst (v := (-1)) hx hb dX0_append_54 (by decide) ?_
  refine k_ist hx hb hE.1 hP hD hS 6 0 rfl rfl (j := kc) (by omega) (by decide) dX0_append_55 (fun H locs hP hD hS => ?_)
  have hP : va_P D vwCl (wC cy b0 b1 b2 b3 b4 b5 b6 b7 (upd iss kc i_) (upd sb kc s_) (upd fst kc f_) (upd len kc l_) (upd off kc o_) (upd ren kc (-1)) que kc) H := hP
  have hD : va_D A (wC cy b0 b1 b2 b3 b4 b5 b6 b7 (upd iss kc i_) (upd sb kc s_) (upd fst kc f_) (upd len kc l_) (upd off kc o_) (upd ren kc (-1)) que kc) := hD
  refine lv_aload_n hx hb dX0_append_56 rfl (lv_at hl 1 rfl) ?_
  refine lv_dup hx hb dX0_append_57 rfl ?_
  refine va_get (D := D) (ci := 0) (v := .int (nI kc)) (C := RX0) (T := TX0) (N := 8) hx hb hts g_X0 hown hE.1 hP 0 rfl rfl 7 (by decide) f_33 (fun _ h9 => h9) rfl dX0_append_58 ?_
  refine lv_iconst (v := 1) hx hb dX0_append_61 (by decide) ?_
  refine lv_iadd hx hb dX0_append_62 ?_
  refine k_top (z := nI (kc + 1)) (nI_1 _) ?_
  refine va_put (D := D) (ci := 0) (v := .int (nI (kc + 1))) (ty := .int) (C := RX0) (T := TX0) (N := 8) hx hb hts g_X0 tyX0 tyX0_ok nmX0 hown hE.1 hP hD hS 0 rfl rfl 7 (by decide) f_33 (fun _ h9 => h9) rfl (by decide +kernel) rfl rfl (Nat.le_of_ble_eq_true rfl) dX0_append_63 (fun H locs hP hD hS => ?_)
  have hP : va_P D vwCl (wC cy b0 b1 b2 b3 b4 b5 b6 b7 (upd iss kc i_) (upd sb kc s_) (upd fst kc f_) (upd len kc l_) (upd off kc o_) (upd ren kc (-1)) que (kc + 1)) H := hP
  have hD : va_D A (wC cy b0 b1 b2 b3 b4 b5 b6 b7 (upd iss kc i_) (upd sb kc s_) (upd fst kc f_) (upd len kc l_) (upd off kc o_) (upd ren kc (-1)) que (kc + 1)) := hD
  refine lv_iload hx hb dX0_append_66 (lv_at hl 0 rfl) ?_
  exact hret _ _ _ _ (nI kc) () dX0_append_68 (Or.inl rfl) rfl hP hS

set_option maxHeartbeats 4000000 in
set_option maxRecDepth 100000 in
theorem c_X0_endOf (l : Launch) (D : va_G) (cy : ClassId × ClassId × ClassId) (b0 b1 b2 b3 b4 b5 b6 b7 : Nat) (iss sb fst len off ren que : Nat → Int32) (kc : Nat) (j : Nat) (hj : j < 60) : kI l D cy yX0_endOf wsX0_endOf (krm 0 0) [.ref b0, .int (nI j)] (wC cy b0 b1 b2 b3 b4 b5 b6 b7 iss sb fst len off ren que kc) (fun (r : Int32) (u : Unit) => r = ctEnd fst len j) (fun _ : Unit => wC cy b0 b1 b2 b3 b4 b5 b6 b7 iss sb fst len off ren que kc) := by
  refine kI.of (cc := cX0_endOf) (maxL := 2) (rt := .int) (Or.inl rfl) (by decide) rfl (Nat.le_of_ble_eq_true rfl) ?_
  intro p e s m args below meth c Q A ls hx hb hml hown hts hE hA hP hD hl hret
  have hS : va_S A s.heap s.heap [] := va_S.rf
  have hl : lv_has ls 2 [(0, .ref b0), (1, .int (nI j))] := hl
  have g_X0 : ∀ w ∈ wsX00, w ∈ wsX0_endOf := by decide +kernel
  have f_18 := hts (.fieldLink RX0 18 "CertHerd$CertificateTable" "firstDays" "[I") (by decide +kernel)
  have f_21 := hts (.fieldLink RX0 21 "CertHerd$CertificateTable" "lengths" "[I") (by decide +kernel)
  refine lv_aload_n hx hb dX0_endOf_0 rfl (lv_at hl 0 rfl) ?_
  refine va_get (D := D) (ci := 0) (v := .ref b3) (C := RX0) (T := TX0) (N := 8) hx hb hts g_X0 hown hE.1 hP 0 rfl rfl 2 (by decide) f_18 (fun _ h9 => h9) rfl dX0_endOf_1 ?_
  refine lv_iload_n hx hb dX0_endOf_4 rfl (lv_at hl 1 rfl) ?_
  refine k_ild hx hb hE.1 hP 3 0 rfl rfl (j := j) (by omega) (by decide) dX0_endOf_5 ?_
  refine lv_aload_n hx hb dX0_endOf_6 rfl (lv_at hl 0 rfl) ?_
  refine va_get (D := D) (ci := 0) (v := .ref b4) (C := RX0) (T := TX0) (N := 8) hx hb hts g_X0 hown hE.1 hP 0 rfl rfl 3 (by decide) f_21 (fun _ h9 => h9) rfl dX0_endOf_7 ?_
  refine lv_iload_n hx hb dX0_endOf_10 rfl (lv_at hl 1 rfl) ?_
  refine k_ild hx hb hE.1 hP 4 0 rfl rfl (j := j) (by omega) (by decide) dX0_endOf_11 ?_
  refine lv_iadd hx hb dX0_endOf_12 ?_
  refine lv_iconst (v := 1) hx hb dX0_endOf_13 (by decide) ?_
  refine lv_isub hx hb dX0_endOf_14 ?_
  exact hret _ _ _ _ (((fst j) + (len j)) - 1) () dX0_endOf_15 (Or.inl rfl) rfl hP hS

set_option maxHeartbeats 4000000 in
set_option maxRecDepth 100000 in
theorem c_X0_dueDayOf (l : Launch) (D : va_G) (cy : ClassId × ClassId × ClassId) (b0 b1 b2 b3 b4 b5 b6 b7 : Nat) (iss sb fst len off ren que : Nat → Int32) (kc : Nat) (j : Nat) (hj : j < 60) : kI l D cy yX0_dueDayOf wsX0_dueDayOf (krm 0 0) [.ref b0, .int (nI j)] (wC cy b0 b1 b2 b3 b4 b5 b6 b7 iss sb fst len off ren que kc) (fun (r : Int32) (u : Unit) => r = ctDue fst len off j) (fun _ : Unit => wC cy b0 b1 b2 b3 b4 b5 b6 b7 iss sb fst len off ren que kc) := by
  refine kI.of (cc := cX0_dueDayOf) (maxL := 2) (rt := .int) (Or.inl rfl) (by decide) rfl (Nat.le_of_ble_eq_true rfl) ?_
  intro p e s m args below meth c Q A ls hx hb hml hown hts hE hA hP hD hl hret
  have hS : va_S A s.heap s.heap [] := va_S.rf
  have hl : lv_has ls 2 [(0, .ref b0), (1, .int (nI j))] := hl
  have g_X0 : ∀ w ∈ wsX00, w ∈ wsX0_dueDayOf := by decide +kernel
  have f_18 := hts (.fieldLink RX0 18 "CertHerd$CertificateTable" "firstDays" "[I") (by decide +kernel)
  have f_21 := hts (.fieldLink RX0 21 "CertHerd$CertificateTable" "lengths" "[I") (by decide +kernel)
  have f_24 := hts (.fieldLink RX0 24 "CertHerd$CertificateTable" "offsets" "[I") (by decide +kernel)
  refine lv_aload_n hx hb dX0_dueDayOf_0 rfl (lv_at hl 0 rfl) ?_
  refine va_get (D := D) (ci := 0) (v := .ref b3) (C := RX0) (T := TX0) (N := 8) hx hb hts g_X0 hown hE.1 hP 0 rfl rfl 2 (by decide) f_18 (fun _ h9 => h9) rfl dX0_dueDayOf_1 ?_
  refine lv_iload_n hx hb dX0_dueDayOf_4 rfl (lv_at hl 1 rfl) ?_
  refine k_ild hx hb hE.1 hP 3 0 rfl rfl (j := j) (by omega) (by decide) dX0_dueDayOf_5 ?_
  refine lv_aload_n hx hb dX0_dueDayOf_6 rfl (lv_at hl 0 rfl) ?_
  refine va_get (D := D) (ci := 0) (v := .ref b4) (C := RX0) (T := TX0) (N := 8) hx hb hts g_X0 hown hE.1 hP 0 rfl rfl 3 (by decide) f_21 (fun _ h9 => h9) rfl dX0_dueDayOf_7 ?_
  refine lv_iload_n hx hb dX0_dueDayOf_10 rfl (lv_at hl 1 rfl) ?_
  refine k_ild hx hb hE.1 hP 4 0 rfl rfl (j := j) (by omega) (by decide) dX0_dueDayOf_11 ?_
  refine lv_iconst (v := 2) hx hb dX0_dueDayOf_12 (by decide) ?_
  refine lv_imul hx hb dX0_dueDayOf_13 ?_
  refine lv_iconst (v := 3) hx hb dX0_dueDayOf_14 (by decide) ?_
  refine lv_idiv hx hb dX0_dueDayOf_15 (by decide) ?_
  refine lv_iadd hx hb dX0_dueDayOf_16 ?_
  refine lv_aload_n hx hb dX0_dueDayOf_17 rfl (lv_at hl 0 rfl) ?_
  refine va_get (D := D) (ci := 0) (v := .ref b5) (C := RX0) (T := TX0) (N := 8) hx hb hts g_X0 hown hE.1 hP 0 rfl rfl 4 (by decide) f_24 (fun _ h9 => h9) rfl dX0_dueDayOf_18 ?_
  refine lv_iload_n hx hb dX0_dueDayOf_21 rfl (lv_at hl 1 rfl) ?_
  refine k_ild hx hb hE.1 hP 5 0 rfl rfl (j := j) (by omega) (by decide) dX0_dueDayOf_22 ?_
  refine lv_iadd hx hb dX0_dueDayOf_23 ?_
  exact hret _ _ _ _ (((fst j) + (((len j) * 2) / 3)) + (off j)) () dX0_dueDayOf_24 (Or.inl rfl) rfl hP hS

set_option maxHeartbeats 4000000 in
set_option maxRecDepth 100000 in
theorem c_X0_isWaiting (l : Launch) (D : va_G) (cy : ClassId × ClassId × ClassId) (b0 b1 b2 b3 b4 b5 b6 b7 : Nat) (iss sb fst len off ren que : Nat → Int32) (kc : Nat) (j : Nat) (day : Int32) (hj : j < 60) : kI l D cy yX0_isWaiting wsX0_isWaiting (krm 1 21) [.ref b0, .int (nI j), .int day] (wC cy b0 b1 b2 b3 b4 b5 b6 b7 iss sb fst len off ren que kc) (fun (r : Int32) (u : Unit) => r = bI (waitP fst len off ren day j)) (fun _ : Unit => wC cy b0 b1 b2 b3 b4 b5 b6 b7 iss sb fst len off ren que kc) := by
  refine kI.of (cc := cX0_isWaiting) (maxL := 3) (rt := .boolean) (Or.inr rfl) (by decide) rfl (Nat.le_of_ble_eq_true rfl) ?_
  intro p e s m args below meth c Q A ls hx hb hml hown hts hE hA hP hD hl hret
  have hS : va_S A s.heap s.heap [] := va_S.rf
  have hl : lv_has ls 3 [(0, .ref b0), (1, .int (nI j)), (2, .int day)] := hl
  have g_X0 : ∀ w ∈ wsX00, w ∈ wsX0_isWaiting := by decide +kernel
  have f_27 := hts (.fieldLink RX0 27 "CertHerd$CertificateTable" "renewals" "[I") (by decide +kernel)
  refine lv_aload_n hx hb dX0_isWaiting_0 rfl (lv_at hl 0 rfl) ?_
  refine lv_iload_n hx hb dX0_isWaiting_1 rfl (lv_at hl 1 rfl) ?_
  refine kcW_i (n := 1) (wc := wC cy b0 b1 b2 b3 b4 b5 b6 b7 iss sb fst len off ren que kc) (As := [.int (nI j)]) (rest := []) ⟨hx, hb, hml, hown, hts⟩ hE hA hP hD hS (c_X0_dueDayOf l D cy b0 b1 b2 b3 b4 b5 b6 b7 iss sb fst len off ren que kc j (by first | assumption | omega)) (fun _ => rfl) (q0 := 0) (ci := 0) rfl rfl gX0_isWaiting_X0_dueDayOf rfl rfl rfl ⟨rfl, by decide, by decide, by decide +kernel⟩ ⟨Nat.le_of_ble_eq_true rfl, Nat.le_of_ble_eq_true rfl⟩ rfl hl.1 rfl (Nat.le_of_ble_eq_true rfl) dX0_isWaiting_2 ⟨Nat.zero_le _, Nat.zero_le _⟩ (fun r_1 u H locs e_2 hP hD hS => ?_)
  have hP : va_P D vwCl (wC cy b0 b1 b2 b3 b4 b5 b6 b7 iss sb fst len off ren que kc) H := hP
  have hD : va_D A (wC cy b0 b1 b2 b3 b4 b5 b6 b7 iss sb fst len off ren que kc) := hD
  have e_2 : r_1 = ctDue fst len off j := e_2
  subst e_2
  refine lv_iload_n hx hb dX0_isWaiting_5 rfl (lv_at hl 2 rfl) ?_
  refine lv_icmp_gt (tgt := 32) hx hb dX0_isWaiting_6 (by decide) (fun c_6 => ?_) (fun c_6 => ?_)
  · refine lv_iconst (v := 0) hx hb dX0_isWaiting_32 (by decide) ?_
    exact hret _ _ _ _ 0 () dX0_isWaiting_33 (Or.inr (Or.inl rfl)) (bI_f (by simp [c_6, waitP])).symm hP hS
  · refine lv_aload_n hx hb dX0_isWaiting_9 rfl (lv_at hl 0 rfl) ?_
    refine va_get (D := D) (ci := 0) (v := .ref b6) (C := RX0) (T := TX0) (N := 8) hx hb hts g_X0 hown hE.1 hP 0 rfl rfl 5 (by decide) f_27 (fun _ h9 => h9) rfl dX0_isWaiting_10 ?_
    refine lv_iload_n hx hb dX0_isWaiting_13 rfl (lv_at hl 1 rfl) ?_
    refine k_ild hx hb hE.1 hP 6 0 rfl rfl (j := j) (by omega) (by decide) dX0_isWaiting_14 ?_
    refine lv_iconst (v := (-1)) hx hb dX0_isWaiting_15 (by decide) ?_
    refine lv_icmp_ne (tgt := 32) hx hb dX0_isWaiting_16 (by decide) (fun c_16 => ?_) (fun c_16 => ?_)
    · refine lv_iconst (v := 0) hx hb dX0_isWaiting_32 (by decide) ?_
      exact hret _ _ _ _ 0 () dX0_isWaiting_33 (Or.inr (Or.inl rfl)) (bI_f (by simp [c_6, c_16, waitP])).symm hP hS
    · refine lv_iload_n hx hb dX0_isWaiting_19 rfl (lv_at hl 2 rfl) ?_
      refine lv_aload_n hx hb dX0_isWaiting_20 rfl (lv_at hl 0 rfl) ?_
      refine lv_iload_n hx hb dX0_isWaiting_21 rfl (lv_at hl 1 rfl) ?_
      refine kcW_i (n := 1) (wc := wC cy b0 b1 b2 b3 b4 b5 b6 b7 iss sb fst len off ren que kc) (As := [.int (nI j)]) (rest := [.int day]) ⟨hx, hb, hml, hown, hts⟩ hE hA hP hD hS (c_X0_endOf l D cy b0 b1 b2 b3 b4 b5 b6 b7 iss sb fst len off ren que kc j (by first | assumption | omega)) (fun _ => rfl) (q0 := 0) (ci := 0) rfl rfl gX0_isWaiting_X0_endOf rfl rfl rfl ⟨rfl, by decide, by decide, by decide +kernel⟩ ⟨Nat.le_of_ble_eq_true rfl, Nat.le_of_ble_eq_true rfl⟩ rfl hl.1 rfl (Nat.le_of_ble_eq_true rfl) dX0_isWaiting_22 ⟨Nat.zero_le _, Nat.zero_le _⟩ (fun r_3 u H locs e_4 hP hD hS => ?_)
      have hP : va_P D vwCl (wC cy b0 b1 b2 b3 b4 b5 b6 b7 iss sb fst len off ren que kc) H := hP
      have hD : va_D A (wC cy b0 b1 b2 b3 b4 b5 b6 b7 iss sb fst len off ren que kc) := hD
      have e_4 : r_3 = ctEnd fst len j := e_4
      subst e_4
      refine lv_icmp_gt (tgt := 32) hx hb dX0_isWaiting_25 (by decide) (fun c_25 => ?_) (fun c_25 => ?_)
      · refine lv_iconst (v := 0) hx hb dX0_isWaiting_32 (by decide) ?_
        exact hret _ _ _ _ 0 () dX0_isWaiting_33 (Or.inr (Or.inl rfl)) (bI_f (by simp [c_6, c_16, c_25, waitP])).symm hP hS
      · refine lv_iconst (v := 1) hx hb dX0_isWaiting_28 (by decide) ?_
        refine lv_goto (tgt := 33) hx hb dX0_isWaiting_29 (by decide) ?_
        exact hret _ _ _ _ 1 () dX0_isWaiting_33 (Or.inr (Or.inr rfl)) (bI_t (by simp [c_6, c_16, c_25, waitP])).symm hP hS

set_option maxHeartbeats 4000000 in
set_option maxRecDepth 100000 in
theorem c_X0_issuedInWeek (l : Launch) (D : va_G) (cy : ClassId × ClassId × ClassId) (b0 b1 b2 b3 b4 b5 b6 b7 : Nat) (iss sb fst len off ren que : Nat → Int32) (kc : Nat) (iu : Int32) (wk : Int32) (hc : kc ≤ 60) : kI l D cy yX0_issuedInWeek wsX0_issuedInWeek (krm 1 20) [.ref b0, .int iu, .int wk] (wC cy b0 b1 b2 b3 b4 b5 b6 b7 iss sb fst len off ren que kc) (fun (r : Int32) (u : Unit) => r = iwN iss fst iu wk kc) (fun _ : Unit => wC cy b0 b1 b2 b3 b4 b5 b6 b7 iss sb fst len off ren que kc) := by
  refine kI.of (cc := cX0_issuedInWeek) (maxL := 5) (rt := .int) (Or.inl rfl) (by decide) rfl (Nat.le_of_ble_eq_true rfl) ?_
  intro p e s m args below meth c Q A ls hx hb hml hown hts hE hA hP hD hl hret
  have hS : va_S A s.heap s.heap [] := va_S.rf
  have hl : lv_has ls 5 [(0, .ref b0), (1, .int iu), (2, .int wk)] := hl
  have g_X0 : ∀ w ∈ wsX00, w ∈ wsX0_issuedInWeek := by decide +kernel
  have f_33 := hts (.fieldLink RX0 33 "CertHerd$CertificateTable" "count" "I") (by decide +kernel)
  have f_11 := hts (.fieldLink RX0 11 "CertHerd$CertificateTable" "issuerNumbers" "[I") (by decide +kernel)
  have f_18 := hts (.fieldLink RX0 18 "CertHerd$CertificateTable" "firstDays" "[I") (by decide +kernel)
  refine lv_iconst (v := 0) hx hb dX0_issuedInWeek_0 (by decide) ?_
  refine lv_istore_n (lv' := [(3, .int 0), (0, .ref b0), (1, .int iu), (2, .int wk)]) hx hb dX0_issuedInWeek_1 rfl hl (by decide) rfl (fun ls hl => ?_)
  refine lv_iconst (v := 0) hx hb dX0_issuedInWeek_2 (by decide) ?_
  refine lv_istore (lv' := [(4, .int 0), (3, .int 0), (0, .ref b0), (1, .int iu), (2, .int wk)]) hx hb dX0_issuedInWeek_3 hl (by decide) rfl (fun ls hl => ?_)
  have L_5 : ∀ (f : Nat) (k : Nat) (g : Int32) (H : Heap) (locs : List Loc) (ls : Array Slot), ((kc - k) < f) → (k ≤ kc) → (g = iwN iss fst iu wk k) → va_P D vwCl (wC cy b0 b1 b2 b3 b4 b5 b6 b7 iss sb fst len off ren que kc) H → va_D A (wC cy b0 b1 b2 b3 b4 b5 b6 b7 iss sb fst len off ren que kc) → va_S A s.heap H locs → lv_has ls 5 [(4, .int (nI k)), (3, .int g), (0, .ref b0), (1, .int iu), (2, .int wk)] → W p l e (krm 1 20) s m args below meth c H locs 0 0 Q (F0 m 5 ls []) := by
    intro f
    induction f with
    | zero => intro k g H locs ls hf; exact absurd hf (Nat.not_lt_zero _)
    | succ f ih_5 =>
      intro k g H locs ls hf hk eg hP hD hS hl
      refine lv_iload hx hb dX0_issuedInWeek_5 (lv_at hl 0 rfl) ?_
      refine lv_aload_n hx hb dX0_issuedInWeek_7 rfl (lv_at hl 2 rfl) ?_
      refine va_get (D := D) (ci := 0) (v := .int (nI kc)) (C := RX0) (T := TX0) (N := 8) hx hb hts g_X0 hown hE.1 hP 0 rfl rfl 7 (by decide) f_33 (fun _ h9 => h9) rfl dX0_issuedInWeek_8 ?_
      refine lv_icmp_ge (tgt := 48) hx hb dX0_issuedInWeek_11 (by decide) (fun c_11 => ?_) (fun c_11 => ?_)
      · have c_11n : kc ≤ k := k_leN (a := kc) (b := k) (by omega) (by omega) c_11
        refine lv_iload_n hx hb dX0_issuedInWeek_48 rfl (lv_at hl 1 rfl) ?_
        exact hret _ _ _ _ g () dX0_issuedInWeek_49 (Or.inl rfl) (by have e9 : k = kc := (by omega); subst e9; exact eg) hP hS
      · have c_11n : ¬ kc ≤ k := k_nleN (a := kc) (b := k) (by omega) (by omega) c_11
        have hk8 : k < 60 := by omega
        refine lv_aload_n hx hb dX0_issuedInWeek_14 rfl (lv_at hl 2 rfl) ?_
        refine va_get (D := D) (ci := 0) (v := .ref b1) (C := RX0) (T := TX0) (N := 8) hx hb hts g_X0 hown hE.1 hP 0 rfl rfl 0 (by decide) f_11 (fun _ h9 => h9) rfl dX0_issuedInWeek_15 ?_
        refine lv_iload hx hb dX0_issuedInWeek_18 (lv_at hl 0 rfl) ?_
        refine k_ild hx hb hE.1 hP 1 0 rfl rfl (j := k) (by omega) (by decide) dX0_issuedInWeek_20 ?_
        refine lv_iload_n hx hb dX0_issuedInWeek_21 rfl (lv_at hl 3 rfl) ?_
        refine lv_icmp_ne (tgt := 42) hx hb dX0_issuedInWeek_22 (by decide) (fun c_22 => ?_) (fun c_22 => ?_)
        · refine lv_iinc (v := (nI (k + 1))) (lv' := [(4, .int (nI (k + 1))), (3, .int g), (0, .ref b0), (1, .int iu), (2, .int wk)]) hx hb dX0_issuedInWeek_42 hl (k := 0) rfl (k_inc _) (by decide) rfl (fun ls hl => ?_)
          refine lv_goto (tgt := 5) hx hb dX0_issuedInWeek_45 (by decide) ?_
          exact ih_5 (k + 1) g _ _ ls (by omega) (by omega) (by subst eg; rw [iwN]; exact (if_neg (fun h => c_22 h.1)).symm) hP hD hS (lv_sub hl [0, 1, 2, 3, 4] rfl)
        · refine lv_aload_n hx hb dX0_issuedInWeek_25 rfl (lv_at hl 2 rfl) ?_
          refine va_get (D := D) (ci := 0) (v := .ref b3) (C := RX0) (T := TX0) (N := 8) hx hb hts g_X0 hown hE.1 hP 0 rfl rfl 2 (by decide) f_18 (fun _ h9 => h9) rfl dX0_issuedInWeek_26 ?_
          refine lv_iload hx hb dX0_issuedInWeek_29 (lv_at hl 0 rfl) ?_
          refine k_ild hx hb hE.1 hP 3 0 rfl rfl (j := k) (by omega) (by decide) dX0_issuedInWeek_31 ?_
          refine kcN_i (n := 1) (X := []) (wc := []) (Y := wC cy b0 b1 b2 b3 b4 b5 b6 b7 iss sb fst len off ren que kc) (As := [.int (fst k)]) (rest := []) ⟨hx, hb, hml, hown, hts⟩ hE hA hP hD hS (c_X2_weekOf l D cy (fst k)) (fun _ => rfl) hE.2.1 (hts (.static yX2_weekOf) (by decide +kernel)) (hts (.initialized RX2) (by decide +kernel)) gX0_issuedInWeek_X2_weekOf_n44 rfl rfl rfl ⟨by decide, by decide, by decide +kernel⟩ ⟨Nat.le_of_ble_eq_true rfl, Nat.le_of_ble_eq_true rfl⟩ rfl hl.1 rfl (Nat.le_of_ble_eq_true rfl) dX0_issuedInWeek_32 ⟨Nat.zero_le _, Nat.zero_le _⟩ (fun r_1 u H locs e_2 hP hD hS => ?_)
          have hP : va_P D vwCl (wC cy b0 b1 b2 b3 b4 b5 b6 b7 iss sb fst len off ren que kc) H := hP
          have hD : va_D A (wC cy b0 b1 b2 b3 b4 b5 b6 b7 iss sb fst len off ren que kc) := hD
          have e_2 : r_1 = (fst k) / 7 := e_2
          subst e_2
          refine lv_iload_n hx hb dX0_issuedInWeek_35 rfl (lv_at hl 4 rfl) ?_
          refine lv_icmp_ne (tgt := 42) hx hb dX0_issuedInWeek_36 (by decide) (fun c_36 => ?_) (fun c_36 => ?_)
          · refine lv_iinc (v := (nI (k + 1))) (lv' := [(4, .int (nI (k + 1))), (3, .int g), (0, .ref b0), (1, .int iu), (2, .int wk)]) hx hb dX0_issuedInWeek_42 hl (k := 0) rfl (k_inc _) (by decide) rfl (fun ls hl => ?_)
            refine lv_goto (tgt := 5) hx hb dX0_issuedInWeek_45 (by decide) ?_
            exact ih_5 (k + 1) g _ _ ls (by omega) (by omega) (by subst eg; rw [iwN]; exact (if_neg (fun h => c_36 h.2)).symm) hP hD hS (lv_sub hl [0, 1, 2, 3, 4] rfl)
          · refine lv_iinc (v := (g + 1)) (lv' := [(3, .int (g + 1)), (4, .int (nI k)), (0, .ref b0), (1, .int iu), (2, .int wk)]) hx hb dX0_issuedInWeek_39 hl (k := 1) rfl rfl (by decide) rfl (fun ls hl => ?_)
            refine lv_iinc (v := (nI (k + 1))) (lv' := [(4, .int (nI (k + 1))), (3, .int (g + 1)), (0, .ref b0), (1, .int iu), (2, .int wk)]) hx hb dX0_issuedInWeek_42 hl (k := 1) rfl (k_inc _) (by decide) rfl (fun ls hl => ?_)
            refine lv_goto (tgt := 5) hx hb dX0_issuedInWeek_45 (by decide) ?_
            exact ih_5 (k + 1) (g + 1) _ _ ls (by omega) (by omega) (by subst eg; rw [iwN]; exact (if_pos ⟨c_22, c_36⟩).symm) hP hD hS (lv_sub hl [0, 1, 2, 3, 4] rfl)
  exact L_5 ((kc - 0) + 1) 0 0 _ _ ls (Nat.lt_succ_self _) (by omega) rfl hP hD hS (lv_sub hl [0, 1, 2, 3, 4] rfl)

set_option maxHeartbeats 4000000 in
set_option maxRecDepth 100000 in
theorem c_X0_insert (l : Launch) (D : va_G) (cy : ClassId × ClassId × ClassId) (b0 b1 b2 b3 b4 b5 b6 b7 : Nat) (iss sb fst len off ren que : Nat → Int32) (kc : Nat) (j : Nat) (z : Nat) (hj : j < 60) (hz : z < 60) (hq : ∀ i, i < z → que i = nI (ix (que i)) ∧ ix (que i) < 60) : kV l D cy yX0_insert wsX0_insert (krm 1 21) [.ref b0, .int (nI j), .int (nI z)] (wC cy b0 b1 b2 b3 b4 b5 b6 b7 iss sb fst len off ren que kc) (fun (u : Unit) => True) (fun _ : Unit => wC cy b0 b1 b2 b3 b4 b5 b6 b7 iss sb fst len off ren (insQ fst len j que z) kc) := by
  refine kV.of (cc := cX0_insert) (maxL := 4) (by decide) rfl (Nat.le_of_ble_eq_true rfl) ?_
  intro p e s m args below meth c Q A ls hx hb hml hown hts hE hA hP hD hl hret
  have hS : va_S A s.heap s.heap [] := va_S.rf
  have hl : lv_has ls 4 [(0, .ref b0), (1, .int (nI j)), (2, .int (nI z))] := hl
  have g_X0 : ∀ w ∈ wsX00, w ∈ wsX0_insert := by decide +kernel
  have f_30 := hts (.fieldLink RX0 30 "CertHerd$CertificateTable" "queue" "[I") (by decide +kernel)
  refine lv_iload_n hx hb dX0_insert_0 rfl (lv_at hl 2 rfl) ?_
  refine lv_istore_n (lv' := [(3, .int (nI z)), (0, .ref b0), (1, .int (nI j)), (2, .int (nI z))]) hx hb dX0_insert_1 rfl hl (by decide) rfl (fun ls hl => ?_)
  have L_2 : ∀ (f : Nat) (p_ : Nat) (q_ : Nat → Int32) (H : Heap) (locs : List Loc) (ls : Array Slot), (p_ < f) → (p_ ≤ z) → (∀ i, i < p_ → q_ i = nI (ix (q_ i)) ∧ ix (q_ i) < 60) → (insQ fst len j q_ p_ = insQ fst len j que z) → va_P D vwCl (wC cy b0 b1 b2 b3 b4 b5 b6 b7 iss sb fst len off ren q_ kc) H → va_D A (wC cy b0 b1 b2 b3 b4 b5 b6 b7 iss sb fst len off ren q_ kc) → va_S A s.heap H locs → lv_has ls 4 [(3, .int (nI p_)), (0, .ref b0), (1, .int (nI j)), (2, .int (nI z))] → W p l e (krm 1 21) s m args below meth c H locs 0 0 Q (F0 m 2 ls []) := by
    intro f
    induction f with
    | zero => intro p_ q_ H locs ls hf; exact absurd hf (Nat.not_lt_zero _)
    | succ f ih_2 =>
      intro p_ q_ H locs ls hf hp hq_ eq_ hP hD hS hl
      refine lv_iload_n hx hb dX0_insert_2 rfl (lv_at hl 0 rfl) ?_
      refine lv_if_le (tgt := 46) hx hb dX0_insert_3 (by decide) (fun c_3 => ?_) (fun c_3 => ?_)
      · have c_3n : p_ = 0 := k_le0t (a := p_) (by omega) c_3
        refine lv_aload_n hx hb dX0_insert_46 rfl (lv_at hl 1 rfl) ?_
        refine va_get (D := D) (ci := 0) (v := .ref b7) (C := RX0) (T := TX0) (N := 8) hx hb hts g_X0 hown hE.1 hP 0 rfl rfl 6 (by decide) f_30 (fun _ h9 => h9) rfl dX0_insert_47 ?_
        refine lv_iload_n hx hb dX0_insert_50 rfl (lv_at hl 0 rfl) ?_
        refine lv_iload_n hx hb dX0_insert_51 rfl (lv_at hl 2 rfl) ?_
        refine k_ist hx hb hE.1 hP hD hS 7 0 rfl rfl (j := p_) (by omega) (by decide) dX0_insert_52 (fun H locs hP hD hS => ?_)
        have hP : va_P D vwCl (wC cy b0 b1 b2 b3 b4 b5 b6 b7 iss sb fst len off ren (upd q_ p_ (nI j)) kc) H := hP
        have hD : va_D A (wC cy b0 b1 b2 b3 b4 b5 b6 b7 iss sb fst len off ren (upd q_ p_ (nI j)) kc) := hD
        have w_que : upd q_ p_ (nI j) = insQ fst len j que z := (by first | (rw [← eq_, insQ]; exact (if_pos c_23).symm) | (subst c_3n; rw [← eq_, insQ]))
        exact hret _ _ _ _ () dX0_insert_53 trivial (by show va_P D vwCl (wC cy b0 b1 b2 b3 b4 b5 b6 b7 iss sb fst len off ren (insQ fst len j que z) kc) _; rw [← w_que]; exact hP) hS
      · have c_3n : 0 < p_ := k_le0f (a := p_) (by omega) c_3
        obtain ⟨w_, rfl⟩ : ∃ w_, p_ = w_ + 1 := ⟨p_ - 1, by omega⟩
        obtain ⟨q1, q2⟩ := hq_ w_ (by omega)
        refine lv_aload_n hx hb dX0_insert_6 rfl (lv_at hl 1 rfl) ?_
        refine lv_aload_n hx hb dX0_insert_7 rfl (lv_at hl 1 rfl) ?_
        refine va_get (D := D) (ci := 0) (v := .ref b7) (C := RX0) (T := TX0) (N := 8) hx hb hts g_X0 hown hE.1 hP 0 rfl rfl 6 (by decide) f_30 (fun _ h9 => h9) rfl dX0_insert_8 ?_
        refine lv_iload_n hx hb dX0_insert_11 rfl (lv_at hl 0 rfl) ?_
        refine lv_iconst (v := 1) hx hb dX0_insert_12 (by decide) ?_
        refine lv_isub hx hb dX0_insert_13 ?_
        refine k_top (z := nI w_) (nI_pred _) ?_
        refine k_ild hx hb hE.1 hP 7 0 rfl rfl (j := w_) (by omega) (by decide) dX0_insert_14 ?_
        refine k_top (z := nI (ix (q_ w_))) q1 ?_
        refine kcW_i (n := 1) (wc := wC cy b0 b1 b2 b3 b4 b5 b6 b7 iss sb fst len off ren q_ kc) (As := [.int (nI (ix (q_ w_)))]) (rest := []) ⟨hx, hb, hml, hown, hts⟩ hE hA hP hD hS (c_X0_endOf l D cy b0 b1 b2 b3 b4 b5 b6 b7 iss sb fst len off ren q_ kc (ix (q_ w_)) (by first | assumption | omega)) (fun _ => rfl) (q0 := 0) (ci := 0) rfl rfl gX0_insert_X0_endOf rfl rfl rfl ⟨rfl, by decide, by decide, by decide +kernel⟩ ⟨Nat.le_of_ble_eq_true rfl, Nat.le_of_ble_eq_true rfl⟩ rfl hl.1 rfl (Nat.le_of_ble_eq_true rfl) dX0_insert_15 ⟨Nat.zero_le _, Nat.zero_le _⟩ (fun r_1 u H locs e_2 hP hD hS => ?_)
        have hP : va_P D vwCl (wC cy b0 b1 b2 b3 b4 b5 b6 b7 iss sb fst len off ren q_ kc) H := hP
        have hD : va_D A (wC cy b0 b1 b2 b3 b4 b5 b6 b7 iss sb fst len off ren q_ kc) := hD
        have e_2 : r_1 = ctEnd fst len (ix (q_ w_)) := e_2
        subst e_2
        refine lv_aload_n hx hb dX0_insert_18 rfl (lv_at hl 1 rfl) ?_
        refine lv_iload_n hx hb dX0_insert_19 rfl (lv_at hl 2 rfl) ?_
        refine kcW_i (n := 1) (wc := wC cy b0 b1 b2 b3 b4 b5 b6 b7 iss sb fst len off ren q_ kc) (As := [.int (nI j)]) (rest := [.int (ctEnd fst len (ix (q_ w_)))]) ⟨hx, hb, hml, hown, hts⟩ hE hA hP hD hS (c_X0_endOf l D cy b0 b1 b2 b3 b4 b5 b6 b7 iss sb fst len off ren q_ kc j (by first | assumption | omega)) (fun _ => rfl) (q0 := 0) (ci := 0) rfl rfl gX0_insert_X0_endOf rfl rfl rfl ⟨rfl, by decide, by decide, by decide +kernel⟩ ⟨Nat.le_of_ble_eq_true rfl, Nat.le_of_ble_eq_true rfl⟩ rfl hl.1 rfl (Nat.le_of_ble_eq_true rfl) dX0_insert_20 ⟨Nat.zero_le _, Nat.zero_le _⟩ (fun r_3 u H locs e_4 hP hD hS => ?_)
        have hP : va_P D vwCl (wC cy b0 b1 b2 b3 b4 b5 b6 b7 iss sb fst len off ren q_ kc) H := hP
        have hD : va_D A (wC cy b0 b1 b2 b3 b4 b5 b6 b7 iss sb fst len off ren q_ kc) := hD
        have e_4 : r_3 = ctEnd fst len j := e_4
        subst e_4
        refine lv_icmp_le (tgt := 46) hx hb dX0_insert_23 (by decide) (fun c_23 => ?_) (fun c_23 => ?_)
        · refine lv_aload_n hx hb dX0_insert_46 rfl (lv_at hl 1 rfl) ?_
          refine va_get (D := D) (ci := 0) (v := .ref b7) (C := RX0) (T := TX0) (N := 8) hx hb hts g_X0 hown hE.1 hP 0 rfl rfl 6 (by decide) f_30 (fun _ h9 => h9) rfl dX0_insert_47 ?_
          refine lv_iload_n hx hb dX0_insert_50 rfl (lv_at hl 0 rfl) ?_
          refine lv_iload_n hx hb dX0_insert_51 rfl (lv_at hl 2 rfl) ?_
          refine k_ist hx hb hE.1 hP hD hS 7 0 rfl rfl (j := (w_ + 1)) (by omega) (by decide) dX0_insert_52 (fun H locs hP hD hS => ?_)
          have hP : va_P D vwCl (wC cy b0 b1 b2 b3 b4 b5 b6 b7 iss sb fst len off ren (upd q_ (w_ + 1) (nI j)) kc) H := hP
          have hD : va_D A (wC cy b0 b1 b2 b3 b4 b5 b6 b7 iss sb fst len off ren (upd q_ (w_ + 1) (nI j)) kc) := hD
          have w_que : upd q_ (w_ + 1) (nI j) = insQ fst len j que z := (by first | (rw [← eq_, insQ]; exact (if_pos c_23).symm) | (subst c_3n; rw [← eq_, insQ]))
          exact hret _ _ _ _ () dX0_insert_53 trivial (by show va_P D vwCl (wC cy b0 b1 b2 b3 b4 b5 b6 b7 iss sb fst len off ren (insQ fst len j que z) kc) _; rw [← w_que]; exact hP) hS
        · refine lv_aload_n hx hb dX0_insert_26 rfl (lv_at hl 1 rfl) ?_
          refine va_get (D := D) (ci := 0) (v := .ref b7) (C := RX0) (T := TX0) (N := 8) hx hb hts g_X0 hown hE.1 hP 0 rfl rfl 6 (by decide) f_30 (fun _ h9 => h9) rfl dX0_insert_27 ?_
          refine lv_iload_n hx hb dX0_insert_30 rfl (lv_at hl 0 rfl) ?_
          refine lv_aload_n hx hb dX0_insert_31 rfl (lv_at hl 1 rfl) ?_
          refine va_get (D := D) (ci := 0) (v := .ref b7) (C := RX0) (T := TX0) (N := 8) hx hb hts g_X0 hown hE.1 hP 0 rfl rfl 6 (by decide) f_30 (fun _ h9 => h9) rfl dX0_insert_32 ?_
          refine lv_iload_n hx hb dX0_insert_35 rfl (lv_at hl 0 rfl) ?_
          refine lv_iconst (v := 1) hx hb dX0_insert_36 (by decide) ?_
          refine lv_isub hx hb dX0_insert_37 ?_
          refine k_top (z := nI w_) (nI_pred _) ?_
          refine k_ild hx hb hE.1 hP 7 0 rfl rfl (j := w_) (by omega) (by decide) dX0_insert_38 ?_
          refine k_ist hx hb hE.1 hP hD hS 7 0 rfl rfl (j := (w_ + 1)) (by omega) (by decide) dX0_insert_39 (fun H locs hP hD hS => ?_)
          have hP : va_P D vwCl (wC cy b0 b1 b2 b3 b4 b5 b6 b7 iss sb fst len off ren (upd q_ (w_ + 1) (q_ w_)) kc) H := hP
          have hD : va_D A (wC cy b0 b1 b2 b3 b4 b5 b6 b7 iss sb fst len off ren (upd q_ (w_ + 1) (q_ w_)) kc) := hD
          refine lv_iinc (v := (nI w_)) (lv' := [(3, .int (nI w_)), (0, .ref b0), (1, .int (nI j)), (2, .int (nI z))]) hx hb dX0_insert_40 hl (k := 0) rfl (k_dec _) (by decide) rfl (fun ls hl => ?_)
          refine lv_goto (tgt := 2) hx hb dX0_insert_43 (by decide) ?_
          exact ih_2 w_ (upd q_ (w_ + 1) (q_ w_)) _ _ ls (by omega) (by omega) (by intro i hi; have := hq_ i (by omega); rw [upd_ne _ _ (by omega : i ≠ w_ + 1)]; exact this) (by rw [← eq_, insQ, if_neg c_23]) hP hD hS (lv_sub hl [0, 1, 2, 3] rfl)
  exact L_2 (z + 1) z que _ _ ls (Nat.lt_succ_self _) (by omega) hq rfl hP hD hS (lv_sub hl [0, 1, 2, 3] rfl)

set_option maxHeartbeats 4000000 in
set_option maxRecDepth 100000 in
theorem c_X0_fillQueue (l : Launch) (D : va_G) (cy : ClassId × ClassId × ClassId) (b0 b1 b2 b3 b4 b5 b6 b7 : Nat) (iss sb fst len off ren que : Nat → Int32) (kc : Nat) (day : Int32) (hc : kc ≤ 60) : kI l D cy yX0_fillQueue wsX0_fillQueue (krm 2 44) [.ref b0, .int day] (wC cy b0 b1 b2 b3 b4 b5 b6 b7 iss sb fst len off ren que kc) (fun (r : Int32) (u : Unit) => r = nI (fqS fst len off ren day que kc)) (fun _ : Unit => wC cy b0 b1 b2 b3 b4 b5 b6 b7 iss sb fst len off ren (fqQ fst len off ren day que kc) kc) := by
  refine kI.of (cc := cX0_fillQueue) (maxL := 4) (rt := .int) (Or.inl rfl) (by decide) rfl (Nat.le_of_ble_eq_true rfl) ?_
  intro p e s m args below meth c Q A ls hx hb hml hown hts hE hA hP hD hl hret
  have hS : va_S A s.heap s.heap [] := va_S.rf
  have hl : lv_has ls 4 [(0, .ref b0), (1, .int day)] := hl
  have g_X0 : ∀ w ∈ wsX00, w ∈ wsX0_fillQueue := by decide +kernel
  have f_33 := hts (.fieldLink RX0 33 "CertHerd$CertificateTable" "count" "I") (by decide +kernel)
  refine lv_iconst (v := 0) hx hb dX0_fillQueue_0 (by decide) ?_
  refine lv_istore_n (lv' := [(2, .int 0), (0, .ref b0), (1, .int day)]) hx hb dX0_fillQueue_1 rfl hl (by decide) rfl (fun ls hl => ?_)
  refine lv_iconst (v := 0) hx hb dX0_fillQueue_2 (by decide) ?_
  refine lv_istore_n (lv' := [(3, .int 0), (2, .int 0), (0, .ref b0), (1, .int day)]) hx hb dX0_fillQueue_3 rfl hl (by decide) rfl (fun ls hl => ?_)
  have L_4 : ∀ (f : Nat) (k z : Nat) (q_ : Nat → Int32) (H : Heap) (locs : List Loc) (ls : Array Slot), ((kc - k) < f) → (k ≤ kc) → (z = fqS fst len off ren day que k) → (q_ = fqQ fst len off ren day que k) → va_P D vwCl (wC cy b0 b1 b2 b3 b4 b5 b6 b7 iss sb fst len off ren q_ kc) H → va_D A (wC cy b0 b1 b2 b3 b4 b5 b6 b7 iss sb fst len off ren q_ kc) → va_S A s.heap H locs → lv_has ls 4 [(3, .int (nI k)), (2, .int (nI z)), (0, .ref b0), (1, .int day)] → W p l e (krm 2 44) s m args below meth c H locs 0 0 Q (F0 m 4 ls []) := by
    intro f
    induction f with
    | zero => intro k z q_ H locs ls hf; exact absurd hf (Nat.not_lt_zero _)
    | succ f ih_4 =>
      intro k z q_ H locs ls hf hk ez eq_ hP hD hS hl
      refine lv_iload_n hx hb dX0_fillQueue_4 rfl (lv_at hl 0 rfl) ?_
      refine lv_aload_n hx hb dX0_fillQueue_5 rfl (lv_at hl 2 rfl) ?_
      refine va_get (D := D) (ci := 0) (v := .int (nI kc)) (C := RX0) (T := TX0) (N := 8) hx hb hts g_X0 hown hE.1 hP 0 rfl rfl 7 (by decide) f_33 (fun _ h9 => h9) rfl dX0_fillQueue_6 ?_
      refine lv_icmp_ge (tgt := 36) hx hb dX0_fillQueue_9 (by decide) (fun c_9 => ?_) (fun c_9 => ?_)
      · have c_9n : kc ≤ k := k_leN (a := kc) (b := k) (by omega) (by omega) c_9
        refine lv_iload_n hx hb dX0_fillQueue_36 rfl (lv_at hl 1 rfl) ?_
        have w_que : q_ = fqQ fst len off ren day que kc := (by have e9 : k = kc := (by omega); subst e9; exact eq_)
        exact hret _ _ _ _ (nI z) () dX0_fillQueue_37 (Or.inl rfl) (by have e9 : k = kc := (by omega); subst e9; rw [ez]) (by show va_P D vwCl (wC cy b0 b1 b2 b3 b4 b5 b6 b7 iss sb fst len off ren (fqQ fst len off ren day que kc) kc) _; rw [← w_que]; exact hP) hS
      · have c_9n : ¬ kc ≤ k := k_nleN (a := kc) (b := k) (by omega) (by omega) c_9
        have hk8 : k < 60 := by omega
        obtain ⟨hz1, hz2⟩ := fq_ok fst len off ren day que k (by omega)
        rw [← ez] at hz1 hz2
        rw [← eq_] at hz2
        refine lv_aload_n hx hb dX0_fillQueue_12 rfl (lv_at hl 2 rfl) ?_
        refine lv_iload_n hx hb dX0_fillQueue_13 rfl (lv_at hl 0 rfl) ?_
        refine lv_iload_n hx hb dX0_fillQueue_14 rfl (lv_at hl 3 rfl) ?_
        refine kcW_i (n := 2) (wc := wC cy b0 b1 b2 b3 b4 b5 b6 b7 iss sb fst len off ren q_ kc) (As := [.int (nI k), .int day]) (rest := []) ⟨hx, hb, hml, hown, hts⟩ hE hA hP hD hS (c_X0_isWaiting l D cy b0 b1 b2 b3 b4 b5 b6 b7 iss sb fst len off ren q_ kc k day (by first | assumption | omega)) (fun _ => rfl) (q0 := 0) (ci := 0) rfl rfl gX0_fillQueue_X0_isWaiting rfl rfl rfl ⟨rfl, by decide, by decide, by decide +kernel⟩ ⟨Nat.le_of_ble_eq_true rfl, Nat.le_of_ble_eq_true rfl⟩ rfl hl.1 rfl (Nat.le_of_ble_eq_true rfl) dX0_fillQueue_15 ⟨Nat.zero_le _, Nat.zero_le _⟩ (fun r_1 u H locs e_2 hP hD hS => ?_)
        have hP : va_P D vwCl (wC cy b0 b1 b2 b3 b4 b5 b6 b7 iss sb fst len off ren q_ kc) H := hP
        have hD : va_D A (wC cy b0 b1 b2 b3 b4 b5 b6 b7 iss sb fst len off ren q_ kc) := hD
        have e_2 : r_1 = bI (waitP fst len off ren day k) := e_2
        subst e_2
        refine k_ifeq (tgt := 30) hx hb dX0_fillQueue_18 (by decide) (fun c_18 => ?_) (fun c_18 => ?_)
        · refine lv_iinc (v := (nI (k + 1))) (lv' := [(3, .int (nI (k + 1))), (2, .int (nI z)), (0, .ref b0), (1, .int day)]) hx hb dX0_fillQueue_30 hl (k := 0) rfl (k_inc _) (by decide) rfl (fun ls hl => ?_)
          refine lv_goto (tgt := 4) hx hb dX0_fillQueue_33 (by decide) ?_
          exact ih_4 (k + 1) z q_ _ _ ls (by omega) (by omega) (by subst ez; show _ = (fqSQ fst len off ren day que (k + 1)).1; rw [fqSQ, apply_ite Prod.fst]; exact (if_neg (fun h => c_18 h)).symm) (by subst ez; subst eq_; show _ = (fqSQ fst len off ren day que (k + 1)).2; rw [fqSQ, apply_ite Prod.snd]; exact (if_neg (fun h => c_18 h)).symm) hP hD hS (lv_sub hl [0, 1, 2, 3] rfl)
        · refine lv_aload_n hx hb dX0_fillQueue_21 rfl (lv_at hl 2 rfl) ?_
          refine lv_iload_n hx hb dX0_fillQueue_22 rfl (lv_at hl 0 rfl) ?_
          refine lv_iload_n hx hb dX0_fillQueue_23 rfl (lv_at hl 1 rfl) ?_
          refine kcW_v (n := 2) (wc := wC cy b0 b1 b2 b3 b4 b5 b6 b7 iss sb fst len off ren q_ kc) (As := [.int (nI k), .int (nI z)]) (rest := []) ⟨hx, hb, hml, hown, hts⟩ hE hA hP hD hS (c_X0_insert l D cy b0 b1 b2 b3 b4 b5 b6 b7 iss sb fst len off ren q_ kc k z (by first | assumption | omega) (by omega) (fun i hi => ⟨(hz2 i hi).1, by have := (hz2 i hi).2; omega⟩)) (fun _ => rfl) (q0 := 0) (ci := 0) rfl rfl gX0_fillQueue_X0_insert rfl rfl rfl ⟨rfl, by decide, by decide, by decide +kernel⟩ ⟨Nat.le_of_ble_eq_true rfl, Nat.le_of_ble_eq_true rfl⟩ rfl hl.1 rfl (Nat.le_of_ble_eq_true rfl) dX0_fillQueue_24 ⟨Nat.zero_le _, Nat.zero_le _⟩ (fun u H locs e_4 hP hD hS => ?_)
          have hP : va_P D vwCl (wC cy b0 b1 b2 b3 b4 b5 b6 b7 iss sb fst len off ren (insQ fst len k q_ z) kc) H := hP
          have hD : va_D A (wC cy b0 b1 b2 b3 b4 b5 b6 b7 iss sb fst len off ren (insQ fst len k q_ z) kc) := hD
          refine lv_iinc (v := (nI (z + 1))) (lv' := [(2, .int (nI (z + 1))), (3, .int (nI k)), (0, .ref b0), (1, .int day)]) hx hb dX0_fillQueue_27 hl (k := 1) rfl (k_inc _) (by decide) rfl (fun ls hl => ?_)
          refine lv_iinc (v := (nI (k + 1))) (lv' := [(3, .int (nI (k + 1))), (2, .int (nI (z + 1))), (0, .ref b0), (1, .int day)]) hx hb dX0_fillQueue_30 hl (k := 1) rfl (k_inc _) (by decide) rfl (fun ls hl => ?_)
          refine lv_goto (tgt := 4) hx hb dX0_fillQueue_33 (by decide) ?_
          exact ih_4 (k + 1) (z + 1) (insQ fst len k q_ z) _ _ ls (by omega) (by omega) (by subst ez; show _ = (fqSQ fst len off ren day que (k + 1)).1; rw [fqSQ, apply_ite Prod.fst]; exact (if_pos c_18).symm) (by subst ez; subst eq_; show _ = (fqSQ fst len off ren day que (k + 1)).2; rw [fqSQ, apply_ite Prod.snd]; exact (if_pos c_18).symm) hP hD hS (lv_sub hl [0, 1, 2, 3] rfl)
  exact L_4 ((kc - 0) + 1) 0 0 que _ _ ls (Nat.lt_succ_self _) (by omega) rfl rfl hP hD hS (lv_sub hl [0, 1, 2, 3] rfl)

set_option maxHeartbeats 4000000 in
set_option maxRecDepth 100000 in
theorem c_X0_namesHeld (l : Launch) (D : va_G) (cy : ClassId × ClassId × ClassId) (b0 b1 b2 b3 b4 b5 b6 b7 : Nat) (iss sb fst len off ren que : Nat → Int32) (kc : Nat) (day : Int32) (good : Int32) (hc : kc ≤ 60) : kI l D cy yX0_namesHeld wsX0_namesHeld (krm 1 21) [.ref b0, .int day, .int good] (wC cy b0 b1 b2 b3 b4 b5 b6 b7 iss sb fst len off ren que kc) (fun (r : Int32) (u : Unit) => r = nhN iss sb fst len day good kc) (fun _ : Unit => wC cy b0 b1 b2 b3 b4 b5 b6 b7 iss sb fst len off ren que kc) := by
  refine kI.of (cc := cX0_namesHeld) (maxL := 6) (rt := .int) (Or.inl rfl) (by decide) rfl (Nat.le_of_ble_eq_true rfl) ?_
  intro p e s m args below meth c Q A ls hx hb hml hown hts hE hA hP hD hl hret
  have hS : va_S A s.heap s.heap [] := va_S.rf
  have hl : lv_has ls 6 [(0, .ref b0), (1, .int day), (2, .int good)] := hl
  have g_X0 : ∀ w ∈ wsX00, w ∈ wsX0_namesHeld := by decide +kernel
  have f_33 := hts (.fieldLink RX0 33 "CertHerd$CertificateTable" "count" "I") (by decide +kernel)
  have f_18 := hts (.fieldLink RX0 18 "CertHerd$CertificateTable" "firstDays" "[I") (by decide +kernel)
  have f_11 := hts (.fieldLink RX0 11 "CertHerd$CertificateTable" "issuerNumbers" "[I") (by decide +kernel)
  have f_15 := hts (.fieldLink RX0 15 "CertHerd$CertificateTable" "subjects" "[I") (by decide +kernel)
  refine lv_iconst (v := 0) hx hb dX0_namesHeld_0 (by decide) ?_
  refine lv_istore_n (lv' := [(3, .int 0), (0, .ref b0), (1, .int day), (2, .int good)]) hx hb dX0_namesHeld_1 rfl hl (by decide) rfl (fun ls hl => ?_)
  refine lv_iconst (v := 0) hx hb dX0_namesHeld_2 (by decide) ?_
  refine lv_istore (lv' := [(4, .int 0), (3, .int 0), (0, .ref b0), (1, .int day), (2, .int good)]) hx hb dX0_namesHeld_3 hl (by decide) rfl (fun ls hl => ?_)
  have L_5 : ∀ (f : Nat) (k : Nat) (g : Int32) (H : Heap) (locs : List Loc) (ls : Array Slot), ((kc - k) < f) → (k ≤ kc) → (g = nhN iss sb fst len day good k) → va_P D vwCl (wC cy b0 b1 b2 b3 b4 b5 b6 b7 iss sb fst len off ren que kc) H → va_D A (wC cy b0 b1 b2 b3 b4 b5 b6 b7 iss sb fst len off ren que kc) → va_S A s.heap H locs → lv_has ls 6 [(4, .int (nI k)), (3, .int g), (0, .ref b0), (1, .int day), (2, .int good)] → W p l e (krm 1 21) s m args below meth c H locs 0 0 Q (F0 m 5 ls []) := by
    intro f
    induction f with
    | zero => intro k g H locs ls hf; exact absurd hf (Nat.not_lt_zero _)
    | succ f ih_5 =>
      intro k g H locs ls hf hk eg hP hD hS hl
      refine lv_iload hx hb dX0_namesHeld_5 (lv_at hl 0 rfl) ?_
      refine lv_aload_n hx hb dX0_namesHeld_7 rfl (lv_at hl 2 rfl) ?_
      refine va_get (D := D) (ci := 0) (v := .int (nI kc)) (C := RX0) (T := TX0) (N := 8) hx hb hts g_X0 hown hE.1 hP 0 rfl rfl 7 (by decide) f_33 (fun _ h9 => h9) rfl dX0_namesHeld_8 ?_
      refine lv_icmp_ge (tgt := 80) hx hb dX0_namesHeld_11 (by decide) (fun c_11 => ?_) (fun c_11 => ?_)
      · have c_11n : kc ≤ k := k_leN (a := kc) (b := k) (by omega) (by omega) c_11
        refine lv_iload_n hx hb dX0_namesHeld_80 rfl (lv_at hl 1 rfl) ?_
        exact hret _ _ _ _ g () dX0_namesHeld_81 (Or.inl rfl) (by have e9 : k = kc := (by omega); subst e9; exact eg) hP hS
      · have c_11n : ¬ kc ≤ k := k_nleN (a := kc) (b := k) (by omega) (by omega) c_11
        have hk8 : k < 60 := by omega
        refine lv_aload_n hx hb dX0_namesHeld_14 rfl (lv_at hl 2 rfl) ?_
        refine va_get (D := D) (ci := 0) (v := .ref b3) (C := RX0) (T := TX0) (N := 8) hx hb hts g_X0 hown hE.1 hP 0 rfl rfl 2 (by decide) f_18 (fun _ h9 => h9) rfl dX0_namesHeld_15 ?_
        refine lv_iload hx hb dX0_namesHeld_18 (lv_at hl 0 rfl) ?_
        refine k_ild hx hb hE.1 hP 3 0 rfl rfl (j := k) (by omega) (by decide) dX0_namesHeld_20 ?_
        refine lv_iload_n hx hb dX0_namesHeld_21 rfl (lv_at hl 3 rfl) ?_
        refine lv_icmp_gt (tgt := 39) hx hb dX0_namesHeld_22 (by decide) (fun c_22 => ?_) (fun c_22 => ?_)
        · refine lv_iconst (v := 0) hx hb dX0_namesHeld_39 (by decide) ?_
          refine lv_istore (lv' := [(5, .int 0), (4, .int (nI k)), (3, .int g), (0, .ref b0), (1, .int day), (2, .int good)]) hx hb dX0_namesHeld_40 hl (by decide) rfl (fun ls hl => ?_)
          refine lv_iload hx hb dX0_namesHeld_42 (lv_at hl 0 rfl) ?_
          refine lv_if_eq (tgt := 74) hx hb dX0_namesHeld_44 (by decide) (fun _ => ?_) (fun c_44 => absurd c_44 (by decide))
          refine lv_iinc (v := (nI (k + 1))) (lv' := [(4, .int (nI (k + 1))), (5, .int 0), (3, .int g), (0, .ref b0), (1, .int day), (2, .int good)]) hx hb dX0_namesHeld_74 hl (k := 1) rfl (k_inc _) (by decide) rfl (fun ls hl => ?_)
          refine lv_goto (tgt := 5) hx hb dX0_namesHeld_77 (by decide) ?_
          exact ih_5 (k + 1) g _ _ ls (by omega) (by omega) (by subst eg; rw [nhN]; exact (if_neg (fun h => h.1 c_22)).symm) hP hD hS (lv_sub hl [0, 2, 3, 4, 5] rfl)
        · refine lv_iload_n hx hb dX0_namesHeld_25 rfl (lv_at hl 3 rfl) ?_
          refine lv_aload_n hx hb dX0_namesHeld_26 rfl (lv_at hl 2 rfl) ?_
          refine lv_iload hx hb dX0_namesHeld_27 (lv_at hl 0 rfl) ?_
          refine kcW_i (n := 1) (wc := wC cy b0 b1 b2 b3 b4 b5 b6 b7 iss sb fst len off ren que kc) (As := [.int (nI k)]) (rest := [.int day]) ⟨hx, hb, hml, hown, hts⟩ hE hA hP hD hS (c_X0_endOf l D cy b0 b1 b2 b3 b4 b5 b6 b7 iss sb fst len off ren que kc k (by first | assumption | omega)) (fun _ => rfl) (q0 := 0) (ci := 0) rfl rfl gX0_namesHeld_X0_endOf rfl rfl rfl ⟨rfl, by decide, by decide, by decide +kernel⟩ ⟨Nat.le_of_ble_eq_true rfl, Nat.le_of_ble_eq_true rfl⟩ rfl hl.1 rfl (Nat.le_of_ble_eq_true rfl) dX0_namesHeld_29 ⟨Nat.zero_le _, Nat.zero_le _⟩ (fun r_1 u H locs e_2 hP hD hS => ?_)
          have hP : va_P D vwCl (wC cy b0 b1 b2 b3 b4 b5 b6 b7 iss sb fst len off ren que kc) H := hP
          have hD : va_D A (wC cy b0 b1 b2 b3 b4 b5 b6 b7 iss sb fst len off ren que kc) := hD
          have e_2 : r_1 = ctEnd fst len k := e_2
          subst e_2
          refine lv_icmp_gt (tgt := 39) hx hb dX0_namesHeld_32 (by decide) (fun c_32 => ?_) (fun c_32 => ?_)
          · refine lv_iconst (v := 0) hx hb dX0_namesHeld_39 (by decide) ?_
            refine lv_istore (lv' := [(5, .int 0), (4, .int (nI k)), (3, .int g), (0, .ref b0), (1, .int day), (2, .int good)]) hx hb dX0_namesHeld_40 hl (by decide) rfl (fun ls hl => ?_)
            refine lv_iload hx hb dX0_namesHeld_42 (lv_at hl 0 rfl) ?_
            refine lv_if_eq (tgt := 74) hx hb dX0_namesHeld_44 (by decide) (fun _ => ?_) (fun c_44 => absurd c_44 (by decide))
            refine lv_iinc (v := (nI (k + 1))) (lv' := [(4, .int (nI (k + 1))), (5, .int 0), (3, .int g), (0, .ref b0), (1, .int day), (2, .int good)]) hx hb dX0_namesHeld_74 hl (k := 1) rfl (k_inc _) (by decide) rfl (fun ls hl => ?_)
            refine lv_goto (tgt := 5) hx hb dX0_namesHeld_77 (by decide) ?_
            exact ih_5 (k + 1) g _ _ ls (by omega) (by omega) (by subst eg; rw [nhN]; exact (if_neg (fun h => h.2.1 c_32)).symm) hP hD hS (lv_sub hl [0, 2, 3, 4, 5] rfl)
          · refine lv_iconst (v := 1) hx hb dX0_namesHeld_35 (by decide) ?_
            refine lv_goto (tgt := 40) hx hb dX0_namesHeld_36 (by decide) ?_
            refine lv_istore (lv' := [(5, .int 1), (4, .int (nI k)), (3, .int g), (0, .ref b0), (1, .int day), (2, .int good)]) hx hb dX0_namesHeld_40 hl (by decide) rfl (fun ls hl => ?_)
            refine lv_iload hx hb dX0_namesHeld_42 (lv_at hl 0 rfl) ?_
            refine lv_if_eq (tgt := 74) hx hb dX0_namesHeld_44 (by decide) (fun c_44 => absurd c_44 (by decide)) (fun _ => ?_)
            refine lv_iload_n hx hb dX0_namesHeld_47 rfl (lv_at hl 5 rfl) ?_
            refine lv_aload_n hx hb dX0_namesHeld_48 rfl (lv_at hl 3 rfl) ?_
            refine va_get (D := D) (ci := 0) (v := .ref b1) (C := RX0) (T := TX0) (N := 8) hx hb hts g_X0 hown hE.1 hP 0 rfl rfl 0 (by decide) f_11 (fun _ h9 => h9) rfl dX0_namesHeld_49 ?_
            refine lv_iload hx hb dX0_namesHeld_52 (lv_at hl 1 rfl) ?_
            refine k_ild hx hb hE.1 hP 1 0 rfl rfl (j := k) (by omega) (by decide) dX0_namesHeld_54 ?_
            refine kcN_i (n := 2) (X := []) (wc := []) (Y := wC cy b0 b1 b2 b3 b4 b5 b6 b7 iss sb fst len off ren que kc) (As := [.int good, .int (iss k)]) (rest := []) ⟨hx, hb, hml, hown, hts⟩ hE hA hP hD hS (c_X2_contains l D cy good (iss k)) (fun _ => rfl) hE.2.2.2.1 (hts (.static yX2_contains) (by decide +kernel)) (hts (.initialized RX2) (by decide +kernel)) gX0_namesHeld_X2_contains_n55 rfl rfl rfl ⟨by decide, by decide, by decide +kernel⟩ ⟨Nat.le_of_ble_eq_true rfl, Nat.le_of_ble_eq_true rfl⟩ rfl hl.1 rfl (Nat.le_of_ble_eq_true rfl) dX0_namesHeld_55 ⟨Nat.zero_le _, Nat.zero_le _⟩ (fun r_3 u H locs e_4 hP hD hS => ?_)
            have hP : va_P D vwCl (wC cy b0 b1 b2 b3 b4 b5 b6 b7 iss sb fst len off ren que kc) H := hP
            have hD : va_D A (wC cy b0 b1 b2 b3 b4 b5 b6 b7 iss sb fst len off ren que kc) := hD
            have e_4 : r_3 = bI (hasB good (iss k)) := e_4
            subst e_4
            refine k_ifeq (tgt := 74) hx hb dX0_namesHeld_58 (by decide) (fun c_58 => ?_) (fun c_58 => ?_)
            · refine lv_iinc (v := (nI (k + 1))) (lv' := [(4, .int (nI (k + 1))), (5, .int 1), (3, .int g), (0, .ref b0), (1, .int day), (2, .int good)]) hx hb dX0_namesHeld_74 hl (k := 1) rfl (k_inc _) (by decide) rfl (fun ls hl => ?_)
              refine lv_goto (tgt := 5) hx hb dX0_namesHeld_77 (by decide) ?_
              exact ih_5 (k + 1) g _ _ ls (by omega) (by omega) (by subst eg; rw [nhN]; exact (if_neg (fun h => c_58 h.2.2)).symm) hP hD hS (lv_sub hl [0, 2, 3, 4, 5] rfl)
            · refine lv_iload_n hx hb dX0_namesHeld_61 rfl (lv_at hl 2 rfl) ?_
              refine lv_aload_n hx hb dX0_namesHeld_62 rfl (lv_at hl 3 rfl) ?_
              refine va_get (D := D) (ci := 0) (v := .ref b2) (C := RX0) (T := TX0) (N := 8) hx hb hts g_X0 hown hE.1 hP 0 rfl rfl 1 (by decide) f_15 (fun _ h9 => h9) rfl dX0_namesHeld_63 ?_
              refine lv_iload hx hb dX0_namesHeld_66 (lv_at hl 1 rfl) ?_
              refine k_ild hx hb hE.1 hP 2 0 rfl rfl (j := k) (by omega) (by decide) dX0_namesHeld_68 ?_
              refine kcN_i (n := 1) (X := []) (wc := []) (Y := wC cy b0 b1 b2 b3 b4 b5 b6 b7 iss sb fst len off ren que kc) (As := [.int (sb k)]) (rest := [.int g]) ⟨hx, hb, hml, hown, hts⟩ hE hA hP hD hS (c_X2_namesOf l D cy (sb k)) (fun _ => rfl) hE.2.2.2.2.1 (hts (.static yX2_namesOf) (by decide +kernel)) (hts (.initialized RX2) (by decide +kernel)) gX0_namesHeld_X2_namesOf_n58 rfl rfl rfl ⟨by decide, by decide, by decide +kernel⟩ ⟨Nat.le_of_ble_eq_true rfl, Nat.le_of_ble_eq_true rfl⟩ rfl hl.1 rfl (Nat.le_of_ble_eq_true rfl) dX0_namesHeld_69 ⟨Nat.zero_le _, Nat.zero_le _⟩ (fun r_5 u H locs e_6 hP hD hS => ?_)
              have hP : va_P D vwCl (wC cy b0 b1 b2 b3 b4 b5 b6 b7 iss sb fst len off ren que kc) H := hP
              have hD : va_D A (wC cy b0 b1 b2 b3 b4 b5 b6 b7 iss sb fst len off ren que kc) := hD
              have e_6 : r_5 = nmOf (sb k) := e_6
              subst e_6
              refine lv_ior hx hb dX0_namesHeld_72 ?_
              refine lv_istore_n (lv' := [(3, .int (g ||| (nmOf (sb k)))), (5, .int 1), (4, .int (nI k)), (0, .ref b0), (1, .int day), (2, .int good)]) hx hb dX0_namesHeld_73 rfl hl (by decide) rfl (fun ls hl => ?_)
              refine lv_iinc (v := (nI (k + 1))) (lv' := [(4, .int (nI (k + 1))), (3, .int (g ||| (nmOf (sb k)))), (5, .int 1), (0, .ref b0), (1, .int day), (2, .int good)]) hx hb dX0_namesHeld_74 hl (k := 2) rfl (k_inc _) (by decide) rfl (fun ls hl => ?_)
              refine lv_goto (tgt := 5) hx hb dX0_namesHeld_77 (by decide) ?_
              exact ih_5 (k + 1) (g ||| (nmOf (sb k))) _ _ ls (by omega) (by omega) (by subst eg; rw [nhN]; exact (if_pos ⟨c_22, c_32, c_58⟩).symm) hP hD hS (lv_sub hl [0, 1, 3, 4, 5] rfl)
  exact L_5 ((kc - 0) + 1) 0 0 _ _ ls (Nat.lt_succ_self _) (by omega) rfl hP hD hS (lv_sub hl [0, 1, 2, 3, 4] rfl)
end
