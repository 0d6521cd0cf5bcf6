/-! EXCEPTIONS. A contract speaks of ONE input, whose pure function says whether the method returns or throws; so a method that throws has two contracts: Met (it returns) and sx_Thr (it throws, nothing old has changed). -/
section SXT
variable {p : Program} {l : Launch} {e : Env} {R : Room} {s : State} {m : MethodId} {args : Array Value} {below : List Frame} {meth : Method} {c : Code} {H : Heap} {locs : List Loc} {cells slots : Nat} {Q : State → Prop}
/-- q has been thrown, an object of class E; no old cell has changed -/
def sx_TQ (E : String) (mc ms : Nat) (st : State) (q : Addr) (t : State) : Prop :=
  ∃ ce : Cell, t.heap[q]? = some ce ∧ ce.vm = .none ∧ st.vm.findClass E = some ce.cls ∧ st.WarmedH t.vm ∧ st.sameButNew ({ t with vm := st.vm } : State) [] mc ms
def sx_Thr (l : Launch) (y : MethodName) (ws : List Cond) (rm : Room) (Pc : Array Value → State → Prop) (E : String) (mc ms : Nat) : Prop :=
  MetFree l y (headSpec ws rm) Pc (fun _ _ _ _ _ => True) (fun _ st o t => ∃ q, o = .threw q ∧ sx_TQ E mc ms st q t)
def sx_TZ (below : List Frame) (E : String) (mc ms : Nat) (s : State) : State → Prop := fun t => ∃ q, t.status = .running ∧ Ended t below (.threw q) ∧ sx_TQ E mc ms s q t
theorem sx_thrOf {y : MethodName} {ws ws' : List Cond} {rm : Room} {Pc : Array Value → State → Prop} {E : String} {mc ms : Nat} {cc : ByteArray} {maxL : Nat} {ret : Option FieldType}
    (hy : plainName y.cls = true) (hw : ws = Cond.code y cc maxL ret :: ws')
    (body : ∀ p e s m args below meth c s₁, BodyLoose p l y (headSpec ws rm) cc maxL ret e s m args below meth c s₁ → c.maxLocals = maxL → c.exceptionTable.toList = [] → Pc args s →
      W p l e (headSpec ws rm).room s m args below meth c s.heap [] 0 0 (sx_TZ below E mc ms s) (entryFrame m args maxL)) : sx_Thr l y ws rm Pc E mc ms := by
  have hmem : Cond.code y cc maxL ret ∈ ws := by rw [hw]; exact List.mem_cons_self
  refine MetFree.of_bodyS (code := cc) (maxLocals := maxL) (ret := ret) hy ?_ ?_
  · intro args s m h hn
    obtain ⟨meth, c, h1, h2, h3, h4, h5, h6, -, -⟩ := Cond.code_spec hn (atoms_spec (ws := ws) h _ hmem)
    exact ⟨meth, c, h1, h2, h3, h4, h5, h6⟩
  · intro p e s m args below meth c s₁ B hml hP _
    have hh0 : s₁.heap = s.heap := by rw [B.state]; rfl
    have ht : c.exceptionTable.toList = [] := by
      obtain ⟨meth9, c9, h1, h2, -, -, -, -, h7, -⟩ := Cond.code_spec B.named (atoms_spec (ws := ws) B.pre _ hmem)
      cases Option.some.inj (h1.symm.trans B.method)
      cases Option.some.inj (h2.symm.trans (Stand.of_body B).code)
      rw [Array.isEmpty_iff.mp h7]
    obtain ⟨t, a1, q, b1, b2, b3⟩ := body p e s m args below meth c s₁ B hml ht hP s₁ hh0 (Stand.of_body B)
    exact ⟨t, .threw q, a1, b1, b2, q, rfl, b3⟩
/-- the words of 'throw new E("text")' -/
theorem sx_own {own cls : String} {ic t1 t2 : Nat} {A : Nat → Prop} {names : List String} (hts : ∀ w ∈ tb, w.before args s = true) (hX : sx_X t1 t2 A s s.heap)
    (hg : ∀ w ∈ (Bundle.ownAtoms own ic cls names).filter goodWord, w ∈ tb)
    (hn : ∀ w ∈ (Bundle.ownAtoms own ic cls names).filter (fun w => !goodWord w), w = .laysStatic Bundle.tN "UNASSIGNED_STACK" Bundle.steD ∨ w = .laysStatic Bundle.tN "SUPPRESSED_SENTINEL" Bundle.listD ∨ w = .isRef (.static Bundle.tN "UNASSIGNED_STACK" Bundle.steD) ∨ w = .isRef (.static Bundle.tN "SUPPRESSED_SENTINEL" Bundle.listD) ∨ (∃ x ∈ sx_decl, w = .declares x) ∨ ∃ x ∈ sx_cast, w = .castable x.1 x.2) :
    ∀ w ∈ Bundle.ownAtoms own ic cls names, w.before args s = true := by
  intro w hw
  cases h : goodWord w with
  | true => exact hts w (hg w (List.mem_filter.mpr ⟨hw, h⟩))
  | false =>
    rcases hn w (List.mem_filter.mpr ⟨hw, by rw [h]; rfl⟩) with rfl | rfl | rfl | rfl | ⟨x, hx, rfl⟩ | ⟨x, hx, rfl⟩
    · exact hX.2.2.2.2.2.2.2.2.1.word.1
    · exact hX.2.2.2.2.2.2.2.2.2.1.word.1
    · exact hX.2.2.2.2.2.2.2.2.1.word.2
    · exact hX.2.2.2.2.2.2.2.2.2.1.word.2
    · exact va_Nw.use rfl (hX.2.2.2.2.2.1 x hx)
    · exact va_Nw.use rfl (hX.2.2.2.2.2.2.1 x hx)
/-- 'throw new E("text")', where nothing has been written yet -/
theorem sx_throwS {cc : ByteArray} {pc : Nat} {ls : Array Slot} {rest : List Value} (hx : p.tables.exec = Jvm.exec) (hb : c.code = cc) (hl : l.stackTraces = false) {own cls text : String} {names : List String} {ik is ic mc ms : Nat}
    (hown : s.vm.findClass own = some m.cls) (hcls : Bundle.fit cls = true) (hnames : ∀ n ∈ names, Bundle.fit n = true)
    (hk : (Cond.classLink own ik cls).before args s = true) (hini : (Cond.initialized cls).before args s = true) (hins : (Cond.instantiable cls 6).before args s = true) (hstr : ∃ a, vk_R own is text a s) (hat : ∀ w ∈ Bundle.ownAtoms own ic cls names, w.before args s = true)
    (hsize : ls.size = c.maxLocals)
    (d0 : decode cc pc = .ok (.new ik, 3)) (d3 : decode cc (pc + 3) = .ok (.dup, 1)) (d4 : decode cc (pc + 4) = .ok (.ldc is, 2)) (d6 : decode cc (pc + 6) = .ok (.invokespecial ic, 3)) (d9 : decode cc (pc + 9) = .ok (.athrow, 1))
    (hout : c.exceptionTable.toList = []) (hlocks : meth.locks = false)
    (hRframes : names.length + 3 < R.frames) (hRlocals : (rest.map fun v => v.category).sum + (13 * (names.length + 1) + 43) ≤ R.locals) (hRcells : cells + 1 ≤ R.cells) (hRslots : slots + 6 ≤ R.slots) (hc : cells + 1 ≤ mc) (hs : slots + 6 ≤ ms) :
    W p l e R s m args below meth c s.heap [] cells slots (sx_TZ below cls mc ms s) (F0 m pc ls rest) := by
  refine W.newc hx hb hown hk hins hini rfl d0 hRcells hRslots fun cC kC h1 h2 h3 h4 => ?_
  refine lv_dup hx hb d3 rfl ?_
  obtain ⟨sa, hsa⟩ := hstr
  refine va_ldcS hx hb hown hsa d4 ?_
  intro T hT X
  have htr : e.platform.stackTraces = false := (show e.platform.stackTraces = l.stackTraces by rw [X.admits.platform]).trans hl
  have hfr : T.heap[s.heap.size]? = some { cls := cC, slots := kC.instanceTypes.map defaultValue, vm := .none } := by rw [hT]; simp
  obtain ⟨U, st, u1, u2, u3, u4, ce, u5, u6⟩ := X.ctorThrowS hx htr hown hcls hnames hat (fun x h => nomatch h) h1 h2 hfr (Nat.le_refl _) (msg := .ref sa) rfl
    (g := F0 m (pc + 6) ls (.ref sa :: .ref s.heap.size :: .ref s.heap.size :: rest)) rfl hsize rfl rfl rfl (by rw [hb]; exact d6) (by rw [hb]; exact d9) (fun x h => by rw [hout] at h; cases h) hRframes
    (by show 2 * 0 + (1 + (rest.map fun v => v.category).sum) + (13 * (names.length + 1) + 42) ≤ R.locals; omega) hlocks
  exact ⟨U, st, _, u1, u2, ce, u5, u6.vm, u6.cls, u3, u4.mono hc hs⟩
/-- the method's frame g, with q thrown over it -/
def sx_V (p : Program) (l : Launch) (e : Env) (R : Room) (s : State) (m : MethodId) (args : Array Value) (below : List Frame) (meth : Method) (c : Code) (H : Heap) (locs : List Loc) (cells slots : Nat) (Q : State → Prop) (g : JFrame) (q : Addr) : Prop :=
  ∀ T : State, T.heap = H → Stand p l e R s m args below meth c T locs cells slots → ∃ t, Steps p.tables e below ((T.setTop g).pushFrame (.throwing q)) t ∧ Q t
/-- no old cell differs -/
theorem sx_old {s U : State} {k n : Nat} (h : s.sameButNew U [] k n) : s.heap.size ≤ U.heap.size ∧ ∀ q : Nat, q < s.heap.size → U.heap[q]? = s.heap[q]? := by
  obtain ⟨-, h2, -, -, -, h6⟩ := h
  refine ⟨h2, fun q hq => ?_⟩
  have e0 := Array.getElem?_eq_getElem hq
  obtain ⟨c9, e1, e2, -, e4⟩ := h6 q _ e0
  have hs : c9.slots = (s.heap[q]).slots := Array.ext_getElem? fun i => e4 i (fun h => nomatch h)
  rw [hs] at e2
  rw [e1, e0, e2]
/-- a call of a method that throws -/
theorem sx_callT {y : MethodName} {bytes cc : ByteArray} {maxL nL mc ms n index pc : Nat} {ret : Option FieldType} {ws : List Cond} {rm : Room} {Pc : Array Value → State → Prop} {E : String} {Ts : List Cond} {own C : String} {b : Addr} {As rest st0 : List Value} {ls : Array Slot}
    (S : CallFix p m c cc nL s args Ts own) (hM : sx_Thr l y ws rm Pc E mc ms) (cw : CallW R s args own C index y bytes maxL ret ws rm mc ms n) (hp : PreV s H C b Pc As)
    (hn : As.length = n) (hsize : ls.size = nL) (hstack : st0 = As.reverse ++ .ref b :: rest) (hW : 2 * (F0 m pc ls st0).monitorRoom + (rest.map fun v => v.category).sum ≤ 8) (hdg : decode cc pc = .ok (.invokevirtual index, 3)) (hf : cells + mc ≤ R.cells ∧ slots + ms ≤ R.slots)
    (kx : ∀ (ce : Cell) (q : Addr) (H1 : Heap), H.size ≤ H1.size → (∀ a : Nat, a < H.size → H1[a]? = H[a]?) → H1[q]? = some ce → ce.vm = .none → s.vm.findClass E = some ce.cls → sx_V p l e R s m args below meth c H1 locs (cells + mc) (slots + ms) Q (F0 m pc ls rest) q) :
    W p l e R s m args below meth c H locs cells slots Q (F0 m pc ls st0) := by
  obtain ⟨⟨hrc, hrs, hfr, hlo, hws, hcm, hcode, hini, hy, hlen, hl⟩, hin, hse⟩ := cw
  obtain ⟨hx, hb, hml, ho, -⟩ := S
  obtain ⟨hbl, ⟨cellB, hcB, hoB, hclB⟩, hPc⟩ := hp
  intro T hT X
  obtain ⟨mk, methM, hnamed, hmethM, hstM, habM⟩ := Cond.instanceMethod_spec hin
  obtain ⟨methM', cM, hmethM', hcM, -, hlM, -, -, -, hsigM⟩ := Cond.code_spec hnamed hcode
  cases hmethM.symm.trans hmethM'
  obtain ⟨c2, r2, m2, q1, q2, q3, q4, kP, hkP, hkPi⟩ := Cond.selects_spec hse
  cases hclB.symm.trans q1
  cases (State.methodFound?_of_named hnamed hy).symm.trans q2
  cases hnamed.symm.trans q3
  have hselP : selectMethod e.platform s.vm cellB.cls mk = .method mk := by rw [Launch.admits_selectMethod X.admits]; exact q4
  obtain ⟨vm₁, X₁, hstep₁⟩ := X.invokevirtual hx ho hl hnamed hmethM hstM hkP hkPi hy (a := b) (cell := cellB) (by rw [hT]; exact hcB)
    (fun z h => by rw [h] at hoB; cases hoB) hselP hmethM habM hkP hkPi (g := F0 m pc ls st0) rfl (argsL := As) (rest := rest) (hn.trans (hlen _ hsigM)) hstack (by rw [hb]; exact hdg)
  -- the callee, from the state behind the linking
  generalize hU : T.setVm vm₁ = U at X₁ hstep₁
  have hUh : U.heap = H := by rw [← hU]; exact hT
  have hpre : (headSpec ws rm).pre.before (Value.ref b :: As).toArray U = true := atoms_intro fun w hw => hws w hw _ _ X₁.warmed
  have hnU : U.methodNamed? y = some mk := X₁.named hnamed
  have hcU : (Cond.code y bytes maxL ret).before (Value.ref b :: As).toArray U = true := hws _ hcm _ _ X₁.warmed
  obtain ⟨methY, cY, hmY, hcY, -, hlY, -, -, -, -⟩ := Cond.code_spec hnU hcU
  obtain ⟨kY, hkY, -⟩ := className_of_methodNamed hnU
  have hiU : (Cond.initialized y.cls).before (Value.ref b :: As).toArray U = true := word_at X₁.warmed (Or.inl (by first | rfl | simp [Cond.onTables, Cond.keeps, Cond.steady])) hini
  have hinitY : kY.init = .initialized := Cond.initialized_spec (findClass_of_methodNamed hnU) hkY hiU
  have hat : At U (F0 m pc ls rest).method c below := X₁.here
  have hdg' : decode c.code (F0 m pc ls rest).pc = .ok (.invokevirtual index, 3) := by rw [hb]; exact hdg
  have hWr : 2 * (F0 m pc ls rest).monitorRoom + ((F0 m pc ls rest).stack.map fun v => v.category).sum ≤ 8 := hW
  have happ : (headSpec ws rm).appliesLoose y e.platform (U.calling (F0 m pc ls rest) mk (Value.ref b :: As).toArray) = true :=
    Spec.appliesLoose_calling (g := F0 m pc ls rest) hat hdg' hnU hkY hinitY
      (X₁.room_calling (g := F0 m pc ls rest) (R' := (headSpec ws rm).room) (hsize.trans hml.symm) hmY hcY hfr (by rw [hlY]; show _ + rm.locals ≤ R.locals; omega) (by show cells + rm.cells ≤ R.cells; rw [hrc]; exact hf.1) (by show slots + rm.slots ≤ R.slots; rw [hrs]; exact hf.2)) hpre
  obtain ⟨mid, hmid⟩ := hat.above
  have hfrm : (U.setTop (F0 m pc ls rest)).frames = (.java (F0 m pc ls rest) :: mid) ++ below := by rw [State.frames_setTop' _ hat.top, hmid]; rfl
  have hPU : Pc (Value.ref b :: As).toArray (U.calling (F0 m pc ls rest) mk (Value.ref b :: As).toArray) := hbl _ _ _ _ (hPc U hUh X₁.warmed)
  obtain ⟨o, s₂, hsteps, -, hend, q, rfl, ce, v1, v2, v3, v4, v5⟩ := Steps.callFree hM p X₁.admits X₁.cas X₁.clock (acts := []) hfrm happ hPU trivial
  rw [State.frames_setTop' _ hat.top] at hend
  have v5' : (U.calling (F0 m pc ls rest) mk (Value.ref b :: As).toArray).sameButNew ({ s₂ with vm := (U.calling (F0 m pc ls rest) mk (Value.ref b :: As).toArray).vm } : State) [] mc ms := v5
  obtain ⟨e2, w2, w3, w4, w5, w6⟩ := id v5'
  have e3 : s₂ = ({ (U.calling (F0 m pc ls rest) mk (Value.ref b :: As).toArray).setFrames s₂.frames with heap := s₂.heap, slotsUsed := s₂.slotsUsed } : State).setVm s₂.vm := by
    have z : s₂ = ({ s₂ with vm := (U.calling (F0 m pc ls rest) mk (Value.ref b :: As).toArray).vm } : State).setVm s₂.vm := rfl
    rw [e2] at z
    exact z
  obtain ⟨g₀, hg0⟩ := Option.isSome_iff_exists.mp hat.top
  obtain ⟨r, hr⟩ := State.topJava?_eq_some.mp hg0
  have hr' : (({ U with heap := s₂.heap, slotsUsed := s₂.slotsUsed } : State).setVm s₂.vm).frames = .java g₀ :: r := hr
  have hf₂ : s₂.frames = .throwing q :: .java (F0 m pc ls rest) :: U.frames.tail := hend
  have hs₂ : s₂ = ((({ U with heap := s₂.heap, slotsUsed := s₂.slotsUsed } : State).setVm s₂.vm).setTop (F0 m pc ls rest)).pushFrame (.throwing q) := by
    refine e3.trans ?_
    rw [hf₂, State.calling_eq hat.top, State.setFrames_setFrames, State.pushFrame, State.frames_setTop _ hr', State.setTop_of_frames _ hr', State.setFrames_setFrames, hr]
    rfl
  have hW' : U.WarmedH s₂.vm := v4
  have hsame : U.sameButNew ({ U with heap := s₂.heap, slotsUsed := s₂.slotsUsed } : State) [] mc ms := by
    refine ⟨?_, w2, w3, w4, w5, w6⟩
    obtain ⟨t9, ht9, -⟩ := State.frames_cons hr
    show ({ U with heap := s₂.heap, slotsUsed := s₂.slotsUsed } : State) = { U.setFrames U.frames with heap := s₂.heap, slotsUsed := s₂.slotsUsed }
    rw [State.setFrames_self ht9]
  have XB : Stand p l e R s m args below meth c (({ U with heap := s₂.heap, slotsUsed := s₂.slotsUsed } : State).setVm s₂.vm) (locs ++ []) (cells + mc) (slots + ms) :=
    ⟨X₁.admits, X₁.cas, X₁.clock, X₁.frames, X₁.room, X₁.hears, X₁.method, X₁.code, (X₁.here.setHeapUsed s₂.heap s₂.slotsUsed).setVm hW'.alike, X₁.tail, State.WarmedH.trans X₁.warmed hW', X₁.limits, X₁.bytes, X₁.same.trans (hsame.setVm s.vm)⟩
  rw [List.append_nil] at XB
  have hold := sx_old hsame
  have v3' : s.vm.findClass E = some ce.cls := by
    have z : U.vm.findClass E = some ce.cls := v3
    rw [X₁.warmed.alike.findClass] at z
    exact z
  obtain ⟨t, a1, b1⟩ := kx ce q s₂.heap (by rw [← hUh]; exact hold.1) (by rw [← hUh]; exact hold.2) v1 v2 v3' (({ U with heap := s₂.heap, slotsUsed := s₂.slotsUsed } : State).setVm s₂.vm) rfl XB
  refine ⟨t, hstep₁ _ fun acts => ?_, b1⟩
  rw [doInvoke_state]
  refine hsteps.trans ?_
  rw [hs₂]
  exact a1
/-- it goes on to the caller, where nothing has been written yet -/
theorem sx_out {pc : Nat} {ls : Array Slot} {rest : List Value} {E : String} {ce : Cell} {q : Addr} {mc ms : Nat} (hout : c.exceptionTable.toList = []) (hlocks : meth.locks = false) (hcell : H[q]? = some ce) (hv : ce.vm = .none) (hcl : s.vm.findClass E = some ce.cls) (hc : cells ≤ mc) (hs : slots ≤ ms) :
    sx_V p l e R s m args below meth c H [] cells slots (sx_TZ below E mc ms s) (F0 m pc ls rest) q := by
  intro T hT X
  obtain ⟨st1, hrun, hend, hW, hsm⟩ := X.leaveThrown q (g := F0 m pc ls rest) rfl rfl rfl (fun x h => by rw [hout] at h; cases h) hlocks
  have hcell9 : (T.setFrames (.throwing q :: below)).heap[q]? = some ce := by
    show T.heap[q]? = some ce
    rw [hT]; exact hcell
  exact ⟨_, st1, q, hrun, hend, ce, hcell9, hv, hcl, hW, hsm.mono hc hs⟩
end SXT
/-! METHODS THAT CHANGE NOTHING: their contracts say that the heap is the same -/
def sx_Si (r : Int32) : Array Value → State → Outcome → State → Prop := fun _ st o t => o = .returned (some (.int r)) ∧ t.heap = st.heap
def sx_Sl (r : Int64) : Array Value → State → Outcome → State → Prop := fun _ st o t => o = .returned (some (.long r)) ∧ t.heap = st.heap
def sx_Sv : Array Value → State → Outcome → State → Prop := fun _ st o t => o = .returned none ∧ t.heap = st.heap
section SXS
variable {p : Program} {l : Launch} {e : Env} {R : Room} {s : State} {m : MethodId} {args : Array Value} {below : List Frame} {meth : Method} {c : Code} {H : Heap} {locs : List Loc} {cells slots : Nat} {Q : State → Prop}
variable {pc : Nat} {ls : Array Slot} {st0 rest : List Value} {a : Array Value}
theorem sx_nil {L : List Loc} (h : ∀ q ∈ L, (fun _ : Addr => False) q.base) : L = [] := by
  cases L with
  | nil => rfl
  | cons x r => exact (h x List.mem_cons_self).elim
theorem sx_stI {r : Int32} (hr : va_Run p l e R s m args below meth c H locs cells slots 0 0 (F0 m pc ls st0) rest (sx_Si r a) (fun _ => False)) (k : W p l e R s m args below meth c H locs cells slots Q (F0 m (pc + 3) ls (.int r :: rest))) : W p l e R s m args below meth c H locs cells slots Q (F0 m pc ls st0) := by
  intro T hT X
  obtain ⟨v, st₀, t, T', L, h0, X', hL, e1, e2, ⟨hv, hh⟩, st⟩ := hr T hT X
  cases hv
  rw [sx_nil hL, List.append_nil] at X'
  obtain ⟨t2, a1, b1⟩ := k T' (by rw [e1, hh, h0]) X'
  exact ⟨t2, st t2 a1, b1⟩
theorem sx_stL {r : Int64} (hr : va_Run p l e R s m args below meth c H locs cells slots 0 0 (F0 m pc ls st0) rest (sx_Sl r a) (fun _ => False)) (k : W p l e R s m args below meth c H locs cells slots Q (F0 m (pc + 3) ls (.long r :: rest))) : W p l e R s m args below meth c H locs cells slots Q (F0 m pc ls st0) := by
  intro T hT X
  obtain ⟨v, st₀, t, T', L, h0, X', hL, e1, e2, ⟨hv, hh⟩, st⟩ := hr T hT X
  cases hv
  rw [sx_nil hL, List.append_nil] at X'
  obtain ⟨t2, a1, b1⟩ := k T' (by rw [e1, hh, h0]) X'
  exact ⟨t2, st t2 a1, b1⟩
theorem sx_stV (hr : va_Run p l e R s m args below meth c H locs cells slots 0 0 (F0 m pc ls st0) rest (sx_Sv a) (fun _ => False)) (k : W p l e R s m args below meth c H locs cells slots Q (F0 m (pc + 3) ls rest)) : W p l e R s m args below meth c H locs cells slots Q (F0 m pc ls st0) := by
  intro T hT X
  obtain ⟨v, st₀, t, T', L, h0, X', hL, e1, e2, ⟨hv, hh⟩, st⟩ := hr T hT X
  cases hv
  rw [sx_nil hL, List.append_nil] at X'
  obtain ⟨t2, a1, b1⟩ := k T' (by rw [e1, hh, h0]) X'
  exact ⟨t2, st t2 a1, b1⟩
end SXS
/-! a new array is of the class that is known -/
theorem sx_sameI {D : va_G} {cl : List vw_C} {tys : List (ClassId × FieldType)} {s : State} {cA c0 : ClassId} (h : va_K D cl (tys ++ [(cA, .int)]) s) (t0 : Nat) (ht : tys[t0]? = some (c0, .int)) : cA = c0 := by
  have hlt : t0 < tys.length := (List.getElem?_eq_some_iff.mp ht).1
  have h1 : s.vm.findClass _ = some cA := (h.2 tys.length (cA, .int) (by simp)).2
  have h2 : s.vm.findClass _ = some c0 := (h.2 t0 (c0, .int) (by rw [List.getElem?_append_left hlt]; exact ht)).2
  exact Option.some.inj (h1.symm.trans h2)
theorem sx_sameL {D : va_G} {cl : List vw_C} {tys : List (ClassId × FieldType)} {s : State} {cA c0 : ClassId} (h : va_K D cl (tys ++ [(cA, .long)]) s) (t0 : Nat) (ht : tys[t0]? = some (c0, .long)) : cA = c0 := by
  have hlt : t0 < tys.length := (List.getElem?_eq_some_iff.mp ht).1
  have h1 : s.vm.findClass _ = some cA := (h.2 tys.length (cA, .long) (by simp)).2
  have h2 : s.vm.findClass _ = some c0 := (h.2 t0 (c0, .long) (by rw [List.getElem?_append_left hlt]; exact ht)).2
  exact Option.some.inj (h1.symm.trans h2)
theorem sx_sameZ {D : va_G} {cl : List vw_C} {tys : List (ClassId × FieldType)} {s : State} {cA c0 : ClassId} (h : va_K D cl (tys ++ [(cA, .boolean)]) s) (t0 : Nat) (ht : tys[t0]? = some (c0, .boolean)) : cA = c0 := by
  have hlt : t0 < tys.length := (List.getElem?_eq_some_iff.mp ht).1
  have h1 : s.vm.findClass _ = some cA := (h.2 tys.length (cA, .boolean) (by simp)).2
  have h2 : s.vm.findClass _ = some c0 := (h.2 t0 (c0, .boolean) (by rw [List.getElem?_append_left hlt]; exact ht)).2
  exact Option.some.inj (h1.symm.trans h2)
