/-! PURE ROWS of the functions that the program lays (m_.., L_..): a guard, branches, binds -/
/-- goes on where c holds, else none -/
noncomputable def gd {α : Type} (c : Prop) (a : Option α) : Option α := @ite (Option α) c (Classical.propDecidable c) a none
theorem gd_el {α : Type} {c : Prop} {a : Option α} {r : α} (h : gd c a = some r) : c ∧ a = some r := by
  by_cases hc : c
  · refine ⟨hc, ?_⟩
    rw [gd, if_pos hc] at h
    exact h
  · rw [gd, if_neg hc] at h
    cases h
theorem gd_in {α : Type} {c : Prop} {a : Option α} (hc : c) : gd c a = a := by
  rw [gd, if_pos hc]
theorem sx_pos {α : Type} {c : Prop} {i : Decidable c} {a b : Option α} {r : α} (hc : c) (h : @ite (Option α) c i a b = some r) : a = some r := by
  rw [if_pos hc] at h; exact h
theorem sx_neg {α : Type} {c : Prop} {i : Decidable c} {a b : Option α} {r : α} (hc : ¬ c) (h : @ite (Option α) c i a b = some r) : b = some r := by
  rw [if_neg hc] at h; exact h
theorem sx_bind {α β : Type} {o : Option α} {f : α → Option β} {r : β} (h : o.bind f = some r) : ∃ a, o = some a ∧ f a = some r := by
  cases o with
  | none => cases h
  | some a => exact ⟨a, rfl, h⟩
/-- more than any loop's rounds -/
def fu : Nat := 100000
theorem sx_z0 : narrow .boolean (.int 0) = .int 0 := rfl
theorem sx_z1 : narrow .boolean (.int 1) = .int 1 := rfl
def sx_zok (v : Int32) : Prop := narrow .boolean (.int v) = .int v
/-! WHAT IS CARRIED: nest mates' links, the static arrays -/
def sx_IW (j : Nat) : Int64 := ([-6148914691236517206, -3689348814741910324, -1085102592571150096, -71777214294589696] : List Int64).getD j 0
def sx_LW (j : Nat) : Int64 := ([-281470681808896, -4294967296] : List Int64).getD j 0
/-- where a static reference lies, and that it holds a reference or null -/
def sx_Q (C n d : String) (A : Nat → Prop) (U : State) (H : Heap) : Prop :=
  ∃ (c : ClassId) (k : Class) (i : Nat) (f : Field) (a : Nat) (cell : Cell) (v : Value), (U.vm.findClass C = some c ∧ U.fieldFound? C n d = some (c, k, i, f) ∧ f.isStatic = true ∧ k.statics = some a ∧ k.staticTypes[f.slot]? = some f.type) ∧ (H[a]? = some cell ∧ ¬ A a) ∧ cell.vm.isStatics = true ∧ cell.cls = c ∧ f.slot < cell.slots.size ∧ cell.slots[f.slot]? = some v ∧ v.isRef = true
theorem sx_Q.go {C n d : String} {A B : Nat → Prop} {s U : State} {H H1 : Heap} (h : sx_Q C n d A s H) (hvm : s.vm.Alike U.vm) (hk : ∀ q : Nat, q < H.size → ¬ A q → H1[q]? = H[q]?) (hB : ∀ q, B q → A q) : sx_Q C n d B U H1 := by
  obtain ⟨c, k, i, f, a, cell, v, ⟨h1, h2, h3, h4, h5⟩, ⟨h6, h7⟩, h8⟩ := h
  obtain ⟨k', hi', he⟩ := State.fieldFound?_setVm hvm h2
  exact ⟨c, k', i, f, a, cell, v, ⟨by rw [hvm.findClass]; exact h1, hi', h3, by rw [he]; exact h4, by rw [he]; exact h5⟩, ⟨by rw [hk a (Array.getElem?_eq_some_iff.mp h6).1 h7]; exact h6, fun z => h7 (hB a z)⟩, h8⟩
theorem sx_Q.word {C n d : String} {A : Nat → Prop} {s : State} {args : Array Value} (h : sx_Q C n d A s s.heap) : (Cond.laysStatic C n d).before args s = true ∧ (Cond.isRef (.static C n d)).before args s = true := by
  obtain ⟨c, k, i, f, a, cell, v, ⟨h1, h2, h3, h4, h5⟩, ⟨h6, -⟩, h8, h9, h10, h11, h12⟩ := h
  refine ⟨Cond.laysStatic_of h1 h2 h3 h4 h6 h8 h9 h10 h5, ?_⟩
  have he : (Term.static C n d).eval args s none [] s = some v := by simp [Term.eval, State.fieldNamed?, h2, h3, h4, h6, h8, h11]
  simp only [Cond.before, Cond.holds, Cond.value, he]
  cases v <;> simp_all [Value.isRef]
theorem sx_Q.of {C n d : String} {A : Nat → Prop} {s : State} {args : Array Value} (hl : (Cond.laysStatic C n d).before args s = true) (hini : (Cond.initialized C).before args s = true) (hr : (Cond.isRef (.static C n d)).before args s = true) (hA : ∀ a : Nat, a < s.heap.size → ¬ A a) : sx_Q C n d A s s.heap := by
  obtain ⟨c, k, i, f, a, cell, h1, h2, h3, h4, h5, h6, h7, h8, h9⟩ := Cond.laysStatic_spec hl
  have key : ∀ v : Value, va_Z C n d v A s s.heap → v.isRef = true → sx_Q C n d A s s.heap := by
    intro v hz hv
    obtain ⟨cf, kf, fi, f2, a2, cell2, g1, g2, g3, g4, g5, g6, g7, g8⟩ := hz
    cases Option.some.inj (h2.symm.trans g1)
    cases Option.some.inj (h4.symm.trans g4)
    cases Option.some.inj (h5.symm.trans g5)
    exact ⟨c, k, i, f, a, cell, v, ⟨h1, h2, h3, h4, h9⟩, ⟨h5, g8⟩, h6, h7, h8, g7, hv⟩
  rcases va_Zqof hl hini hr hA with h | ⟨t, h⟩
  · exact key _ h rfl
  · exact key _ h rfl
def sx_X (t1 t2 : Nat) (A : Nat → Prop) (U : State) (H : Heap) : Prop :=
  (∀ q ∈ sx_nest, va_Nw (.methodLinkNest q.1 q.2.1 q.2.2.1 q.2.2.2) U) ∧
  va_Z "StateExplorer$Table" "INPUT_WORDS" "[J" (.ref t1) A U H ∧ va_T .long t1 4 (fun j => .long (sx_IW j)) A U H ∧
  va_Z "StateExplorer$Table" "LATCH_WORDS" "[J" (.ref t2) A U H ∧ va_T .long t2 2 (fun j => .long (sx_LW j)) A U H ∧
  (∀ x ∈ sx_decl, va_Nw (.declares x) U) ∧ (∀ q ∈ sx_cast, va_Nw (.castable q.1 q.2) U) ∧ (∀ q ∈ sx_strs, ∃ a, vk_R q.1 q.2.1 q.2.2 a U) ∧
  sx_Q Bundle.tN "UNASSIGNED_STACK" Bundle.steD A U H ∧ sx_Q Bundle.tN "SUPPRESSED_SENTINEL" Bundle.listD A U H ∧ ∀ q ∈ sx_noc, va_Nc q.1 q.2 U
theorem sx_X.calling {t1 t2 : Nat} {A : Nat → Prop} {U : State} {g : JFrame} {mk : MethodId} {a : Array Value} (h : sx_X t1 t2 A U U.heap) : sx_X t1 t2 A (U.calling g mk a) (U.calling g mk a).heap := by
  obtain ⟨h1, h2, h3, h4, h5, h6, h7, h8, h9, h10, h11⟩ := h
  have hv : U.vm.Alike (U.calling g mk a).vm := Vm.Alike.refl U.vm
  exact ⟨fun q hq => va_Nw.same rfl rfl (h1 q hq), va_Z.moved hv h2, va_T.moved hv h3, va_Z.moved hv h4, va_T.moved hv h5, fun q hq => va_Nw.same rfl rfl (h6 q hq), fun q hq => va_Nw.same rfl rfl (h7 q hq),
    fun q hq => (h8 q hq).elim fun z hz => ⟨z, vk_R.same rfl hz⟩, h9.go hv (fun _ _ _ => rfl) (fun _ z => z), h10.go hv (fun _ _ _ => rfl) (fun _ z => z), fun q hq => va_Nc.moved hv (h11 q hq)⟩
theorem sx_X.call {t1 t2 : Nat} {A B : Nat → Prop} {s U : State} {H : Heap} {locs : List Loc} (h : sx_X t1 t2 A s s.heap) (hS : va_S A s.heap H locs) (hB : ∀ q, B q → A q) (hU : U.heap = H) (hW : s.WarmedH U.vm) : sx_X t1 t2 B U U.heap := by
  rw [hU]
  obtain ⟨h1, h2, h3, h4, h5, h6, h7, h8, h9, h10, h11⟩ := h
  exact ⟨fun q hq => va_Nw.warmM hW (h1 q hq), va_Z.moved hW.alike ((h2.kept hS.2.1).narrow hB), va_T.moved hW.alike ((h3.kept hS.2.1).narrow hB), va_Z.moved hW.alike ((h4.kept hS.2.1).narrow hB), va_T.moved hW.alike ((h5.kept hS.2.1).narrow hB),
    fun q hq => va_Nw.warmD hW (h6 q hq), fun q hq => va_Nw.warmC hW (h7 q hq), fun q hq => (h8 q hq).elim fun z hz => ⟨z, vk_R.warm hW hz⟩, h9.go hW.alike hS.2.1 hB, h10.go hW.alike hS.2.1 hB, fun q hq => va_Nc.moved hW.alike (h11 q hq)⟩
/-! A METHOD'S START AND END -/
def sx_Pc (D : va_G) (tys : List (ClassId × FieldType)) (t1 t2 : Nat) (ws : va_W) (sz : Nat) (av : List Value) : Array Value → State → Prop :=
  va_Pc av (fun U => U.heap.size = sz ∧ va_P D vwCl ws U.heap ∧ va_K D vwCl tys U ∧ va_D (fun _ => True) ws ∧ sx_X t1 t2 (va_A ws sz) U U.heap)
def sx_W (D : va_G) (tys : List (ClassId × FieldType)) (A : Nat → Prop) (ws : va_W) (t : State) : Prop := va_P D vwCl ws t.heap ∧ va_K D vwCl tys t ∧ va_D A ws
theorem sx_Wi {D : va_G} {tys : List (ClassId × FieldType)} {A : Nat → Prop} {ws : va_W} {s t : State} {H : Heap} (hP : va_P D vwCl ws H) (hK : va_K D vwCl tys s) (hD : va_D A ws) (ht : t.heap = H) (hvm : s.vm.Alike t.vm) : sx_W D tys A ws t :=
  ⟨by rw [ht]; exact hP, va_K.moved hvm hK, hD⟩
/-- what a walk stands on -/
def sx_C (p : Program) (s : State) (m : MethodId) (args : Array Value) (meth : Method) (c : Code) (cc : ByteArray) (nL : Nat) (own : String) (A : Nat → Prop) (D : va_G) (tys : List (ClassId × FieldType)) (t1 t2 : Nat) : Prop :=
  p.tables.exec = Jvm.exec ∧ c.code = cc ∧ c.maxLocals = nL ∧ s.vm.findClass own = some m.cls ∧ (∀ w ∈ tb, w.before args s = true) ∧ (∀ q : Nat, s.heap.size ≤ q → A q) ∧ va_K D vwCl tys s ∧ meth.locks = false ∧ sx_X t1 t2 A s s.heap
theorem sx_blind {D : va_G} {tys : List (ClassId × FieldType)} {t1 t2 : Nat} {ws : va_W} {sz : Nat} {av : List Value} : FrameBlind (sx_Pc D tys t1 t2 ws sz av) := fun a U g mk q => by
  obtain ⟨q0, q1, qP, qK, qD, qX⟩ := q
  exact ⟨q0, q1, qP, va_K.moved (u := U) (U := U.calling g mk a) (Vm.Alike.refl U.vm) qK, qD, qX.calling⟩
theorem sx_at {D : va_G} {tys : List (ClassId × FieldType)} {t1 t2 : Nat} {A : Nat → Prop} {ws wc : va_W} {s : State} {H : Heap} {locs : List Loc} {av : List Value} (hK : va_K D vwCl tys s) (hX : sx_X t1 t2 A s s.heap) (hS : va_S A s.heap H locs) (hPc : va_P D vwCl wc H) (hDc : va_D A wc) (hFc : ∀ q, va_A wc H.size q → A q) :
    ∀ U : State, U.heap = H → s.WarmedH U.vm → sx_Pc D tys t1 t2 wc H.size av av.toArray U := fun U hU hW =>
  ⟨rfl, by rw [hU], by rw [hU]; exact hPc, va_K.moved hW.alike hK, hDc.weaken (fun _ _ _ _ => trivial), hX.call hS hFc hU hW⟩
theorem sx_pV {D : va_G} {tys : List (ClassId × FieldType)} {t1 t2 : Nat} {A : Nat → Prop} {wc : va_W} {s : State} {H : Heap} {locs : List Loc} {C : String} {b : Addr} {As : List Value} (hK : va_K D vwCl tys s) (hX : sx_X t1 t2 A s s.heap) (hS : va_S A s.heap H locs) (hPc : va_P D vwCl wc H) (hDc : va_D A wc) (hFc : ∀ q, va_A wc H.size q → A q)
    (hr : ∃ cell : Cell, H[b]? = some cell ∧ cell.vm.isStatics = false ∧ s.vm.findClass C = some cell.cls) : PreV s H C b (sx_Pc D tys t1 t2 wc H.size (.ref b :: As)) As :=
  ⟨sx_blind, hr, sx_at (ws := wc) hK hX hS hPc hDc hFc⟩
theorem sx_pS {D : va_G} {tys : List (ClassId × FieldType)} {t1 t2 : Nat} {A : Nat → Prop} {wc : va_W} {s : State} {H : Heap} {locs : List Loc} {As : List Value} (hK : va_K D vwCl tys s) (hX : sx_X t1 t2 A s s.heap) (hS : va_S A s.heap H locs) (hPc : va_P D vwCl wc H) (hDc : va_D A wc) (hFc : ∀ q, va_A wc H.size q → A q) :
    PreS s H (sx_Pc D tys t1 t2 wc H.size As) As :=
  ⟨sx_blind, sx_at (ws := wc) hK hX hS hPc hDc hFc⟩
/-! THE WORDS OF A CALL -/
theorem sx_gC {cd : Cond} (h : cd ∈ tb) : GoodIn tb (cd :: tb) := fun w hw => by
  rcases List.mem_cons.mp hw with rfl | h2
  · exact tb_good _ h
  · exact tb_good _ h2
theorem sx_gV {own C : String} {idx : Nat} {y : MethodName} {cd : Cond} (h1 : Cond.methodLink own idx y ∈ tb) (h2 : Cond.instanceMethod y ∈ tb) (h3 : Cond.selects C y y ∈ tb) (h4 : Cond.initialized C ∈ tb) (h5 : cd ∈ tb) : GoodIn tb (wsV own idx C y (cd :: tb)) := fun w hw => by
  rcases List.mem_append.mp hw with h | h
  · simp only [List.mem_cons, List.not_mem_nil, or_false] at h
    rcases h with rfl | rfl | rfl | rfl
    · exact tb_good _ h1
    · exact tb_good _ h2
    · exact tb_good _ h3
    · exact tb_good _ h4
  · exact sx_gC h5 w h
theorem sx_gS {own : String} {idx : Nat} {y : MethodName} {cd : Cond} (h1 : Cond.methodLink own idx y ∈ tb) (h2 : Cond.static y ∈ tb) (h3 : Cond.initialized y.cls ∈ tb) (h5 : cd ∈ tb) : GoodIn tb (va_wsS own idx y (cd :: tb)) := fun w hw => by
  rcases List.mem_append.mp hw with h | h
  · simp only [List.mem_cons, List.not_mem_nil, or_false] at h
    rcases h with rfl | rfl | rfl
    · exact tb_good _ h1
    · exact tb_good _ h2
    · exact tb_good _ h3
  · exact sx_gC h5 w h
/-! a join: what is done behind it is said once -/
def sx_let {α β : Type} (f : α) (g : α → Option β) : Option β := g f
theorem sx_lj {α β : Type} {f : α} {g : α → Option β} {r : β} (h : sx_let f g = some r) : ∃ J, J = f ∧ g J = some r := ⟨f, rfl, h⟩
