noncomputable def m_Exp_wordOf  (p0 : Int32) : Option (Int32) := some (p0 >>> ((2 : Int32) &&& 31))
def rm_Exp_wordOf : Room := { frames := 0, cells := 0, slots := 0, locals := 0 }
set_option maxHeartbeats 4000000 in
set_option maxRecDepth 100000 in
theorem k_Exp_wordOf (l : Launch) (dC : Nat → ClassId) (dI : Nat → Nat → Nat) (cI cL cZ : ClassId) (t1 t2 : Nat)   (sz : Nat) (p0 : Int32) (v : Int32) (hm : m_Exp_wordOf p0 = some v) : Met l yExp_wordOf wsExp_wordOf rm_Exp_wordOf (sx_Pc (dC, dI) [(cI, .int), (cL, .long), (cZ, .boolean)] t1 t2 [] sz [.int p0]) (sx_Si v) 0 0 (fun _ => False) := by
  refine Met.ofW (cc := cExp_wordOf) (maxL := 1) (ret := (some .int)) (by decide) rfl ?_
  intro p e s m args below meth c s₁ B hml hv
  obtain ⟨rfl, hsz, hP, hK, hD0, hX⟩ := hv
  have hx := B.exec
  have hb := B.bytes
  have hr := B.returns
  have hts0 := atoms_spec (ws := wsExp_wordOf) B.pre
  have hts : ∀ w ∈ tb, w.before _ s = true := fun w h => hts0 w (List.mem_cons_of_mem _ h)
  have hown : s.vm.findClass "StateExplorer" = some m.cls := findClass_of_methodNamed B.named
  have hlocks := B.notSynchronized
  subst hsz
  have hD := hD0.self (sz := s.heap.size)
  generalize hAe : va_A [] s.heap.size = A at hD hX 
  have hA : ∀ q : Nat, s.heap.size ≤ q → A q := fun q h => by rw [← hAe]; exact Or.inr h
  have hS : va_S A s.heap s.heap [] := va_S.rf
  have hl := lv_entry ([.int p0]) (n := 1) (Nat.le_of_ble_eq_true rfl)
  rw [lg_entry_eq]
  generalize (lg_sl ([.int p0]) ++ List.replicate (1 - (lg_sl ([.int p0])).length) Slot.unset).toArray = ls at hl ⊢
  have hl : lv_has ls 1 [(0, .int p0)] := hl
  have C0 : sx_C p s m _ meth c cExp_wordOf 1 "StateExplorer" A (dC, dI) [(cI, .int), (cL, .long), (cZ, .boolean)] t1 t2 := ⟨hx, hb, hml, hown, hts, hA, hK, hlocks, hX⟩
  rw [m_Exp_wordOf] at hm
  refine lv_iload_n hx hb dExp_wordOf_0 rfl (lv_at hl 0 rfl) ?_
  refine lv_iconst (v := (2 : Int32)) hx hb dExp_wordOf_1 (by decide) ?_
  refine lv_ishr hx hb dExp_wordOf_2 ?_
  obtain rfl := Option.some.inj hm
  exact W.iret (v := p0 >>> ((2 : Int32) &&& 31)) hx hb hr (fun t ht hW => ⟨rfl, ht⟩) (fun q hq => nomatch hq) dExp_wordOf_3
noncomputable def m_Exp_shiftOf  (p0 : Int32) : Option (Int32) := some ((p0 &&& (3 : Int32)) <<< ((4 : Int32) &&& 31))
def rm_Exp_shiftOf : Room := { frames := 0, cells := 0, slots := 0, locals := 0 }
set_option maxHeartbeats 4000000 in
set_option maxRecDepth 100000 in
theorem k_Exp_shiftOf (l : Launch) (dC : Nat → ClassId) (dI : Nat → Nat → Nat) (cI cL cZ : ClassId) (t1 t2 : Nat)   (sz : Nat) (p0 : Int32) (v : Int32) (hm : m_Exp_shiftOf p0 = some v) : Met l yExp_shiftOf wsExp_shiftOf rm_Exp_shiftOf (sx_Pc (dC, dI) [(cI, .int), (cL, .long), (cZ, .boolean)] t1 t2 [] sz [.int p0]) (sx_Si v) 0 0 (fun _ => False) := by
  refine Met.ofW (cc := cExp_shiftOf) (maxL := 1) (ret := (some .int)) (by decide) rfl ?_
  intro p e s m args below meth c s₁ B hml hv
  obtain ⟨rfl, hsz, hP, hK, hD0, hX⟩ := hv
  have hx := B.exec
  have hb := B.bytes
  have hr := B.returns
  have hts0 := atoms_spec (ws := wsExp_shiftOf) B.pre
  have hts : ∀ w ∈ tb, w.before _ s = true := fun w h => hts0 w (List.mem_cons_of_mem _ h)
  have hown : s.vm.findClass "StateExplorer" = some m.cls := findClass_of_methodNamed B.named
  have hlocks := B.notSynchronized
  subst hsz
  have hD := hD0.self (sz := s.heap.size)
  generalize hAe : va_A [] s.heap.size = A at hD hX 
  have hA : ∀ q : Nat, s.heap.size ≤ q → A q := fun q h => by rw [← hAe]; exact Or.inr h
  have hS : va_S A s.heap s.heap [] := va_S.rf
  have hl := lv_entry ([.int p0]) (n := 1) (Nat.le_of_ble_eq_true rfl)
  rw [lg_entry_eq]
  generalize (lg_sl ([.int p0]) ++ List.replicate (1 - (lg_sl ([.int p0])).length) Slot.unset).toArray = ls at hl ⊢
  have hl : lv_has ls 1 [(0, .int p0)] := hl
  have C0 : sx_C p s m _ meth c cExp_shiftOf 1 "StateExplorer" A (dC, dI) [(cI, .int), (cL, .long), (cZ, .boolean)] t1 t2 := ⟨hx, hb, hml, hown, hts, hA, hK, hlocks, hX⟩
  rw [m_Exp_shiftOf] at hm
  refine lv_iload_n hx hb dExp_shiftOf_0 rfl (lv_at hl 0 rfl) ?_
  refine lv_iconst (v := (3 : Int32)) hx hb dExp_shiftOf_1 (by decide) ?_
  refine lv_iand hx hb dExp_shiftOf_2 ?_
  refine lv_iconst (v := (4 : Int32)) hx hb dExp_shiftOf_3 (by decide) ?_
  refine lv_ishl hx hb dExp_shiftOf_4 ?_
  obtain rfl := Option.some.inj hm
  exact W.iret (v := (p0 &&& (3 : Int32)) <<< ((4 : Int32) &&& 31)) hx hb hr (fun t ht hW => ⟨rfl, ht⟩) (fun q hq => nomatch hq) dExp_shiftOf_5
noncomputable def m_Net_empty (net_gateTotal net_inputTotal net_latchTotal net_outputTotal : Int32)  : Option (Int32 × Int32 × Int32 × Int32) := some ((0 : Int32), (0 : Int32), (0 : Int32), (0 : Int32))
def rm_Net_empty : Room := { frames := 0, cells := 0, slots := 0, locals := 0 }
set_option maxHeartbeats 4000000 in
set_option maxRecDepth 100000 in
theorem k_Net_empty (l : Launch) (dC : Nat → ClassId) (dI : Nat → Nat → Nat) (cI cL cZ : ClassId) (t1 t2 : Nat) (h_net a_net_sorts a_net_ranks a_net_starts a_net_literals a_net_nextLiterals a_net_outputs : Nat) (net_gateTotal net_inputTotal net_latchTotal net_outputTotal : Int32) (sz : Nat)  (v : Int32 × Int32 × Int32 × Int32) (hm : m_Net_empty net_gateTotal net_inputTotal net_latchTotal net_outputTotal = some v) : Met l yNet_empty wsNet_empty rm_Net_empty (sx_Pc (dC, dI) [(cI, .int), (cL, .long), (cZ, .boolean)] t1 t2 [(h_net, .inr (0, [.ref a_net_sorts, .ref a_net_ranks, .ref a_net_starts, .ref a_net_literals, .ref a_net_nextLiterals, .ref a_net_outputs, .int net_gateTotal, .int net_inputTotal, .int net_latchTotal, .int net_outputTotal]))] sz [.ref h_net]) (va_Qv (fun (_ : Unit) => True) (fun _ t => sx_W (dC, dI) [(cI, .int), (cL, .long), (cZ, .boolean)] (va_A [(h_net, .inr (0, [.ref a_net_sorts, .ref a_net_ranks, .ref a_net_starts, .ref a_net_literals, .ref a_net_nextLiterals, .ref a_net_outputs, .int net_gateTotal, .int net_inputTotal, .int net_latchTotal, .int net_outputTotal]))] sz) [(h_net, .inr (0, [.ref a_net_sorts, .ref a_net_ranks, .ref a_net_starts, .ref a_net_literals, .ref a_net_nextLiterals, .ref a_net_outputs, .int v.1, .int v.2.1, .int v.2.2.1, .int v.2.2.2]))] t) (va_A [(h_net, .inr (0, [.ref a_net_sorts, .ref a_net_ranks, .ref a_net_starts, .ref a_net_literals, .ref a_net_nextLiterals, .ref a_net_outputs, .int net_gateTotal, .int net_inputTotal, .int net_latchTotal, .int net_outputTotal]))] sz)) 0 0 (va_A [(h_net, .inr (0, [.ref a_net_sorts, .ref a_net_ranks, .ref a_net_starts, .ref a_net_literals, .ref a_net_nextLiterals, .ref a_net_outputs, .int net_gateTotal, .int net_inputTotal, .int net_latchTotal, .int net_outputTotal]))] sz) := by
  refine Met.ofW (cc := cNet_empty) (maxL := 1) (ret := none) (by decide) rfl ?_
  intro p e s m args below meth c s₁ B hml hv
  obtain ⟨rfl, hsz, hP, hK, hD0, hX⟩ := hv
  have hx := B.exec
  have hb := B.bytes
  have hr := B.returns
  have hts0 := atoms_spec (ws := wsNet_empty) B.pre
  have hts : ∀ w ∈ tb, w.before _ s = true := fun w h => hts0 w (List.mem_cons_of_mem _ h)
  have hown : s.vm.findClass "StateExplorer$Net" = some m.cls := findClass_of_methodNamed B.named
  have hlocks := B.notSynchronized
  subst hsz
  have hD := hD0.self (sz := s.heap.size)
  generalize hAe : va_A [(h_net, .inr (0, [.ref a_net_sorts, .ref a_net_ranks, .ref a_net_starts, .ref a_net_literals, .ref a_net_nextLiterals, .ref a_net_outputs, .int net_gateTotal, .int net_inputTotal, .int net_latchTotal, .int net_outputTotal]))] s.heap.size = A at hD hX ⊢
  have hA : ∀ q : Nat, s.heap.size ≤ q → A q := fun q h => by rw [← hAe]; exact Or.inr h
  have hS : va_S A s.heap s.heap [] := va_S.rf
  have hl := lv_entry ([.ref h_net]) (n := 1) (Nat.le_of_ble_eq_true rfl)
  rw [lg_entry_eq]
  generalize (lg_sl ([.ref h_net]) ++ List.replicate (1 - (lg_sl ([.ref h_net])).length) Slot.unset).toArray = ls at hl ⊢
  have hl : lv_has ls 1 [(0, .ref h_net)] := hl
  have C0 : sx_C p s m _ meth c cNet_empty 1 "StateExplorer$Net" A (dC, dI) [(cI, .int), (cL, .long), (cZ, .boolean)] t1 t2 := ⟨hx, hb, hml, hown, hts, hA, hK, hlocks, hX⟩
  rw [m_Net_empty] at hm
  refine lv_aload_n hx hb dNet_empty_0 rfl (lv_at hl 0 rfl) ?_
  refine lv_iconst (v := (0 : Int32)) hx hb dNet_empty_1 (by decide) ?_
  refine va_put (D := (dC, dI)) (ci := 0) (v := .int (0 : Int32)) (ty := .int) (C := RNet) (T := TNet) (N := 10) hx hb hts inNet tyNet tyNet_ok nmNet hown hK hP hD hS 0 rfl rfl 6 (by decide) (hts _ tw_75) (fun _ h9 => h9) rfl (by decide +kernel) rfl rfl (Nat.le_of_ble_eq_true rfl) dNet_empty_2 (fun H locs hP hD hS => ?_)
  have hP : va_P (dC, dI) vwCl [(h_net, .inr (0, [.ref a_net_sorts, .ref a_net_ranks, .ref a_net_starts, .ref a_net_literals, .ref a_net_nextLiterals, .ref a_net_outputs, .int (0 : Int32), .int net_inputTotal, .int net_latchTotal, .int net_outputTotal]))] H := hP
  have hD : va_D A [(h_net, .inr (0, [.ref a_net_sorts, .ref a_net_ranks, .ref a_net_starts, .ref a_net_literals, .ref a_net_nextLiterals, .ref a_net_outputs, .int (0 : Int32), .int net_inputTotal, .int net_latchTotal, .int net_outputTotal]))] := hD
  refine lv_aload_n hx hb dNet_empty_5 rfl (lv_at hl 0 rfl) ?_
  refine lv_iconst (v := (0 : Int32)) hx hb dNet_empty_6 (by decide) ?_
  refine va_put (D := (dC, dI)) (ci := 0) (v := .int (0 : Int32)) (ty := .int) (C := RNet) (T := TNet) (N := 10) hx hb hts inNet tyNet tyNet_ok nmNet hown hK hP hD hS 0 rfl rfl 7 (by decide) (hts _ tw_78) (fun _ h9 => h9) rfl (by decide +kernel) rfl rfl (Nat.le_of_ble_eq_true rfl) dNet_empty_7 (fun H locs hP hD hS => ?_)
  have hP : va_P (dC, dI) vwCl [(h_net, .inr (0, [.ref a_net_sorts, .ref a_net_ranks, .ref a_net_starts, .ref a_net_literals, .ref a_net_nextLiterals, .ref a_net_outputs, .int (0 : Int32), .int (0 : Int32), .int net_latchTotal, .int net_outputTotal]))] H := hP
  have hD : va_D A [(h_net, .inr (0, [.ref a_net_sorts, .ref a_net_ranks, .ref a_net_starts, .ref a_net_literals, .ref a_net_nextLiterals, .ref a_net_outputs, .int (0 : Int32), .int (0 : Int32), .int net_latchTotal, .int net_outputTotal]))] := hD
  refine lv_aload_n hx hb dNet_empty_10 rfl (lv_at hl 0 rfl) ?_
  refine lv_iconst (v := (0 : Int32)) hx hb dNet_empty_11 (by decide) ?_
  refine va_put (D := (dC, dI)) (ci := 0) (v := .int (0 : Int32)) (ty := .int) (C := RNet) (T := TNet) (N := 10) hx hb hts inNet tyNet tyNet_ok nmNet hown hK hP hD hS 0 rfl rfl 8 (by decide) (hts _ tw_80) (fun _ h9 => h9) rfl (by decide +kernel) rfl rfl (Nat.le_of_ble_eq_true rfl) dNet_empty_12 (fun H locs hP hD hS => ?_)
  have hP : va_P (dC, dI) vwCl [(h_net, .inr (0, [.ref a_net_sorts, .ref a_net_ranks, .ref a_net_starts, .ref a_net_literals, .ref a_net_nextLiterals, .ref a_net_outputs, .int (0 : Int32), .int (0 : Int32), .int (0 : Int32), .int net_outputTotal]))] H := hP
  have hD : va_D A [(h_net, .inr (0, [.ref a_net_sorts, .ref a_net_ranks, .ref a_net_starts, .ref a_net_literals, .ref a_net_nextLiterals, .ref a_net_outputs, .int (0 : Int32), .int (0 : Int32), .int (0 : Int32), .int net_outputTotal]))] := hD
  refine lv_aload_n hx hb dNet_empty_15 rfl (lv_at hl 0 rfl) ?_
  refine lv_iconst (v := (0 : Int32)) hx hb dNet_empty_16 (by decide) ?_
  refine va_put (D := (dC, dI)) (ci := 0) (v := .int (0 : Int32)) (ty := .int) (C := RNet) (T := TNet) (N := 10) hx hb hts inNet tyNet tyNet_ok nmNet hown hK hP hD hS 0 rfl rfl 9 (by decide) (hts _ tw_83) (fun _ h9 => h9) rfl (by decide +kernel) rfl rfl (Nat.le_of_ble_eq_true rfl) dNet_empty_17 (fun H locs hP hD hS => ?_)
  have hP : va_P (dC, dI) vwCl [(h_net, .inr (0, [.ref a_net_sorts, .ref a_net_ranks, .ref a_net_starts, .ref a_net_literals, .ref a_net_nextLiterals, .ref a_net_outputs, .int (0 : Int32), .int (0 : Int32), .int (0 : Int32), .int (0 : Int32)]))] H := hP
  have hD : va_D A [(h_net, .inr (0, [.ref a_net_sorts, .ref a_net_ranks, .ref a_net_starts, .ref a_net_literals, .ref a_net_nextLiterals, .ref a_net_outputs, .int (0 : Int32), .int (0 : Int32), .int (0 : Int32), .int (0 : Int32)]))] := hD
  obtain rfl := Option.some.inj hm
  exact W.vret hx hb hr (fun t ht hW => ⟨⟨(), rfl, trivial, sx_Wi hP hK hD ht hW.alike⟩, hS.F ht⟩) hS.2.2 dNet_empty_20
noncomputable def m_Net_feedTotal (net_starts : Nat → Int32) (net_gateTotal : Int32)  : Option (Int32) := gd (vp_in net_gateTotal 61) (some (net_starts net_gateTotal.toNatClampNeg))
def rm_Net_feedTotal : Room := { frames := 0, cells := 0, slots := 0, locals := 0 }
set_option maxHeartbeats 4000000 in
set_option maxRecDepth 100000 in
theorem k_Net_feedTotal (l : Launch) (dC : Nat → ClassId) (dI : Nat → Nat → Nat) (cI cL cZ : ClassId) (t1 t2 : Nat) (h_net a_net_sorts a_net_ranks a_net_starts a_net_literals a_net_nextLiterals a_net_outputs : Nat) (net_starts : Nat → Int32) (net_gateTotal net_inputTotal net_latchTotal net_outputTotal : Int32) (sz : Nat)  (v : Int32) (hm : m_Net_feedTotal net_starts net_gateTotal = some v) : Met l yNet_feedTotal wsNet_feedTotal rm_Net_feedTotal (sx_Pc (dC, dI) [(cI, .int), (cL, .long), (cZ, .boolean)] t1 t2 [(h_net, .inr (0, [.ref a_net_sorts, .ref a_net_ranks, .ref a_net_starts, .ref a_net_literals, .ref a_net_nextLiterals, .ref a_net_outputs, .int net_gateTotal, .int net_inputTotal, .int net_latchTotal, .int net_outputTotal])), (a_net_starts, .inl (cI, 61, .inl net_starts))] sz [.ref h_net]) (sx_Si v) 0 0 (fun _ => False) := by
  refine Met.ofW (cc := cNet_feedTotal) (maxL := 1) (ret := (some .int)) (by decide) rfl ?_
  intro p e s m args below meth c s₁ B hml hv
  obtain ⟨rfl, hsz, hP, hK, hD0, hX⟩ := hv
  have hx := B.exec
  have hb := B.bytes
  have hr := B.returns
  have hts0 := atoms_spec (ws := wsNet_feedTotal) B.pre
  have hts : ∀ w ∈ tb, w.before _ s = true := fun w h => hts0 w (List.mem_cons_of_mem _ h)
  have hown : s.vm.findClass "StateExplorer$Net" = some m.cls := findClass_of_methodNamed B.named
  have hlocks := B.notSynchronized
  subst hsz
  have hD := hD0.self (sz := s.heap.size)
  generalize hAe : va_A [(h_net, .inr (0, [.ref a_net_sorts, .ref a_net_ranks, .ref a_net_starts, .ref a_net_literals, .ref a_net_nextLiterals, .ref a_net_outputs, .int net_gateTotal, .int net_inputTotal, .int net_latchTotal, .int net_outputTotal])), (a_net_starts, .inl (cI, 61, .inl net_starts))] s.heap.size = A at hD hX 
  have hA : ∀ q : Nat, s.heap.size ≤ q → A q := fun q h => by rw [← hAe]; exact Or.inr h
  have hS : va_S A s.heap s.heap [] := va_S.rf
  have hl := lv_entry ([.ref h_net]) (n := 1) (Nat.le_of_ble_eq_true rfl)
  rw [lg_entry_eq]
  generalize (lg_sl ([.ref h_net]) ++ List.replicate (1 - (lg_sl ([.ref h_net])).length) Slot.unset).toArray = ls at hl ⊢
  have hl : lv_has ls 1 [(0, .ref h_net)] := hl
  have C0 : sx_C p s m _ meth c cNet_feedTotal 1 "StateExplorer$Net" A (dC, dI) [(cI, .int), (cL, .long), (cZ, .boolean)] t1 t2 := ⟨hx, hb, hml, hown, hts, hA, hK, hlocks, hX⟩
  rw [m_Net_feedTotal] at hm
  refine lv_aload_n hx hb dNet_feedTotal_0 rfl (lv_at hl 0 rfl) ?_
  refine va_get (D := (dC, dI)) (ci := 0) (v := .ref a_net_starts) (C := RNet) (T := TNet) (N := 10) hx hb hts inNet hown hK hP 0 rfl rfl 2 (by decide) (hts _ tw_67) (fun _ h9 => h9) rfl dNet_feedTotal_1 ?_
  refine lv_aload_n hx hb dNet_feedTotal_4 rfl (lv_at hl 0 rfl) ?_
  refine va_get (D := (dC, dI)) (ci := 0) (v := .int net_gateTotal) (C := RNet) (T := TNet) (N := 10) hx hb hts inNet hown hK hP 0 rfl rfl 6 (by decide) (hts _ tw_75) (fun _ h9 => h9) rfl dNet_feedTotal_5 ?_
  obtain ⟨g1, hm⟩ := gd_el hm
  refine va_iald hx hb hK hP 1 0 rfl rfl g1 dNet_feedTotal_8 ?_
  obtain rfl := Option.some.inj hm
  exact W.iret (v := net_starts net_gateTotal.toNatClampNeg) hx hb hr (fun t ht hW => ⟨rfl, ht⟩) (fun q hq => nomatch hq) dNet_feedTotal_9
noncomputable def m_Net_stateTotal (net_latchTotal : Int32)  : Option (Int32) := some ((1 : Int32) <<< (net_latchTotal &&& 31))
def rm_Net_stateTotal : Room := { frames := 0, cells := 0, slots := 0, locals := 0 }
set_option maxHeartbeats 4000000 in
set_option maxRecDepth 100000 in
theorem k_Net_stateTotal (l : Launch) (dC : Nat → ClassId) (dI : Nat → Nat → Nat) (cI cL cZ : ClassId) (t1 t2 : Nat) (h_net a_net_sorts a_net_ranks a_net_starts a_net_literals a_net_nextLiterals a_net_outputs : Nat) (net_gateTotal net_inputTotal net_latchTotal net_outputTotal : Int32) (sz : Nat)  (v : Int32) (hm : m_Net_stateTotal net_latchTotal = some v) : Met l yNet_stateTotal wsNet_stateTotal rm_Net_stateTotal (sx_Pc (dC, dI) [(cI, .int), (cL, .long), (cZ, .boolean)] t1 t2 [(h_net, .inr (0, [.ref a_net_sorts, .ref a_net_ranks, .ref a_net_starts, .ref a_net_literals, .ref a_net_nextLiterals, .ref a_net_outputs, .int net_gateTotal, .int net_inputTotal, .int net_latchTotal, .int net_outputTotal]))] sz [.ref h_net]) (sx_Si v) 0 0 (fun _ => False) := by
  refine Met.ofW (cc := cNet_stateTotal) (maxL := 1) (ret := (some .int)) (by decide) rfl ?_
  intro p e s m args below meth c s₁ B hml hv
  obtain ⟨rfl, hsz, hP, hK, hD0, hX⟩ := hv
  have hx := B.exec
  have hb := B.bytes
  have hr := B.returns
  have hts0 := atoms_spec (ws := wsNet_stateTotal) B.pre
  have hts : ∀ w ∈ tb, w.before _ s = true := fun w h => hts0 w (List.mem_cons_of_mem _ h)
  have hown : s.vm.findClass "StateExplorer$Net" = some m.cls := findClass_of_methodNamed B.named
  have hlocks := B.notSynchronized
  subst hsz
  have hD := hD0.self (sz := s.heap.size)
  generalize hAe : va_A [(h_net, .inr (0, [.ref a_net_sorts, .ref a_net_ranks, .ref a_net_starts, .ref a_net_literals, .ref a_net_nextLiterals, .ref a_net_outputs, .int net_gateTotal, .int net_inputTotal, .int net_latchTotal, .int net_outputTotal]))] s.heap.size = A at hD hX 
  have hA : ∀ q : Nat, s.heap.size ≤ q → A q := fun q h => by rw [← hAe]; exact Or.inr h
  have hS : va_S A s.heap s.heap [] := va_S.rf
  have hl := lv_entry ([.ref h_net]) (n := 1) (Nat.le_of_ble_eq_true rfl)
  rw [lg_entry_eq]
  generalize (lg_sl ([.ref h_net]) ++ List.replicate (1 - (lg_sl ([.ref h_net])).length) Slot.unset).toArray = ls at hl ⊢
  have hl : lv_has ls 1 [(0, .ref h_net)] := hl
  have C0 : sx_C p s m _ meth c cNet_stateTotal 1 "StateExplorer$Net" A (dC, dI) [(cI, .int), (cL, .long), (cZ, .boolean)] t1 t2 := ⟨hx, hb, hml, hown, hts, hA, hK, hlocks, hX⟩
  rw [m_Net_stateTotal] at hm
  refine lv_iconst (v := (1 : Int32)) hx hb dNet_stateTotal_0 (by decide) ?_
  refine lv_aload_n hx hb dNet_stateTotal_1 rfl (lv_at hl 0 rfl) ?_
  refine va_get (D := (dC, dI)) (ci := 0) (v := .int net_latchTotal) (C := RNet) (T := TNet) (N := 10) hx hb hts inNet hown hK hP 0 rfl rfl 8 (by decide) (hts _ tw_80) (fun _ h9 => h9) rfl dNet_stateTotal_2 ?_
  refine lv_ishl hx hb dNet_stateTotal_5 ?_
  obtain rfl := Option.some.inj hm
  exact W.iret (v := (1 : Int32) <<< (net_latchTotal &&& 31)) hx hb hr (fun t ht hW => ⟨rfl, ht⟩) (fun q hq => nomatch hq) dNet_stateTotal_6
noncomputable def m_Net_choiceTotal (net_inputTotal : Int32)  : Option (Int32) := some ((1 : Int32) <<< (net_inputTotal &&& 31))
def rm_Net_choiceTotal : Room := { frames := 0, cells := 0, slots := 0, locals := 0 }
set_option maxHeartbeats 4000000 in
set_option maxRecDepth 100000 in
theorem k_Net_choiceTotal (l : Launch) (dC : Nat → ClassId) (dI : Nat → Nat → Nat) (cI cL cZ : ClassId) (t1 t2 : Nat) (h_net a_net_sorts a_net_ranks a_net_starts a_net_literals a_net_nextLiterals a_net_outputs : Nat) (net_gateTotal net_inputTotal net_latchTotal net_outputTotal : Int32) (sz : Nat)  (v : Int32) (hm : m_Net_choiceTotal net_inputTotal = some v) : Met l yNet_choiceTotal wsNet_choiceTotal rm_Net_choiceTotal (sx_Pc (dC, dI) [(cI, .int), (cL, .long), (cZ, .boolean)] t1 t2 [(h_net, .inr (0, [.ref a_net_sorts, .ref a_net_ranks, .ref a_net_starts, .ref a_net_literals, .ref a_net_nextLiterals, .ref a_net_outputs, .int net_gateTotal, .int net_inputTotal, .int net_latchTotal, .int net_outputTotal]))] sz [.ref h_net]) (sx_Si v) 0 0 (fun _ => False) := by
  refine Met.ofW (cc := cNet_choiceTotal) (maxL := 1) (ret := (some .int)) (by decide) rfl ?_
  intro p e s m args below meth c s₁ B hml hv
  obtain ⟨rfl, hsz, hP, hK, hD0, hX⟩ := hv
  have hx := B.exec
  have hb := B.bytes
  have hr := B.returns
  have hts0 := atoms_spec (ws := wsNet_choiceTotal) B.pre
  have hts : ∀ w ∈ tb, w.before _ s = true := fun w h => hts0 w (List.mem_cons_of_mem _ h)
  have hown : s.vm.findClass "StateExplorer$Net" = some m.cls := findClass_of_methodNamed B.named
  have hlocks := B.notSynchronized
  subst hsz
  have hD := hD0.self (sz := s.heap.size)
  generalize hAe : va_A [(h_net, .inr (0, [.ref a_net_sorts, .ref a_net_ranks, .ref a_net_starts, .ref a_net_literals, .ref a_net_nextLiterals, .ref a_net_outputs, .int net_gateTotal, .int net_inputTotal, .int net_latchTotal, .int net_outputTotal]))] s.heap.size = A at hD hX 
  have hA : ∀ q : Nat, s.heap.size ≤ q → A q := fun q h => by rw [← hAe]; exact Or.inr h
  have hS : va_S A s.heap s.heap [] := va_S.rf
  have hl := lv_entry ([.ref h_net]) (n := 1) (Nat.le_of_ble_eq_true rfl)
  rw [lg_entry_eq]
  generalize (lg_sl ([.ref h_net]) ++ List.replicate (1 - (lg_sl ([.ref h_net])).length) Slot.unset).toArray = ls at hl ⊢
  have hl : lv_has ls 1 [(0, .ref h_net)] := hl
  have C0 : sx_C p s m _ meth c cNet_choiceTotal 1 "StateExplorer$Net" A (dC, dI) [(cI, .int), (cL, .long), (cZ, .boolean)] t1 t2 := ⟨hx, hb, hml, hown, hts, hA, hK, hlocks, hX⟩
  rw [m_Net_choiceTotal] at hm
  refine lv_iconst (v := (1 : Int32)) hx hb dNet_choiceTotal_0 (by decide) ?_
  refine lv_aload_n hx hb dNet_choiceTotal_1 rfl (lv_at hl 0 rfl) ?_
  refine va_get (D := (dC, dI)) (ci := 0) (v := .int net_inputTotal) (C := RNet) (T := TNet) (N := 10) hx hb hts inNet hown hK hP 0 rfl rfl 7 (by decide) (hts _ tw_78) (fun _ h9 => h9) rfl dNet_choiceTotal_2 ?_
  refine lv_ishl hx hb dNet_choiceTotal_5 ?_
  obtain rfl := Option.some.inj hm
  exact W.iret (v := (1 : Int32) <<< (net_inputTotal &&& 31)) hx hb hr (fun t ht hW => ⟨rfl, ht⟩) (fun q hq => nomatch hq) dNet_choiceTotal_6
noncomputable def m_Net_wordTotal (net_latchTotal : Int32)  : Option (Int32) := (m_Net_stateTotal net_latchTotal).bind (fun v1 => (m_Exp_wordOf (v1 - (1 : Int32))).bind (fun v3 => some (v3 + (1 : Int32))))
def rm_Net_wordTotal : Room := { frames := 1, cells := 0, slots := 0, locals := 20 }
set_option maxHeartbeats 4000000 in
set_option maxRecDepth 100000 in
theorem k_Net_wordTotal (l : Launch) (dC : Nat → ClassId) (dI : Nat → Nat → Nat) (cI cL cZ : ClassId) (t1 t2 : Nat) (h_net a_net_sorts a_net_ranks a_net_starts a_net_literals a_net_nextLiterals a_net_outputs : Nat) (net_gateTotal net_inputTotal net_latchTotal net_outputTotal : Int32) (sz : Nat)  (v : Int32) (hm : m_Net_wordTotal net_latchTotal = some v) : Met l yNet_wordTotal wsNet_wordTotal rm_Net_wordTotal (sx_Pc (dC, dI) [(cI, .int), (cL, .long), (cZ, .boolean)] t1 t2 [(h_net, .inr (0, [.ref a_net_sorts, .ref a_net_ranks, .ref a_net_starts, .ref a_net_literals, .ref a_net_nextLiterals, .ref a_net_outputs, .int net_gateTotal, .int net_inputTotal, .int net_latchTotal, .int net_outputTotal]))] sz [.ref h_net]) (sx_Si v) 0 0 (fun _ => False) := by
  refine Met.ofW (cc := cNet_wordTotal) (maxL := 1) (ret := (some .int)) (by decide) rfl ?_
  intro p e s m args below meth c s₁ B hml hv
  obtain ⟨rfl, hsz, hP, hK, hD0, hX⟩ := hv
  have hx := B.exec
  have hb := B.bytes
  have hr := B.returns
  have hts0 := atoms_spec (ws := wsNet_wordTotal) B.pre
  have hts : ∀ w ∈ tb, w.before _ s = true := fun w h => hts0 w (List.mem_cons_of_mem _ h)
  have hown : s.vm.findClass "StateExplorer$Net" = some m.cls := findClass_of_methodNamed B.named
  have hlocks := B.notSynchronized
  subst hsz
  have hD := hD0.self (sz := s.heap.size)
  generalize hAe : va_A [(h_net, .inr (0, [.ref a_net_sorts, .ref a_net_ranks, .ref a_net_starts, .ref a_net_literals, .ref a_net_nextLiterals, .ref a_net_outputs, .int net_gateTotal, .int net_inputTotal, .int net_latchTotal, .int net_outputTotal]))] s.heap.size = A at hD hX 
  have hA : ∀ q : Nat, s.heap.size ≤ q → A q := fun q h => by rw [← hAe]; exact Or.inr h
  have hS : va_S A s.heap s.heap [] := va_S.rf
  have hl := lv_entry ([.ref h_net]) (n := 1) (Nat.le_of_ble_eq_true rfl)
  rw [lg_entry_eq]
  generalize (lg_sl ([.ref h_net]) ++ List.replicate (1 - (lg_sl ([.ref h_net])).length) Slot.unset).toArray = ls at hl ⊢
  have hl : lv_has ls 1 [(0, .ref h_net)] := hl
  have C0 : sx_C p s m _ meth c cNet_wordTotal 1 "StateExplorer$Net" A (dC, dI) [(cI, .int), (cL, .long), (cZ, .boolean)] t1 t2 := ⟨hx, hb, hml, hown, hts, hA, hK, hlocks, hX⟩
  rw [m_Net_wordTotal] at hm
  refine lv_aload_n hx hb dNet_wordTotal_0 rfl (lv_at hl 0 rfl) ?_
  obtain ⟨v1, hv1, hm⟩ := sx_bind hm
  have hPc := hP.sub (ws' := [(h_net, .inr (0, [.ref a_net_sorts, .ref a_net_ranks, .ref a_net_starts, .ref a_net_literals, .ref a_net_nextLiterals, .ref a_net_outputs, .int net_gateTotal, .int net_inputTotal, .int net_latchTotal, .int net_outputTotal]))]) [0] rfl
  have hDc := hD.sub (ws' := [(h_net, .inr (0, [.ref a_net_sorts, .ref a_net_ranks, .ref a_net_starts, .ref a_net_literals, .ref a_net_nextLiterals, .ref a_net_outputs, .int net_gateTotal, .int net_inputTotal, .int net_latchTotal, .int net_outputTotal]))]) [0] (by decide) rfl
  have hFc := va_free (wc := [(h_net, .inr (0, [.ref a_net_sorts, .ref a_net_ranks, .ref a_net_starts, .ref a_net_literals, .ref a_net_nextLiterals, .ref a_net_outputs, .int net_gateTotal, .int net_inputTotal, .int net_latchTotal, .int net_outputTotal]))]) hD hS hA [0] rfl
  refine sx_stI (va_runV (As := []) (rest := []) ⟨hx, hb, hml, hown, hts⟩ (k_Net_stateTotal l dC dI cI cL cZ t1 t2 h_net a_net_sorts a_net_ranks a_net_starts a_net_literals a_net_nextLiterals a_net_outputs net_gateTotal net_inputTotal net_latchTotal net_outputTotal _ v1 hv1) (cwV 0 hts (sx_gV tw_229 tw_230 tw_231 tw_37 tcNet_stateTotal) rfl rfl rfl (by decide +kernel) ⟨Nat.le_of_ble_eq_true rfl, Nat.le_of_ble_eq_true rfl⟩) (sx_pV hK hX hS hPc hDc hFc (va_recv hK hPc (ci := 0) (q0 := 0) rfl rfl)) rfl rfl hl.1 rfl (lv_room (Nat.le_of_ble_eq_true rfl)) dNet_wordTotal_1 ⟨Nat.le_of_ble_eq_true rfl, Nat.le_of_ble_eq_true rfl⟩) ?_
  refine lv_iconst (v := (1 : Int32)) hx hb dNet_wordTotal_4 (by decide) ?_
  refine lv_isub hx hb dNet_wordTotal_5 ?_
  obtain ⟨v3, hv3, hm⟩ := sx_bind hm
  have hPc := hP.sub (ws' := []) [] rfl
  have hDc := hD.sub (ws' := []) [] (by decide) rfl
  have hFc := va_free (wc := []) hD hS hA [] rfl
  refine sx_stI (va_runSN (As := [.int (v1 - (1 : Int32))]) (rest := []) ⟨hx, hb, hml, hown, hts⟩ (k_Exp_wordOf l dC dI cI cL cZ t1 t2  _ (v1 - (1 : Int32)) v3 hv3) ⟨va_cnB 1 hts (sx_gC tcExp_wordOf) rfl rfl rfl (hX.1 ("StateExplorer$Net", 47, yExp_wordOf, "StateExplorer") sx_n4) (hts _ tw_36) (by decide +kernel) ⟨Nat.le_of_ble_eq_true rfl, Nat.le_of_ble_eq_true rfl⟩, hts _ tw_234, trivial⟩ (sx_pS hK hX hS hPc hDc hFc) rfl rfl hl.1 rfl (lv_room (Nat.le_of_ble_eq_true rfl)) dNet_wordTotal_6 ⟨Nat.le_of_ble_eq_true rfl, Nat.le_of_ble_eq_true rfl⟩) ?_
  refine lv_iconst (v := (1 : Int32)) hx hb dNet_wordTotal_9 (by decide) ?_
  refine lv_iadd hx hb dNet_wordTotal_10 ?_
  obtain rfl := Option.some.inj hm
  exact W.iret (v := v3 + (1 : Int32)) hx hb hr (fun t ht hW => ⟨rfl, ht⟩) (fun q hq => nomatch hq) dNet_wordTotal_11
noncomputable def m_Net_isFullFor (net_gateTotal net_inputTotal net_latchTotal : Int32) (p0 : Int32) : Option (Int32) := (if (60 : Int32) ≤ net_gateTotal then some (1 : Int32) else (sx_let (fun (_ : Unit) => (if p0 = (1 : Int32) then (if net_latchTotal < (8 : Int32) then some (0 : Int32) else some (1 : Int32)) else some (0 : Int32))) (fun J2 => (if p0 = (0 : Int32) then (if (4 : Int32) ≤ net_inputTotal then some (1 : Int32) else (J2 ())) else (J2 ())))))
def rm_Net_isFullFor : Room := { frames := 0, cells := 0, slots := 0, locals := 0 }
set_option maxHeartbeats 4000000 in
set_option maxRecDepth 100000 in
theorem k_Net_isFullFor (l : Launch) (dC : Nat → ClassId) (dI : Nat → Nat → Nat) (cI cL cZ : ClassId) (t1 t2 : Nat) (h_net a_net_sorts a_net_ranks a_net_starts a_net_literals a_net_nextLiterals a_net_outputs : Nat) (net_gateTotal net_inputTotal net_latchTotal net_outputTotal : Int32) (sz : Nat) (p0 : Int32) (v : Int32) (hm : m_Net_isFullFor net_gateTotal net_inputTotal net_latchTotal p0 = some v) : Met l yNet_isFullFor wsNet_isFullFor rm_Net_isFullFor (sx_Pc (dC, dI) [(cI, .int), (cL, .long), (cZ, .boolean)] t1 t2 [(h_net, .inr (0, [.ref a_net_sorts, .ref a_net_ranks, .ref a_net_starts, .ref a_net_literals, .ref a_net_nextLiterals, .ref a_net_outputs, .int net_gateTotal, .int net_inputTotal, .int net_latchTotal, .int net_outputTotal]))] sz [.ref h_net, .int p0]) (sx_Si v) 0 0 (fun _ => False) := by
  refine Met.ofW (cc := cNet_isFullFor) (maxL := 2) (ret := (some .boolean)) (by decide) rfl ?_
  intro p e s m args below meth c s₁ B hml hv
  obtain ⟨rfl, hsz, hP, hK, hD0, hX⟩ := hv
  have hx := B.exec
  have hb := B.bytes
  have hr := B.returns
  have hts0 := atoms_spec (ws := wsNet_isFullFor) B.pre
  have hts : ∀ w ∈ tb, w.before _ s = true := fun w h => hts0 w (List.mem_cons_of_mem _ h)
  have hown : s.vm.findClass "StateExplorer$Net" = some m.cls := findClass_of_methodNamed B.named
  have hlocks := B.notSynchronized
  subst hsz
  have hD := hD0.self (sz := s.heap.size)
  generalize hAe : va_A [(h_net, .inr (0, [.ref a_net_sorts, .ref a_net_ranks, .ref a_net_starts, .ref a_net_literals, .ref a_net_nextLiterals, .ref a_net_outputs, .int net_gateTotal, .int net_inputTotal, .int net_latchTotal, .int net_outputTotal]))] s.heap.size = A at hD hX 
  have hA : ∀ q : Nat, s.heap.size ≤ q → A q := fun q h => by rw [← hAe]; exact Or.inr h
  have hS : va_S A s.heap s.heap [] := va_S.rf
  have hl := lv_entry ([.ref h_net, .int p0]) (n := 2) (Nat.le_of_ble_eq_true rfl)
  rw [lg_entry_eq]
  generalize (lg_sl ([.ref h_net, .int p0]) ++ List.replicate (2 - (lg_sl ([.ref h_net, .int p0])).length) Slot.unset).toArray = ls at hl ⊢
  have hl : lv_has ls 2 [(0, .ref h_net), (1, .int p0)] := hl
  have C0 : sx_C p s m _ meth c cNet_isFullFor 2 "StateExplorer$Net" A (dC, dI) [(cI, .int), (cL, .long), (cZ, .boolean)] t1 t2 := ⟨hx, hb, hml, hown, hts, hA, hK, hlocks, hX⟩
  rw [m_Net_isFullFor] at hm
  refine lv_aload_n hx hb dNet_isFullFor_0 rfl (lv_at hl 0 rfl) ?_
  refine va_get (D := (dC, dI)) (ci := 0) (v := .int net_gateTotal) (C := RNet) (T := TNet) (N := 10) hx hb hts inNet hown hK hP 0 rfl rfl 6 (by decide) (hts _ tw_75) (fun _ h9 => h9) rfl dNet_isFullFor_1 ?_
  refine lv_bipush (v := (60 : Int32)) hx hb dNet_isFullFor_4 (by decide) ?_
  refine lv_icmp_ge (tgt := 35) hx hb dNet_isFullFor_6 (by decide) (fun c1 => ?_) (fun c1 => ?_)
  · have hm := sx_pos c1 hm
    refine lv_iconst (v := (1 : Int32)) hx hb dNet_isFullFor_35 (by decide) ?_
    refine lv_goto (tgt := 40) hx hb dNet_isFullFor_36 (by decide) ?_
    obtain rfl := Option.some.inj hm
    exact W.zret (v := (1 : Int32)) hx hb hr sx_z1 (fun t ht hW => ⟨rfl, ht⟩) (fun q hq => nomatch hq) dNet_isFullFor_40
  · have hm := sx_neg c1 hm
    refine lv_iload_n hx hb dNet_isFullFor_9 rfl (lv_at hl 1 rfl) ?_
    obtain ⟨J2, hJ2, hm⟩ := sx_lj hm
    have jJ2 : ∀ (_ : Unit), J2 () = some v → ∀ (ls : Array Slot), lv_has ls 2 [(0, .ref h_net), (1, .int p0)] → W p l e (headSpec wsNet_isFullFor rm_Net_isFullFor).room s m ([.ref h_net, .int p0]).toArray below meth c s.heap [] 0 0 (MQ below (sx_Si v) ([.ref h_net, .int p0]).toArray s 0 0 (fun _ => False)) (F0 m 21 ls []) := by
      intro _ hm ls hl
      rw [hJ2] at hm
      dsimp only at hm
      refine lv_iload_n hx hb dNet_isFullFor_21 rfl (lv_at hl 1 rfl) ?_
      refine lv_iconst (v := (1 : Int32)) hx hb dNet_isFullFor_22 (by decide) ?_
      refine lv_icmp_ne (tgt := 39) hx hb dNet_isFullFor_23 (by decide) (fun c3 => ?_) (fun c3 => ?_)
      · have hm := sx_neg c3 hm
        refine lv_iconst (v := (0 : Int32)) hx hb dNet_isFullFor_39 (by decide) ?_
        obtain rfl := Option.some.inj hm
        exact W.zret (v := (0 : Int32)) hx hb hr sx_z0 (fun t ht hW => ⟨rfl, ht⟩) (fun q hq => nomatch hq) dNet_isFullFor_40
      · have hm := sx_pos c3 hm
        refine lv_aload_n hx hb dNet_isFullFor_26 rfl (lv_at hl 0 rfl) ?_
        refine va_get (D := (dC, dI)) (ci := 0) (v := .int net_latchTotal) (C := RNet) (T := TNet) (N := 10) hx hb hts inNet hown hK hP 0 rfl rfl 8 (by decide) (hts _ tw_80) (fun _ h9 => h9) rfl dNet_isFullFor_27 ?_
        refine lv_bipush (v := (8 : Int32)) hx hb dNet_isFullFor_30 (by decide) ?_
        refine lv_icmp_lt (tgt := 39) hx hb dNet_isFullFor_32 (by decide) (fun c4 => ?_) (fun c4 => ?_)
        · have hm := sx_pos c4 hm
          refine lv_iconst (v := (0 : Int32)) hx hb dNet_isFullFor_39 (by decide) ?_
          obtain rfl := Option.some.inj hm
          exact W.zret (v := (0 : Int32)) hx hb hr sx_z0 (fun t ht hW => ⟨rfl, ht⟩) (fun q hq => nomatch hq) dNet_isFullFor_40
        · have hm := sx_neg c4 hm
          refine lv_iconst (v := (1 : Int32)) hx hb dNet_isFullFor_35 (by decide) ?_
          refine lv_goto (tgt := 40) hx hb dNet_isFullFor_36 (by decide) ?_
          obtain rfl := Option.some.inj hm
          exact W.zret (v := (1 : Int32)) hx hb hr sx_z1 (fun t ht hW => ⟨rfl, ht⟩) (fun q hq => nomatch hq) dNet_isFullFor_40
    refine lv_if_ne (tgt := 21) hx hb dNet_isFullFor_10 (by decide) (fun c5 => ?_) (fun c5 => ?_)
    · have hm := sx_neg c5 hm
      exact jJ2 () hm _ (hl)
    · have hm := sx_pos c5 hm
      refine lv_aload_n hx hb dNet_isFullFor_13 rfl (lv_at hl 0 rfl) ?_
      refine va_get (D := (dC, dI)) (ci := 0) (v := .int net_inputTotal) (C := RNet) (T := TNet) (N := 10) hx hb hts inNet hown hK hP 0 rfl rfl 7 (by decide) (hts _ tw_78) (fun _ h9 => h9) rfl dNet_isFullFor_14 ?_
      refine lv_iconst (v := (4 : Int32)) hx hb dNet_isFullFor_17 (by decide) ?_
      refine lv_icmp_ge (tgt := 35) hx hb dNet_isFullFor_18 (by decide) (fun c6 => ?_) (fun c6 => ?_)
      · have hm := sx_pos c6 hm
        refine lv_iconst (v := (1 : Int32)) hx hb dNet_isFullFor_35 (by decide) ?_
        refine lv_goto (tgt := 40) hx hb dNet_isFullFor_36 (by decide) ?_
        obtain rfl := Option.some.inj hm
        exact W.zret (v := (1 : Int32)) hx hb hr sx_z1 (fun t ht hW => ⟨rfl, ht⟩) (fun q hq => nomatch hq) dNet_isFullFor_40
      · have hm := sx_neg c6 hm
        exact jJ2 () hm _ (hl)
noncomputable def m_Net_addGate (net_sorts net_ranks net_starts net_nextLiterals : Nat → Int32) (net_gateTotal net_inputTotal net_latchTotal : Int32) (p0 : Int32) : Option (Int32 × (Nat → Int32) × (Nat → Int32) × (Nat → Int32) × (Nat → Int32) × Int32 × Int32 × Int32) := gd (vp_in net_gateTotal 60) ((sx_let (fun (net_ranksJ2 : Nat → Int32) (net_nextLiteralsJ2 : Nat → Int32) (net_inputTotalJ2 : Int32) (net_latchTotalJ2 : Int32) => gd (vp_in net_gateTotal 61) (gd (vp_in (net_gateTotal + (1 : Int32)) 61) (some (net_gateTotal, upd net_sorts net_gateTotal.toNatClampNeg p0, net_ranksJ2, upd net_starts (net_gateTotal + (1 : Int32)).toNatClampNeg (net_starts net_gateTotal.toNatClampNeg), net_nextLiteralsJ2, net_gateTotal + (1 : Int32), net_inputTotalJ2, net_latchTotalJ2)))) (fun J2 => (if p0 = (0 : Int32) then gd (vp_in net_gateTotal 60) ((J2 (upd net_ranks net_gateTotal.toNatClampNeg net_inputTotal) net_nextLiterals (net_inputTotal + (1 : Int32)) net_latchTotal)) else (if p0 = (1 : Int32) then gd (vp_in net_gateTotal 60) (gd (vp_in net_latchTotal 8) ((J2 (upd net_ranks net_gateTotal.toNatClampNeg net_latchTotal) (upd net_nextLiterals net_latchTotal.toNatClampNeg (net_gateTotal * (2 : Int32))) net_inputTotal (net_latchTotal + (1 : Int32))))) else (J2 net_ranks net_nextLiterals net_inputTotal net_latchTotal))))))
def rm_Net_addGate : Room := { frames := 0, cells := 0, slots := 0, locals := 0 }
set_option maxHeartbeats 4000000 in
set_option maxRecDepth 100000 in
theorem k_Net_addGate (l : Launch) (dC : Nat → ClassId) (dI : Nat → Nat → Nat) (cI cL cZ : ClassId) (t1 t2 : Nat) (h_net a_net_sorts a_net_ranks a_net_starts a_net_literals a_net_nextLiterals a_net_outputs : Nat) (net_sorts net_ranks net_starts net_nextLiterals : Nat → Int32) (net_gateTotal net_inputTotal net_latchTotal net_outputTotal : Int32) (sz : Nat) (p0 : Int32) (v : Int32 × (Nat → Int32) × (Nat → Int32) × (Nat → Int32) × (Nat → Int32) × Int32 × Int32 × Int32) (hm : m_Net_addGate net_sorts net_ranks net_starts net_nextLiterals net_gateTotal net_inputTotal net_latchTotal p0 = some v) : Met l yNet_addGate wsNet_addGate rm_Net_addGate (sx_Pc (dC, dI) [(cI, .int), (cL, .long), (cZ, .boolean)] t1 t2 [(h_net, .inr (0, [.ref a_net_sorts, .ref a_net_ranks, .ref a_net_starts, .ref a_net_literals, .ref a_net_nextLiterals, .ref a_net_outputs, .int net_gateTotal, .int net_inputTotal, .int net_latchTotal, .int net_outputTotal])), (a_net_sorts, .inl (cI, 60, .inl net_sorts)), (a_net_ranks, .inl (cI, 60, .inl net_ranks)), (a_net_starts, .inl (cI, 61, .inl net_starts)), (a_net_nextLiterals, .inl (cI, 8, .inl net_nextLiterals))] sz [.ref h_net, .int p0]) (va_Qi (fun (r : Int32) (_ : Unit) => r = v.1) (fun _ t => sx_W (dC, dI) [(cI, .int), (cL, .long), (cZ, .boolean)] (va_A [(h_net, .inr (0, [.ref a_net_sorts, .ref a_net_ranks, .ref a_net_starts, .ref a_net_literals, .ref a_net_nextLiterals, .ref a_net_outputs, .int net_gateTotal, .int net_inputTotal, .int net_latchTotal, .int net_outputTotal])), (a_net_sorts, .inl (cI, 60, .inl net_sorts)), (a_net_ranks, .inl (cI, 60, .inl net_ranks)), (a_net_starts, .inl (cI, 61, .inl net_starts)), (a_net_nextLiterals, .inl (cI, 8, .inl net_nextLiterals))] sz) [(h_net, .inr (0, [.ref a_net_sorts, .ref a_net_ranks, .ref a_net_starts, .ref a_net_literals, .ref a_net_nextLiterals, .ref a_net_outputs, .int v.2.2.2.2.2.1, .int v.2.2.2.2.2.2.1, .int v.2.2.2.2.2.2.2, .int net_outputTotal])), (a_net_sorts, .inl (cI, 60, .inl v.2.1)), (a_net_ranks, .inl (cI, 60, .inl v.2.2.1)), (a_net_starts, .inl (cI, 61, .inl v.2.2.2.1)), (a_net_nextLiterals, .inl (cI, 8, .inl v.2.2.2.2.1))] t) (va_A [(h_net, .inr (0, [.ref a_net_sorts, .ref a_net_ranks, .ref a_net_starts, .ref a_net_literals, .ref a_net_nextLiterals, .ref a_net_outputs, .int net_gateTotal, .int net_inputTotal, .int net_latchTotal, .int net_outputTotal])), (a_net_sorts, .inl (cI, 60, .inl net_sorts)), (a_net_ranks, .inl (cI, 60, .inl net_ranks)), (a_net_starts, .inl (cI, 61, .inl net_starts)), (a_net_nextLiterals, .inl (cI, 8, .inl net_nextLiterals))] sz)) 0 0 (va_A [(h_net, .inr (0, [.ref a_net_sorts, .ref a_net_ranks, .ref a_net_starts, .ref a_net_literals, .ref a_net_nextLiterals, .ref a_net_outputs, .int net_gateTotal, .int net_inputTotal, .int net_latchTotal, .int net_outputTotal])), (a_net_sorts, .inl (cI, 60, .inl net_sorts)), (a_net_ranks, .inl (cI, 60, .inl net_ranks)), (a_net_starts, .inl (cI, 61, .inl net_starts)), (a_net_nextLiterals, .inl (cI, 8, .inl net_nextLiterals))] sz) := by
  refine Met.ofW (cc := cNet_addGate) (maxL := 3) (ret := (some .int)) (by decide) rfl ?_
  intro p e s m args below meth c s₁ B hml hv
  obtain ⟨rfl, hsz, hP, hK, hD0, hX⟩ := hv
  have hx := B.exec
  have hb := B.bytes
  have hr := B.returns
  have hts0 := atoms_spec (ws := wsNet_addGate) B.pre
  have hts : ∀ w ∈ tb, w.before _ s = true := fun w h => hts0 w (List.mem_cons_of_mem _ h)
  have hown : s.vm.findClass "StateExplorer$Net" = some m.cls := findClass_of_methodNamed B.named
  have hlocks := B.notSynchronized
  subst hsz
  have hD := hD0.self (sz := s.heap.size)
  generalize hAe : va_A [(h_net, .inr (0, [.ref a_net_sorts, .ref a_net_ranks, .ref a_net_starts, .ref a_net_literals, .ref a_net_nextLiterals, .ref a_net_outputs, .int net_gateTotal, .int net_inputTotal, .int net_latchTotal, .int net_outputTotal])), (a_net_sorts, .inl (cI, 60, .inl net_sorts)), (a_net_ranks, .inl (cI, 60, .inl net_ranks)), (a_net_starts, .inl (cI, 61, .inl net_starts)), (a_net_nextLiterals, .inl (cI, 8, .inl net_nextLiterals))] s.heap.size = A at hD hX ⊢
  have hA : ∀ q : Nat, s.heap.size ≤ q → A q := fun q h => by rw [← hAe]; exact Or.inr h
  have hS : va_S A s.heap s.heap [] := va_S.rf
  have hl := lv_entry ([.ref h_net, .int p0]) (n := 3) (Nat.le_of_ble_eq_true rfl)
  rw [lg_entry_eq]
  generalize (lg_sl ([.ref h_net, .int p0]) ++ List.replicate (3 - (lg_sl ([.ref h_net, .int p0])).length) Slot.unset).toArray = ls at hl ⊢
  have hl : lv_has ls 3 [(0, .ref h_net), (1, .int p0)] := hl
  have C0 : sx_C p s m _ meth c cNet_addGate 3 "StateExplorer$Net" A (dC, dI) [(cI, .int), (cL, .long), (cZ, .boolean)] t1 t2 := ⟨hx, hb, hml, hown, hts, hA, hK, hlocks, hX⟩
  rw [m_Net_addGate] at hm
  refine lv_aload_n hx hb dNet_addGate_0 rfl (lv_at hl 0 rfl) ?_
  refine va_get (D := (dC, dI)) (ci := 0) (v := .int net_gateTotal) (C := RNet) (T := TNet) (N := 10) hx hb hts inNet hown hK hP 0 rfl rfl 6 (by decide) (hts _ tw_75) (fun _ h9 => h9) rfl dNet_addGate_1 ?_
  refine lv_istore_n (lv' := [(2, .int net_gateTotal), (0, .ref h_net), (1, .int p0)]) hx hb dNet_addGate_4 rfl hl (by decide) rfl (fun ls hl => ?_)
  refine lv_aload_n hx hb dNet_addGate_5 rfl (lv_at hl 1 rfl) ?_
  refine va_get (D := (dC, dI)) (ci := 0) (v := .ref a_net_sorts) (C := RNet) (T := TNet) (N := 10) hx hb hts inNet hown hK hP 0 rfl rfl 0 (by decide) (hts _ tw_63) (fun _ h9 => h9) rfl dNet_addGate_6 ?_
  refine lv_iload_n hx hb dNet_addGate_9 rfl (lv_at hl 0 rfl) ?_
  refine lv_iload_n hx hb dNet_addGate_10 rfl (lv_at hl 2 rfl) ?_
  obtain ⟨g1, hm⟩ := gd_el hm
  refine va_iast hx hb hK hP hD hS 1 0 rfl rfl g1 dNet_addGate_11 (fun H locs hP hD hS => ?_)
  have hP : va_P (dC, dI) vwCl [(h_net, .inr (0, [.ref a_net_sorts, .ref a_net_ranks, .ref a_net_starts, .ref a_net_literals, .ref a_net_nextLiterals, .ref a_net_outputs, .int net_gateTotal, .int net_inputTotal, .int net_latchTotal, .int net_outputTotal])), (a_net_sorts, .inl (cI, 60, .inl (upd net_sorts net_gateTotal.toNatClampNeg p0))), (a_net_ranks, .inl (cI, 60, .inl net_ranks)), (a_net_starts, .inl (cI, 61, .inl net_starts)), (a_net_nextLiterals, .inl (cI, 8, .inl net_nextLiterals))] H := hP
  have hD : va_D A [(h_net, .inr (0, [.ref a_net_sorts, .ref a_net_ranks, .ref a_net_starts, .ref a_net_literals, .ref a_net_nextLiterals, .ref a_net_outputs, .int net_gateTotal, .int net_inputTotal, .int net_latchTotal, .int net_outputTotal])), (a_net_sorts, .inl (cI, 60, .inl (upd net_sorts net_gateTotal.toNatClampNeg p0))), (a_net_ranks, .inl (cI, 60, .inl net_ranks)), (a_net_starts, .inl (cI, 61, .inl net_starts)), (a_net_nextLiterals, .inl (cI, 8, .inl net_nextLiterals))] := hD
  refine lv_iload_n hx hb dNet_addGate_12 rfl (lv_at hl 2 rfl) ?_
  obtain ⟨J2, hJ2, hm⟩ := sx_lj hm
  have jJ2 : ∀ (net_ranksJ2 : Nat → Int32) (net_nextLiteralsJ2 : Nat → Int32) (net_inputTotalJ2 : Int32) (net_latchTotalJ2 : Int32), J2 net_ranksJ2 net_nextLiteralsJ2 net_inputTotalJ2 net_latchTotalJ2 = some v → ∀ (H : Heap) (locs : List Loc) (ls : Array Slot), va_P (dC, dI) vwCl [(h_net, .inr (0, [.ref a_net_sorts, .ref a_net_ranks, .ref a_net_starts, .ref a_net_literals, .ref a_net_nextLiterals, .ref a_net_outputs, .int net_gateTotal, .int net_inputTotalJ2, .int net_latchTotalJ2, .int net_outputTotal])), (a_net_sorts, .inl (cI, 60, .inl (upd net_sorts net_gateTotal.toNatClampNeg p0))), (a_net_ranks, .inl (cI, 60, .inl net_ranksJ2)), (a_net_starts, .inl (cI, 61, .inl net_starts)), (a_net_nextLiterals, .inl (cI, 8, .inl net_nextLiteralsJ2))] H → va_D A [(h_net, .inr (0, [.ref a_net_sorts, .ref a_net_ranks, .ref a_net_starts, .ref a_net_literals, .ref a_net_nextLiterals, .ref a_net_outputs, .int net_gateTotal, .int net_inputTotalJ2, .int net_latchTotalJ2, .int net_outputTotal])), (a_net_sorts, .inl (cI, 60, .inl (upd net_sorts net_gateTotal.toNatClampNeg p0))), (a_net_ranks, .inl (cI, 60, .inl net_ranksJ2)), (a_net_starts, .inl (cI, 61, .inl net_starts)), (a_net_nextLiterals, .inl (cI, 8, .inl net_nextLiteralsJ2))] → va_S A s.heap H locs → lv_has ls 3 [(0, .ref h_net), (2, .int net_gateTotal)] → W p l e (headSpec wsNet_addGate rm_Net_addGate).room s m ([.ref h_net, .int p0]).toArray below meth c H locs 0 0 (MQ below (va_Qi (fun (r : Int32) (_ : Unit) => r = v.1) (fun _ t => sx_W (dC, dI) [(cI, .int), (cL, .long), (cZ, .boolean)] A [(h_net, .inr (0, [.ref a_net_sorts, .ref a_net_ranks, .ref a_net_starts, .ref a_net_literals, .ref a_net_nextLiterals, .ref a_net_outputs, .int v.2.2.2.2.2.1, .int v.2.2.2.2.2.2.1, .int v.2.2.2.2.2.2.2, .int net_outputTotal])), (a_net_sorts, .inl (cI, 60, .inl v.2.1)), (a_net_ranks, .inl (cI, 60, .inl v.2.2.1)), (a_net_starts, .inl (cI, 61, .inl v.2.2.2.1)), (a_net_nextLiterals, .inl (cI, 8, .inl v.2.2.2.2.1))] t) A) ([.ref h_net, .int p0]).toArray s 0 0 A) (F0 m 76 ls []) := by
    intro net_ranksJ2 net_nextLiteralsJ2 net_inputTotalJ2 net_latchTotalJ2 hm H locs ls hP hD hS hl
    rw [hJ2] at hm
    dsimp only at hm
    refine lv_aload_n hx hb dNet_addGate_76 rfl (lv_at hl 0 rfl) ?_
    refine va_get (D := (dC, dI)) (ci := 0) (v := .ref a_net_starts) (C := RNet) (T := TNet) (N := 10) hx hb hts inNet hown hK hP 0 rfl rfl 2 (by decide) (hts _ tw_67) (fun _ h9 => h9) rfl dNet_addGate_77 ?_
    refine lv_iload_n hx hb dNet_addGate_80 rfl (lv_at hl 1 rfl) ?_
    refine lv_iconst (v := (1 : Int32)) hx hb dNet_addGate_81 (by decide) ?_
    refine lv_iadd hx hb dNet_addGate_82 ?_
    refine lv_aload_n hx hb dNet_addGate_83 rfl (lv_at hl 0 rfl) ?_
    refine va_get (D := (dC, dI)) (ci := 0) (v := .ref a_net_starts) (C := RNet) (T := TNet) (N := 10) hx hb hts inNet hown hK hP 0 rfl rfl 2 (by decide) (hts _ tw_67) (fun _ h9 => h9) rfl dNet_addGate_84 ?_
    refine lv_iload_n hx hb dNet_addGate_87 rfl (lv_at hl 1 rfl) ?_
    obtain ⟨g3, hm⟩ := gd_el hm
    refine va_iald hx hb hK hP 3 0 rfl rfl g3 dNet_addGate_88 ?_
    obtain ⟨g4, hm⟩ := gd_el hm
    refine va_iast hx hb hK hP hD hS 3 0 rfl rfl g4 dNet_addGate_89 (fun H locs hP hD hS => ?_)
    have hP : va_P (dC, dI) vwCl [(h_net, .inr (0, [.ref a_net_sorts, .ref a_net_ranks, .ref a_net_starts, .ref a_net_literals, .ref a_net_nextLiterals, .ref a_net_outputs, .int net_gateTotal, .int net_inputTotalJ2, .int net_latchTotalJ2, .int net_outputTotal])), (a_net_sorts, .inl (cI, 60, .inl (upd net_sorts net_gateTotal.toNatClampNeg p0))), (a_net_ranks, .inl (cI, 60, .inl net_ranksJ2)), (a_net_starts, .inl (cI, 61, .inl (upd net_starts (net_gateTotal + (1 : Int32)).toNatClampNeg (net_starts net_gateTotal.toNatClampNeg)))), (a_net_nextLiterals, .inl (cI, 8, .inl net_nextLiteralsJ2))] H := hP
    have hD : va_D A [(h_net, .inr (0, [.ref a_net_sorts, .ref a_net_ranks, .ref a_net_starts, .ref a_net_literals, .ref a_net_nextLiterals, .ref a_net_outputs, .int net_gateTotal, .int net_inputTotalJ2, .int net_latchTotalJ2, .int net_outputTotal])), (a_net_sorts, .inl (cI, 60, .inl (upd net_sorts net_gateTotal.toNatClampNeg p0))), (a_net_ranks, .inl (cI, 60, .inl net_ranksJ2)), (a_net_starts, .inl (cI, 61, .inl (upd net_starts (net_gateTotal + (1 : Int32)).toNatClampNeg (net_starts net_gateTotal.toNatClampNeg)))), (a_net_nextLiterals, .inl (cI, 8, .inl net_nextLiteralsJ2))] := hD
    refine lv_aload_n hx hb dNet_addGate_90 rfl (lv_at hl 0 rfl) ?_
    refine lv_dup hx hb dNet_addGate_91 rfl ?_
    refine va_get (D := (dC, dI)) (ci := 0) (v := .int net_gateTotal) (C := RNet) (T := TNet) (N := 10) hx hb hts inNet hown hK hP 0 rfl rfl 6 (by decide) (hts _ tw_75) (fun _ h9 => h9) rfl dNet_addGate_92 ?_
    refine lv_iconst (v := (1 : Int32)) hx hb dNet_addGate_95 (by decide) ?_
    refine lv_iadd hx hb dNet_addGate_96 ?_
    refine va_put (D := (dC, dI)) (ci := 0) (v := .int (net_gateTotal + (1 : Int32))) (ty := .int) (C := RNet) (T := TNet) (N := 10) hx hb hts inNet tyNet tyNet_ok nmNet hown hK hP hD hS 0 rfl rfl 6 (by decide) (hts _ tw_75) (fun _ h9 => h9) rfl (by decide +kernel) rfl rfl (Nat.le_of_ble_eq_true rfl) dNet_addGate_97 (fun H locs hP hD hS => ?_)
    have hP : va_P (dC, dI) vwCl [(h_net, .inr (0, [.ref a_net_sorts, .ref a_net_ranks, .ref a_net_starts, .ref a_net_literals, .ref a_net_nextLiterals, .ref a_net_outputs, .int (net_gateTotal + (1 : Int32)), .int net_inputTotalJ2, .int net_latchTotalJ2, .int net_outputTotal])), (a_net_sorts, .inl (cI, 60, .inl (upd net_sorts net_gateTotal.toNatClampNeg p0))), (a_net_ranks, .inl (cI, 60, .inl net_ranksJ2)), (a_net_starts, .inl (cI, 61, .inl (upd net_starts (net_gateTotal + (1 : Int32)).toNatClampNeg (net_starts net_gateTotal.toNatClampNeg)))), (a_net_nextLiterals, .inl (cI, 8, .inl net_nextLiteralsJ2))] H := hP
    have hD : va_D A [(h_net, .inr (0, [.ref a_net_sorts, .ref a_net_ranks, .ref a_net_starts, .ref a_net_literals, .ref a_net_nextLiterals, .ref a_net_outputs, .int (net_gateTotal + (1 : Int32)), .int net_inputTotalJ2, .int net_latchTotalJ2, .int net_outputTotal])), (a_net_sorts, .inl (cI, 60, .inl (upd net_sorts net_gateTotal.toNatClampNeg p0))), (a_net_ranks, .inl (cI, 60, .inl net_ranksJ2)), (a_net_starts, .inl (cI, 61, .inl (upd net_starts (net_gateTotal + (1 : Int32)).toNatClampNeg (net_starts net_gateTotal.toNatClampNeg)))), (a_net_nextLiterals, .inl (cI, 8, .inl net_nextLiteralsJ2))] := hD
    refine lv_iload_n hx hb dNet_addGate_100 rfl (lv_at hl 1 rfl) ?_
    obtain rfl := Option.some.inj hm
    exact W.iret (v := net_gateTotal) hx hb hr (fun t ht hW => ⟨⟨net_gateTotal, (), rfl, rfl, sx_Wi hP hK hD ht hW.alike⟩, hS.F ht⟩) hS.2.2 dNet_addGate_101
  refine lv_if_ne (tgt := 39) hx hb dNet_addGate_13 (by decide) (fun c5 => ?_) (fun c5 => ?_)
  · have hm := sx_neg c5 hm
    refine lv_iload_n hx hb dNet_addGate_39 rfl (lv_at hl 2 rfl) ?_
    refine lv_iconst (v := (1 : Int32)) hx hb dNet_addGate_40 (by decide) ?_
    refine lv_icmp_ne (tgt := 76) hx hb dNet_addGate_41 (by decide) (fun c6 => ?_) (fun c6 => ?_)
    · have hm := sx_neg c6 hm
      exact jJ2 net_ranks net_nextLiterals net_inputTotal net_latchTotal hm _ _ _ hP hD hS (lv_sub hl [1, 0] rfl)
    · have hm := sx_pos c6 hm
      refine lv_aload_n hx hb dNet_addGate_44 rfl (lv_at hl 1 rfl) ?_
      refine va_get (D := (dC, dI)) (ci := 0) (v := .ref a_net_ranks) (C := RNet) (T := TNet) (N := 10) hx hb hts inNet hown hK hP 0 rfl rfl 1 (by decide) (hts _ tw_65) (fun _ h9 => h9) rfl dNet_addGate_45 ?_
      refine lv_iload_n hx hb dNet_addGate_48 rfl (lv_at hl 0 rfl) ?_
      refine lv_aload_n hx hb dNet_addGate_49 rfl (lv_at hl 1 rfl) ?_
      refine va_get (D := (dC, dI)) (ci := 0) (v := .int net_latchTotal) (C := RNet) (T := TNet) (N := 10) hx hb hts inNet hown hK hP 0 rfl rfl 8 (by decide) (hts _ tw_80) (fun _ h9 => h9) rfl dNet_addGate_50 ?_
      obtain ⟨g7, hm⟩ := gd_el hm
      refine va_iast hx hb hK hP hD hS 2 0 rfl rfl g7 dNet_addGate_53 (fun H locs hP hD hS => ?_)
      have hP : va_P (dC, dI) vwCl [(h_net, .inr (0, [.ref a_net_sorts, .ref a_net_ranks, .ref a_net_starts, .ref a_net_literals, .ref a_net_nextLiterals, .ref a_net_outputs, .int net_gateTotal, .int net_inputTotal, .int net_latchTotal, .int net_outputTotal])), (a_net_sorts, .inl (cI, 60, .inl (upd net_sorts net_gateTotal.toNatClampNeg p0))), (a_net_ranks, .inl (cI, 60, .inl (upd net_ranks net_gateTotal.toNatClampNeg net_latchTotal))), (a_net_starts, .inl (cI, 61, .inl net_starts)), (a_net_nextLiterals, .inl (cI, 8, .inl net_nextLiterals))] H := hP
      have hD : va_D A [(h_net, .inr (0, [.ref a_net_sorts, .ref a_net_ranks, .ref a_net_starts, .ref a_net_literals, .ref a_net_nextLiterals, .ref a_net_outputs, .int net_gateTotal, .int net_inputTotal, .int net_latchTotal, .int net_outputTotal])), (a_net_sorts, .inl (cI, 60, .inl (upd net_sorts net_gateTotal.toNatClampNeg p0))), (a_net_ranks, .inl (cI, 60, .inl (upd net_ranks net_gateTotal.toNatClampNeg net_latchTotal))), (a_net_starts, .inl (cI, 61, .inl net_starts)), (a_net_nextLiterals, .inl (cI, 8, .inl net_nextLiterals))] := hD
      refine lv_aload_n hx hb dNet_addGate_54 rfl (lv_at hl 1 rfl) ?_
      refine va_get (D := (dC, dI)) (ci := 0) (v := .ref a_net_nextLiterals) (C := RNet) (T := TNet) (N := 10) hx hb hts inNet hown hK hP 0 rfl rfl 4 (by decide) (hts _ tw_71) (fun _ h9 => h9) rfl dNet_addGate_55 ?_
      refine lv_aload_n hx hb dNet_addGate_58 rfl (lv_at hl 1 rfl) ?_
      refine va_get (D := (dC, dI)) (ci := 0) (v := .int net_latchTotal) (C := RNet) (T := TNet) (N := 10) hx hb hts inNet hown hK hP 0 rfl rfl 8 (by decide) (hts _ tw_80) (fun _ h9 => h9) rfl dNet_addGate_59 ?_
      refine lv_iload_n hx hb dNet_addGate_62 rfl (lv_at hl 0 rfl) ?_
      refine lv_iconst (v := (2 : Int32)) hx hb dNet_addGate_63 (by decide) ?_
      refine lv_imul hx hb dNet_addGate_64 ?_
      obtain ⟨g8, hm⟩ := gd_el hm
      refine va_iast hx hb hK hP hD hS 4 0 rfl rfl g8 dNet_addGate_65 (fun H locs hP hD hS => ?_)
      have hP : va_P (dC, dI) vwCl [(h_net, .inr (0, [.ref a_net_sorts, .ref a_net_ranks, .ref a_net_starts, .ref a_net_literals, .ref a_net_nextLiterals, .ref a_net_outputs, .int net_gateTotal, .int net_inputTotal, .int net_latchTotal, .int net_outputTotal])), (a_net_sorts, .inl (cI, 60, .inl (upd net_sorts net_gateTotal.toNatClampNeg p0))), (a_net_ranks, .inl (cI, 60, .inl (upd net_ranks net_gateTotal.toNatClampNeg net_latchTotal))), (a_net_starts, .inl (cI, 61, .inl net_starts)), (a_net_nextLiterals, .inl (cI, 8, .inl (upd net_nextLiterals net_latchTotal.toNatClampNeg (net_gateTotal * (2 : Int32)))))] H := hP
      have hD : va_D A [(h_net, .inr (0, [.ref a_net_sorts, .ref a_net_ranks, .ref a_net_starts, .ref a_net_literals, .ref a_net_nextLiterals, .ref a_net_outputs, .int net_gateTotal, .int net_inputTotal, .int net_latchTotal, .int net_outputTotal])), (a_net_sorts, .inl (cI, 60, .inl (upd net_sorts net_gateTotal.toNatClampNeg p0))), (a_net_ranks, .inl (cI, 60, .inl (upd net_ranks net_gateTotal.toNatClampNeg net_latchTotal))), (a_net_starts, .inl (cI, 61, .inl net_starts)), (a_net_nextLiterals, .inl (cI, 8, .inl (upd net_nextLiterals net_latchTotal.toNatClampNeg (net_gateTotal * (2 : Int32)))))] := hD
      refine lv_aload_n hx hb dNet_addGate_66 rfl (lv_at hl 1 rfl) ?_
      refine lv_dup hx hb dNet_addGate_67 rfl ?_
      refine va_get (D := (dC, dI)) (ci := 0) (v := .int net_latchTotal) (C := RNet) (T := TNet) (N := 10) hx hb hts inNet hown hK hP 0 rfl rfl 8 (by decide) (hts _ tw_80) (fun _ h9 => h9) rfl dNet_addGate_68 ?_
      refine lv_iconst (v := (1 : Int32)) hx hb dNet_addGate_71 (by decide) ?_
      refine lv_iadd hx hb dNet_addGate_72 ?_
      refine va_put (D := (dC, dI)) (ci := 0) (v := .int (net_latchTotal + (1 : Int32))) (ty := .int) (C := RNet) (T := TNet) (N := 10) hx hb hts inNet tyNet tyNet_ok nmNet hown hK hP hD hS 0 rfl rfl 8 (by decide) (hts _ tw_80) (fun _ h9 => h9) rfl (by decide +kernel) rfl rfl (Nat.le_of_ble_eq_true rfl) dNet_addGate_73 (fun H locs hP hD hS => ?_)
      have hP : va_P (dC, dI) vwCl [(h_net, .inr (0, [.ref a_net_sorts, .ref a_net_ranks, .ref a_net_starts, .ref a_net_literals, .ref a_net_nextLiterals, .ref a_net_outputs, .int net_gateTotal, .int net_inputTotal, .int (net_latchTotal + (1 : Int32)), .int net_outputTotal])), (a_net_sorts, .inl (cI, 60, .inl (upd net_sorts net_gateTotal.toNatClampNeg p0))), (a_net_ranks, .inl (cI, 60, .inl (upd net_ranks net_gateTotal.toNatClampNeg net_latchTotal))), (a_net_starts, .inl (cI, 61, .inl net_starts)), (a_net_nextLiterals, .inl (cI, 8, .inl (upd net_nextLiterals net_latchTotal.toNatClampNeg (net_gateTotal * (2 : Int32)))))] H := hP
      have hD : va_D A [(h_net, .inr (0, [.ref a_net_sorts, .ref a_net_ranks, .ref a_net_starts, .ref a_net_literals, .ref a_net_nextLiterals, .ref a_net_outputs, .int net_gateTotal, .int net_inputTotal, .int (net_latchTotal + (1 : Int32)), .int net_outputTotal])), (a_net_sorts, .inl (cI, 60, .inl (upd net_sorts net_gateTotal.toNatClampNeg p0))), (a_net_ranks, .inl (cI, 60, .inl (upd net_ranks net_gateTotal.toNatClampNeg net_latchTotal))), (a_net_starts, .inl (cI, 61, .inl net_starts)), (a_net_nextLiterals, .inl (cI, 8, .inl (upd net_nextLiterals net_latchTotal.toNatClampNeg (net_gateTotal * (2 : Int32)))))] := hD
      exact jJ2 (upd net_ranks net_gateTotal.toNatClampNeg net_latchTotal) (upd net_nextLiterals net_latchTotal.toNatClampNeg (net_gateTotal * (2 : Int32))) net_inputTotal (net_latchTotal + (1 : Int32)) hm _ _ _ hP hD hS (lv_sub hl [1, 0] rfl)
  · have hm := sx_pos c5 hm
    refine lv_aload_n hx hb dNet_addGate_16 rfl (lv_at hl 1 rfl) ?_
    refine va_get (D := (dC, dI)) (ci := 0) (v := .ref a_net_ranks) (C := RNet) (T := TNet) (N := 10) hx hb hts inNet hown hK hP 0 rfl rfl 1 (by decide) (hts _ tw_65) (fun _ h9 => h9) rfl dNet_addGate_17 ?_
    refine lv_iload_n hx hb dNet_addGate_20 rfl (lv_at hl 0 rfl) ?_
    refine lv_aload_n hx hb dNet_addGate_21 rfl (lv_at hl 1 rfl) ?_
    refine va_get (D := (dC, dI)) (ci := 0) (v := .int net_inputTotal) (C := RNet) (T := TNet) (N := 10) hx hb hts inNet hown hK hP 0 rfl rfl 7 (by decide) (hts _ tw_78) (fun _ h9 => h9) rfl dNet_addGate_22 ?_
    obtain ⟨g9, hm⟩ := gd_el hm
    refine va_iast hx hb hK hP hD hS 2 0 rfl rfl g9 dNet_addGate_25 (fun H locs hP hD hS => ?_)
    have hP : va_P (dC, dI) vwCl [(h_net, .inr (0, [.ref a_net_sorts, .ref a_net_ranks, .ref a_net_starts, .ref a_net_literals, .ref a_net_nextLiterals, .ref a_net_outputs, .int net_gateTotal, .int net_inputTotal, .int net_latchTotal, .int net_outputTotal])), (a_net_sorts, .inl (cI, 60, .inl (upd net_sorts net_gateTotal.toNatClampNeg p0))), (a_net_ranks, .inl (cI, 60, .inl (upd net_ranks net_gateTotal.toNatClampNeg net_inputTotal))), (a_net_starts, .inl (cI, 61, .inl net_starts)), (a_net_nextLiterals, .inl (cI, 8, .inl net_nextLiterals))] H := hP
    have hD : va_D A [(h_net, .inr (0, [.ref a_net_sorts, .ref a_net_ranks, .ref a_net_starts, .ref a_net_literals, .ref a_net_nextLiterals, .ref a_net_outputs, .int net_gateTotal, .int net_inputTotal, .int net_latchTotal, .int net_outputTotal])), (a_net_sorts, .inl (cI, 60, .inl (upd net_sorts net_gateTotal.toNatClampNeg p0))), (a_net_ranks, .inl (cI, 60, .inl (upd net_ranks net_gateTotal.toNatClampNeg net_inputTotal))), (a_net_starts, .inl (cI, 61, .inl net_starts)), (a_net_nextLiterals, .inl (cI, 8, .inl net_nextLiterals))] := hD
    refine lv_aload_n hx hb dNet_addGate_26 rfl (lv_at hl 1 rfl) ?_
    refine lv_dup hx hb dNet_addGate_27 rfl ?_
    refine va_get (D := (dC, dI)) (ci := 0) (v := .int net_inputTotal) (C := RNet) (T := TNet) (N := 10) hx hb hts inNet hown hK hP 0 rfl rfl 7 (by decide) (hts _ tw_78) (fun _ h9 => h9) rfl dNet_addGate_28 ?_
    refine lv_iconst (v := (1 : Int32)) hx hb dNet_addGate_31 (by decide) ?_
    refine lv_iadd hx hb dNet_addGate_32 ?_
    refine va_put (D := (dC, dI)) (ci := 0) (v := .int (net_inputTotal + (1 : Int32))) (ty := .int) (C := RNet) (T := TNet) (N := 10) hx hb hts inNet tyNet tyNet_ok nmNet hown hK hP hD hS 0 rfl rfl 7 (by decide) (hts _ tw_78) (fun _ h9 => h9) rfl (by decide +kernel) rfl rfl (Nat.le_of_ble_eq_true rfl) dNet_addGate_33 (fun H locs hP hD hS => ?_)
    have hP : va_P (dC, dI) vwCl [(h_net, .inr (0, [.ref a_net_sorts, .ref a_net_ranks, .ref a_net_starts, .ref a_net_literals, .ref a_net_nextLiterals, .ref a_net_outputs, .int net_gateTotal, .int (net_inputTotal + (1 : Int32)), .int net_latchTotal, .int net_outputTotal])), (a_net_sorts, .inl (cI, 60, .inl (upd net_sorts net_gateTotal.toNatClampNeg p0))), (a_net_ranks, .inl (cI, 60, .inl (upd net_ranks net_gateTotal.toNatClampNeg net_inputTotal))), (a_net_starts, .inl (cI, 61, .inl net_starts)), (a_net_nextLiterals, .inl (cI, 8, .inl net_nextLiterals))] H := hP
    have hD : va_D A [(h_net, .inr (0, [.ref a_net_sorts, .ref a_net_ranks, .ref a_net_starts, .ref a_net_literals, .ref a_net_nextLiterals, .ref a_net_outputs, .int net_gateTotal, .int (net_inputTotal + (1 : Int32)), .int net_latchTotal, .int net_outputTotal])), (a_net_sorts, .inl (cI, 60, .inl (upd net_sorts net_gateTotal.toNatClampNeg p0))), (a_net_ranks, .inl (cI, 60, .inl (upd net_ranks net_gateTotal.toNatClampNeg net_inputTotal))), (a_net_starts, .inl (cI, 61, .inl net_starts)), (a_net_nextLiterals, .inl (cI, 8, .inl net_nextLiterals))] := hD
    refine lv_goto (tgt := 76) hx hb dNet_addGate_36 (by decide) ?_
    exact jJ2 (upd net_ranks net_gateTotal.toNatClampNeg net_inputTotal) net_nextLiterals (net_inputTotal + (1 : Int32)) net_latchTotal hm _ _ _ hP hD hS (lv_sub hl [1, 0] rfl)
noncomputable def m_Net_feedsOf (net_starts : Nat → Int32) (p0 : Int32) : Option (Int32) := gd (vp_in (p0 + (1 : Int32)) 61) (gd (vp_in p0 61) (some ((net_starts (p0 + (1 : Int32)).toNatClampNeg) - (net_starts p0.toNatClampNeg))))
def rm_Net_feedsOf : Room := { frames := 0, cells := 0, slots := 0, locals := 0 }
set_option maxHeartbeats 4000000 in
set_option maxRecDepth 100000 in
theorem k_Net_feedsOf (l : Launch) (dC : Nat → ClassId) (dI : Nat → Nat → Nat) (cI cL cZ : ClassId) (t1 t2 : Nat) (h_net a_net_sorts a_net_ranks a_net_starts a_net_literals a_net_nextLiterals a_net_outputs : Nat) (net_starts : Nat → Int32) (net_gateTotal net_inputTotal net_latchTotal net_outputTotal : Int32) (sz : Nat) (p0 : Int32) (v : Int32) (hm : m_Net_feedsOf net_starts p0 = some v) : Met l yNet_feedsOf wsNet_feedsOf rm_Net_feedsOf (sx_Pc (dC, dI) [(cI, .int), (cL, .long), (cZ, .boolean)] t1 t2 [(h_net, .inr (0, [.ref a_net_sorts, .ref a_net_ranks, .ref a_net_starts, .ref a_net_literals, .ref a_net_nextLiterals, .ref a_net_outputs, .int net_gateTotal, .int net_inputTotal, .int net_latchTotal, .int net_outputTotal])), (a_net_starts, .inl (cI, 61, .inl net_starts))] sz [.ref h_net, .int p0]) (sx_Si v) 0 0 (fun _ => False) := by
  refine Met.ofW (cc := cNet_feedsOf) (maxL := 2) (ret := (some .int)) (by decide) rfl ?_
  intro p e s m args below meth c s₁ B hml hv
  obtain ⟨rfl, hsz, hP, hK, hD0, hX⟩ := hv
  have hx := B.exec
  have hb := B.bytes
  have hr := B.returns
  have hts0 := atoms_spec (ws := wsNet_feedsOf) B.pre
  have hts : ∀ w ∈ tb, w.before _ s = true := fun w h => hts0 w (List.mem_cons_of_mem _ h)
  have hown : s.vm.findClass "StateExplorer$Net" = some m.cls := findClass_of_methodNamed B.named
  have hlocks := B.notSynchronized
  subst hsz
  have hD := hD0.self (sz := s.heap.size)
  generalize hAe : va_A [(h_net, .inr (0, [.ref a_net_sorts, .ref a_net_ranks, .ref a_net_starts, .ref a_net_literals, .ref a_net_nextLiterals, .ref a_net_outputs, .int net_gateTotal, .int net_inputTotal, .int net_latchTotal, .int net_outputTotal])), (a_net_starts, .inl (cI, 61, .inl net_starts))] s.heap.size = A at hD hX 
  have hA : ∀ q : Nat, s.heap.size ≤ q → A q := fun q h => by rw [← hAe]; exact Or.inr h
  have hS : va_S A s.heap s.heap [] := va_S.rf
  have hl := lv_entry ([.ref h_net, .int p0]) (n := 2) (Nat.le_of_ble_eq_true rfl)
  rw [lg_entry_eq]
  generalize (lg_sl ([.ref h_net, .int p0]) ++ List.replicate (2 - (lg_sl ([.ref h_net, .int p0])).length) Slot.unset).toArray = ls at hl ⊢
  have hl : lv_has ls 2 [(0, .ref h_net), (1, .int p0)] := hl
  have C0 : sx_C p s m _ meth c cNet_feedsOf 2 "StateExplorer$Net" A (dC, dI) [(cI, .int), (cL, .long), (cZ, .boolean)] t1 t2 := ⟨hx, hb, hml, hown, hts, hA, hK, hlocks, hX⟩
  rw [m_Net_feedsOf] at hm
  refine lv_aload_n hx hb dNet_feedsOf_0 rfl (lv_at hl 0 rfl) ?_
  refine va_get (D := (dC, dI)) (ci := 0) (v := .ref a_net_starts) (C := RNet) (T := TNet) (N := 10) hx hb hts inNet hown hK hP 0 rfl rfl 2 (by decide) (hts _ tw_67) (fun _ h9 => h9) rfl dNet_feedsOf_1 ?_
  refine lv_iload_n hx hb dNet_feedsOf_4 rfl (lv_at hl 1 rfl) ?_
  refine lv_iconst (v := (1 : Int32)) hx hb dNet_feedsOf_5 (by decide) ?_
  refine lv_iadd hx hb dNet_feedsOf_6 ?_
  obtain ⟨g1, hm⟩ := gd_el hm
  refine va_iald hx hb hK hP 1 0 rfl rfl g1 dNet_feedsOf_7 ?_
  refine lv_aload_n hx hb dNet_feedsOf_8 rfl (lv_at hl 0 rfl) ?_
  refine va_get (D := (dC, dI)) (ci := 0) (v := .ref a_net_starts) (C := RNet) (T := TNet) (N := 10) hx hb hts inNet hown hK hP 0 rfl rfl 2 (by decide) (hts _ tw_67) (fun _ h9 => h9) rfl dNet_feedsOf_9 ?_
  refine lv_iload_n hx hb dNet_feedsOf_12 rfl (lv_at hl 1 rfl) ?_
  obtain ⟨g2, hm⟩ := gd_el hm
  refine va_iald hx hb hK hP 1 0 rfl rfl g2 dNet_feedsOf_13 ?_
  refine lv_isub hx hb dNet_feedsOf_14 ?_
  obtain rfl := Option.some.inj hm
  exact W.iret (v := (net_starts (p0 + (1 : Int32)).toNatClampNeg) - (net_starts p0.toNatClampNeg)) hx hb hr (fun t ht hW => ⟨rfl, ht⟩) (fun q hq => nomatch hq) dNet_feedsOf_15
noncomputable def m_Net_takesFeed (net_sorts net_starts : Nat → Int32) (p0 : Int32) : Option (Int32) := gd (vp_in p0 60) ((if net_sorts p0.toNatClampNeg = (1 : Int32) then (m_Net_feedsOf net_starts p0).bind (fun v5 => (if v5 = (0 : Int32) then some (1 : Int32) else some (0 : Int32))) else gd (vp_in p0 60) ((if net_sorts p0.toNatClampNeg = (0 : Int32) then some (0 : Int32) else some (1 : Int32)))))
def rm_Net_takesFeed : Room := { frames := 1, cells := 0, slots := 0, locals := 21 }
set_option maxHeartbeats 4000000 in
set_option maxRecDepth 100000 in
theorem k_Net_takesFeed (l : Launch) (dC : Nat → ClassId) (dI : Nat → Nat → Nat) (cI cL cZ : ClassId) (t1 t2 : Nat) (h_net a_net_sorts a_net_ranks a_net_starts a_net_literals a_net_nextLiterals a_net_outputs : Nat) (net_sorts net_starts : Nat → Int32) (net_gateTotal net_inputTotal net_latchTotal net_outputTotal : Int32) (sz : Nat) (p0 : Int32) (v : Int32) (hm : m_Net_takesFeed net_sorts net_starts p0 = some v) : Met l yNet_takesFeed wsNet_takesFeed rm_Net_takesFeed (sx_Pc (dC, dI) [(cI, .int), (cL, .long), (cZ, .boolean)] t1 t2 [(h_net, .inr (0, [.ref a_net_sorts, .ref a_net_ranks, .ref a_net_starts, .ref a_net_literals, .ref a_net_nextLiterals, .ref a_net_outputs, .int net_gateTotal, .int net_inputTotal, .int net_latchTotal, .int net_outputTotal])), (a_net_sorts, .inl (cI, 60, .inl net_sorts)), (a_net_starts, .inl (cI, 61, .inl net_starts))] sz [.ref h_net, .int p0]) (sx_Si v) 0 0 (fun _ => False) := by
  refine Met.ofW (cc := cNet_takesFeed) (maxL := 2) (ret := (some .boolean)) (by decide) rfl ?_
  intro p e s m args below meth c s₁ B hml hv
  obtain ⟨rfl, hsz, hP, hK, hD0, hX⟩ := hv
  have hx := B.exec
  have hb := B.bytes
  have hr := B.returns
  have hts0 := atoms_spec (ws := wsNet_takesFeed) B.pre
  have hts : ∀ w ∈ tb, w.before _ s = true := fun w h => hts0 w (List.mem_cons_of_mem _ h)
  have hown : s.vm.findClass "StateExplorer$Net" = some m.cls := findClass_of_methodNamed B.named
  have hlocks := B.notSynchronized
  subst hsz
  have hD := hD0.self (sz := s.heap.size)
  generalize hAe : va_A [(h_net, .inr (0, [.ref a_net_sorts, .ref a_net_ranks, .ref a_net_starts, .ref a_net_literals, .ref a_net_nextLiterals, .ref a_net_outputs, .int net_gateTotal, .int net_inputTotal, .int net_latchTotal, .int net_outputTotal])), (a_net_sorts, .inl (cI, 60, .inl net_sorts)), (a_net_starts, .inl (cI, 61, .inl net_starts))] s.heap.size = A at hD hX 
  have hA : ∀ q : Nat, s.heap.size ≤ q → A q := fun q h => by rw [← hAe]; exact Or.inr h
  have hS : va_S A s.heap s.heap [] := va_S.rf
  have hl := lv_entry ([.ref h_net, .int p0]) (n := 2) (Nat.le_of_ble_eq_true rfl)
  rw [lg_entry_eq]
  generalize (lg_sl ([.ref h_net, .int p0]) ++ List.replicate (2 - (lg_sl ([.ref h_net, .int p0])).length) Slot.unset).toArray = ls at hl ⊢
  have hl : lv_has ls 2 [(0, .ref h_net), (1, .int p0)] := hl
  have C0 : sx_C p s m _ meth c cNet_takesFeed 2 "StateExplorer$Net" A (dC, dI) [(cI, .int), (cL, .long), (cZ, .boolean)] t1 t2 := ⟨hx, hb, hml, hown, hts, hA, hK, hlocks, hX⟩
  rw [m_Net_takesFeed] at hm
  refine lv_aload_n hx hb dNet_takesFeed_0 rfl (lv_at hl 0 rfl) ?_
  refine va_get (D := (dC, dI)) (ci := 0) (v := .ref a_net_sorts) (C := RNet) (T := TNet) (N := 10) hx hb hts inNet hown hK hP 0 rfl rfl 0 (by decide) (hts _ tw_63) (fun _ h9 => h9) rfl dNet_takesFeed_1 ?_
  refine lv_iload_n hx hb dNet_takesFeed_4 rfl (lv_at hl 1 rfl) ?_
  obtain ⟨g1, hm⟩ := gd_el hm
  refine va_iald hx hb hK hP 1 0 rfl rfl g1 dNet_takesFeed_5 ?_
  refine lv_iconst (v := (1 : Int32)) hx hb dNet_takesFeed_6 (by decide) ?_
  refine lv_icmp_ne (tgt := 24) hx hb dNet_takesFeed_7 (by decide) (fun c2 => ?_) (fun c2 => ?_)
  · have hm := sx_neg c2 hm
    refine lv_aload_n hx hb dNet_takesFeed_24 rfl (lv_at hl 0 rfl) ?_
    refine va_get (D := (dC, dI)) (ci := 0) (v := .ref a_net_sorts) (C := RNet) (T := TNet) (N := 10) hx hb hts inNet hown hK hP 0 rfl rfl 0 (by decide) (hts _ tw_63) (fun _ h9 => h9) rfl dNet_takesFeed_25 ?_
    refine lv_iload_n hx hb dNet_takesFeed_28 rfl (lv_at hl 1 rfl) ?_
    obtain ⟨g3, hm⟩ := gd_el hm
    refine va_iald hx hb hK hP 1 0 rfl rfl g3 dNet_takesFeed_29 ?_
    refine lv_if_eq (tgt := 37) hx hb dNet_takesFeed_30 (by decide) (fun c4 => ?_) (fun c4 => ?_)
    · have hm := sx_pos c4 hm
      refine lv_iconst (v := (0 : Int32)) hx hb dNet_takesFeed_37 (by decide) ?_
      obtain rfl := Option.some.inj hm
      exact W.zret (v := (0 : Int32)) hx hb hr sx_z0 (fun t ht hW => ⟨rfl, ht⟩) (fun q hq => nomatch hq) dNet_takesFeed_38
    · have hm := sx_neg c4 hm
      refine lv_iconst (v := (1 : Int32)) hx hb dNet_takesFeed_33 (by decide) ?_
      refine lv_goto (tgt := 38) hx hb dNet_takesFeed_34 (by decide) ?_
      obtain rfl := Option.some.inj hm
      exact W.zret (v := (1 : Int32)) hx hb hr sx_z1 (fun t ht hW => ⟨rfl, ht⟩) (fun q hq => nomatch hq) dNet_takesFeed_38
  · have hm := sx_pos c2 hm
    refine lv_aload_n hx hb dNet_takesFeed_10 rfl (lv_at hl 0 rfl) ?_
    refine lv_iload_n hx hb dNet_takesFeed_11 rfl (lv_at hl 1 rfl) ?_
    obtain ⟨v5, hv5, hm⟩ := sx_bind hm
    have hPc := hP.sub (ws' := [(h_net, .inr (0, [.ref a_net_sorts, .ref a_net_ranks, .ref a_net_starts, .ref a_net_literals, .ref a_net_nextLiterals, .ref a_net_outputs, .int net_gateTotal, .int net_inputTotal, .int net_latchTotal, .int net_outputTotal])), (a_net_starts, .inl (cI, 61, .inl net_starts))]) [0, 2] rfl
    have hDc := hD.sub (ws' := [(h_net, .inr (0, [.ref a_net_sorts, .ref a_net_ranks, .ref a_net_starts, .ref a_net_literals, .ref a_net_nextLiterals, .ref a_net_outputs, .int net_gateTotal, .int net_inputTotal, .int net_latchTotal, .int net_outputTotal])), (a_net_starts, .inl (cI, 61, .inl net_starts))]) [0, 2] (by decide) rfl
    have hFc := va_free (wc := [(h_net, .inr (0, [.ref a_net_sorts, .ref a_net_ranks, .ref a_net_starts, .ref a_net_literals, .ref a_net_nextLiterals, .ref a_net_outputs, .int net_gateTotal, .int net_inputTotal, .int net_latchTotal, .int net_outputTotal])), (a_net_starts, .inl (cI, 61, .inl net_starts))]) hD hS hA [0, 2] rfl
    refine sx_stI (va_runV (As := [.int p0]) (rest := []) ⟨hx, hb, hml, hown, hts⟩ (k_Net_feedsOf l dC dI cI cL cZ t1 t2 h_net a_net_sorts a_net_ranks a_net_starts a_net_literals a_net_nextLiterals a_net_outputs net_starts net_gateTotal net_inputTotal net_latchTotal net_outputTotal _ p0 v5 hv5) (cwV 1 hts (sx_gV tw_478 tw_479 tw_480 tw_37 tcNet_feedsOf) rfl rfl rfl (by decide +kernel) ⟨Nat.le_of_ble_eq_true rfl, Nat.le_of_ble_eq_true rfl⟩) (sx_pV hK hX hS hPc hDc hFc (va_recv hK hPc (ci := 0) (q0 := 0) rfl rfl)) rfl rfl hl.1 rfl (lv_room (Nat.le_of_ble_eq_true rfl)) dNet_takesFeed_12 ⟨Nat.le_of_ble_eq_true rfl, Nat.le_of_ble_eq_true rfl⟩) ?_
    refine lv_if_ne (tgt := 22) hx hb dNet_takesFeed_15 (by decide) (fun c7 => ?_) (fun c7 => ?_)
    · have hm := sx_neg c7 hm
      refine lv_iconst (v := (0 : Int32)) hx hb dNet_takesFeed_22 (by decide) ?_
      obtain rfl := Option.some.inj hm
      exact W.zret (v := (0 : Int32)) hx hb hr sx_z0 (fun t ht hW => ⟨rfl, ht⟩) (fun q hq => nomatch hq) dNet_takesFeed_23
    · have hm := sx_pos c7 hm
      refine lv_iconst (v := (1 : Int32)) hx hb dNet_takesFeed_18 (by decide) ?_
      refine lv_goto (tgt := 23) hx hb dNet_takesFeed_19 (by decide) ?_
      obtain rfl := Option.some.inj hm
      exact W.zret (v := (1 : Int32)) hx hb hr sx_z1 (fun t ht hW => ⟨rfl, ht⟩) (fun q hq => nomatch hq) dNet_takesFeed_23
noncomputable def L_Net_addFeed_63 (net_gateTotal : Int32) : Nat → Int32 → (Nat → Int32) → Option ((Nat → Int32))
  | 0, _, _ => none
  | n + 1, x6, net_starts => (if net_gateTotal < x6 then some net_starts else gd (vp_in x6 61) (gd (vp_in x6 61) ((L_Net_addFeed_63 net_gateTotal n (x6 + (1 : Int32)) (upd net_starts x6.toNatClampNeg ((net_starts x6.toNatClampNeg) + (1 : Int32)))))))
noncomputable def m_Net_addFeed (net_sorts net_ranks net_starts net_literals net_nextLiterals : Nat → Int32) (net_gateTotal : Int32) (p0 : Int32) (p1 : Int32) (p2 : Int32) : Option (Int32 × (Nat → Int32) × (Nat → Int32) × (Nat → Int32)) := (sx_let (fun (z0J1 : Int32) (z1J1 : Int32) => gd (vp_in (p0 + (1 : Int32)) 61) ((m_Net_feedTotal net_starts net_gateTotal).bind (fun v3 => gd (¬ (net_starts (p0 + (1 : Int32)).toNatClampNeg) < 0 ∧ ¬ ((net_starts (p0 + (1 : Int32)).toNatClampNeg) + (1 : Int32)) < 0 ∧ ¬ (v3 - (net_starts (p0 + (1 : Int32)).toNatClampNeg)) < 0 ∧ (net_starts (p0 + (1 : Int32)).toNatClampNeg).toNatClampNeg + (v3 - (net_starts (p0 + (1 : Int32)).toNatClampNeg)).toNatClampNeg ≤ 240 ∧ ((net_starts (p0 + (1 : Int32)).toNatClampNeg) + (1 : Int32)).toNatClampNeg + (v3 - (net_starts (p0 + (1 : Int32)).toNatClampNeg)).toNatClampNeg ≤ 240) (gd (vp_in (net_starts (p0 + (1 : Int32)).toNatClampNeg) 240) (((L_Net_addFeed_63 net_gateTotal fu (p0 + (1 : Int32)) net_starts).bind (fun v10 => gd (vp_in p0 60) ((if net_sorts p0.toNatClampNeg = (1 : Int32) then gd (vp_in p0 60) (gd (vp_in (net_ranks p0.toNatClampNeg) 8) ((m_Net_feedsOf v10 p0).bind (fun v17 => some (v17, v10, upd (va_cpy net_literals net_literals (net_starts (p0 + (1 : Int32)).toNatClampNeg).toNatClampNeg ((net_starts (p0 + (1 : Int32)).toNatClampNeg) + (1 : Int32)).toNatClampNeg (v3 - (net_starts (p0 + (1 : Int32)).toNatClampNeg)).toNatClampNeg) (net_starts (p0 + (1 : Int32)).toNatClampNeg).toNatClampNeg (z1J1 + z0J1), upd net_nextLiterals (net_ranks p0.toNatClampNeg).toNatClampNeg (z1J1 + z0J1))))) else (m_Net_feedsOf v10 p0).bind (fun v13 => some (v13, v10, upd (va_cpy net_literals net_literals (net_starts (p0 + (1 : Int32)).toNatClampNeg).toNatClampNeg ((net_starts (p0 + (1 : Int32)).toNatClampNeg) + (1 : Int32)).toNatClampNeg (v3 - (net_starts (p0 + (1 : Int32)).toNatClampNeg)).toNatClampNeg) (net_starts (p0 + (1 : Int32)).toNatClampNeg).toNatClampNeg (z1J1 + z0J1), net_nextLiterals))))))))))) (fun J1 => (if p2 = (0 : Int32) then (J1 (0 : Int32) (p1 * (2 : Int32))) else (J1 (1 : Int32) (p1 * (2 : Int32))))))
def rm_Net_addFeed : Room := { frames := 1, cells := 0, slots := 0, locals := 26 }
set_option maxHeartbeats 4000000 in
set_option maxRecDepth 100000 in
theorem w_Net_addFeed_63 {p : Program} {l : Launch} {e : Env} {s : State} {m : MethodId} {args : Array Value} {below : List Frame} {meth : Method} {c : Code} {dC : Nat → ClassId} {dI : Nat → Nat → Nat} {cI cL cZ : ClassId} {A : Nat → Prop} {Q : State → Prop} {t1 t2 : Nat} (C0 : sx_C p s m args meth c cNet_addFeed 7 "StateExplorer$Net" A (dC, dI) [(cI, .int), (cL, .long), (cZ, .boolean)] t1 t2) (h_net a_net_sorts a_net_ranks a_net_starts a_net_literals a_net_nextLiterals a_net_outputs : Nat) (net_sorts net_ranks net_literals net_nextLiterals : Nat → Int32) (net_gateTotal net_inputTotal net_latchTotal net_outputTotal : Int32) (x1 : Int32) (x4 : Int32) :
    ∀ (n : Nat) (x6 : Int32) (net_starts : Nat → Int32) (r : (Nat → Int32)), L_Net_addFeed_63 net_gateTotal n x6 net_starts = some r → ∀ (H : Heap) (locs : List Loc) (ls : Array Slot), va_P (dC, dI) vwCl [(h_net, .inr (0, [.ref a_net_sorts, .ref a_net_ranks, .ref a_net_starts, .ref a_net_literals, .ref a_net_nextLiterals, .ref a_net_outputs, .int net_gateTotal, .int net_inputTotal, .int net_latchTotal, .int net_outputTotal])), (a_net_sorts, .inl (cI, 60, .inl net_sorts)), (a_net_ranks, .inl (cI, 60, .inl net_ranks)), (a_net_starts, .inl (cI, 61, .inl net_starts)), (a_net_literals, .inl (cI, 240, .inl net_literals)), (a_net_nextLiterals, .inl (cI, 8, .inl net_nextLiterals))] H → va_D A [(h_net, .inr (0, [.ref a_net_sorts, .ref a_net_ranks, .ref a_net_starts, .ref a_net_literals, .ref a_net_nextLiterals, .ref a_net_outputs, .int net_gateTotal, .int net_inputTotal, .int net_latchTotal, .int net_outputTotal])), (a_net_sorts, .inl (cI, 60, .inl net_sorts)), (a_net_ranks, .inl (cI, 60, .inl net_ranks)), (a_net_starts, .inl (cI, 61, .inl net_starts)), (a_net_literals, .inl (cI, 240, .inl net_literals)), (a_net_nextLiterals, .inl (cI, 8, .inl net_nextLiterals))] → va_S A s.heap H locs → lv_has ls 7 [(0, .ref h_net), (1, .int x1), (4, .int x4), (6, .int x6)] →
    (∀ (H : Heap) (locs : List Loc) (ls : Array Slot), va_P (dC, dI) vwCl [(h_net, .inr (0, [.ref a_net_sorts, .ref a_net_ranks, .ref a_net_starts, .ref a_net_literals, .ref a_net_nextLiterals, .ref a_net_outputs, .int net_gateTotal, .int net_inputTotal, .int net_latchTotal, .int net_outputTotal])), (a_net_sorts, .inl (cI, 60, .inl net_sorts)), (a_net_ranks, .inl (cI, 60, .inl net_ranks)), (a_net_starts, .inl (cI, 61, .inl r)), (a_net_literals, .inl (cI, 240, .inl net_literals)), (a_net_nextLiterals, .inl (cI, 8, .inl net_nextLiterals))] H → va_D A [(h_net, .inr (0, [.ref a_net_sorts, .ref a_net_ranks, .ref a_net_starts, .ref a_net_literals, .ref a_net_nextLiterals, .ref a_net_outputs, .int net_gateTotal, .int net_inputTotal, .int net_latchTotal, .int net_outputTotal])), (a_net_sorts, .inl (cI, 60, .inl net_sorts)), (a_net_ranks, .inl (cI, 60, .inl net_ranks)), (a_net_starts, .inl (cI, 61, .inl r)), (a_net_literals, .inl (cI, 240, .inl net_literals)), (a_net_nextLiterals, .inl (cI, 8, .inl net_nextLiterals))] → va_S A s.heap H locs → lv_has ls 7 [(0, .ref h_net), (1, .int x1), (4, .int x4)] → W p l e (headSpec wsNet_addFeed rm_Net_addFeed).room s m args below meth c H locs 0 0 Q (F0 m 89 ls [])) →
    W p l e (headSpec wsNet_addFeed rm_Net_addFeed).room s m args below meth c H locs 0 0 Q (F0 m 63 ls []) := by
  obtain ⟨hx, hb, hml, hown, hts, hA, hK, hlocks, hX⟩ := id C0
  intro n
  induction n with
  | zero => intro x6 net_starts r hm; rw [L_Net_addFeed_63] at hm; cases hm
  | succ n ih =>
    intro x6 net_starts r hm H locs ls hP hD hS hl k1
    rw [L_Net_addFeed_63] at hm
    refine lv_iload hx hb dNet_addFeed_63 (lv_at hl 3 rfl) ?_
    refine lv_aload_n hx hb dNet_addFeed_65 rfl (lv_at hl 0 rfl) ?_
    refine va_get (D := (dC, dI)) (ci := 0) (v := .int net_gateTotal) (C := RNet) (T := TNet) (N := 10) hx hb hts inNet hown hK hP 0 rfl rfl 6 (by decide) (hts _ tw_75) (fun _ h9 => h9) rfl dNet_addFeed_66 ?_
    refine lv_icmp_gt (tgt := 89) hx hb dNet_addFeed_69 (by decide) (fun c7 => ?_) (fun c7 => ?_)
    · have hm := sx_pos c7 hm
      obtain rfl := Option.some.inj hm
      exact k1 _ _ _ hP hD hS (lv_sub hl [0, 1, 2] rfl)
    · have hm := sx_neg c7 hm
      refine lv_aload_n hx hb dNet_addFeed_72 rfl (lv_at hl 0 rfl) ?_
      refine va_get (D := (dC, dI)) (ci := 0) (v := .ref a_net_starts) (C := RNet) (T := TNet) (N := 10) hx hb hts inNet hown hK hP 0 rfl rfl 2 (by decide) (hts _ tw_67) (fun _ h9 => h9) rfl dNet_addFeed_73 ?_
      refine lv_iload hx hb dNet_addFeed_76 (lv_at hl 3 rfl) ?_
      refine lv_dup2_11 hx hb dNet_addFeed_78 rfl rfl ?_
      obtain ⟨g8, hm⟩ := gd_el hm
      refine va_iald hx hb hK hP 3 0 rfl rfl g8 dNet_addFeed_79 ?_
      refine lv_iconst (v := (1 : Int32)) hx hb dNet_addFeed_80 (by decide) ?_
      refine lv_iadd hx hb dNet_addFeed_81 ?_
      obtain ⟨g9, hm⟩ := gd_el hm
      refine va_iast hx hb hK hP hD hS 3 0 rfl rfl g9 dNet_addFeed_82 (fun H locs hP hD hS => ?_)
      have hP : va_P (dC, dI) vwCl [(h_net, .inr (0, [.ref a_net_sorts, .ref a_net_ranks, .ref a_net_starts, .ref a_net_literals, .ref a_net_nextLiterals, .ref a_net_outputs, .int net_gateTotal, .int net_inputTotal, .int net_latchTotal, .int net_outputTotal])), (a_net_sorts, .inl (cI, 60, .inl net_sorts)), (a_net_ranks, .inl (cI, 60, .inl net_ranks)), (a_net_starts, .inl (cI, 61, .inl (upd net_starts x6.toNatClampNeg ((net_starts x6.toNatClampNeg) + (1 : Int32))))), (a_net_literals, .inl (cI, 240, .inl net_literals)), (a_net_nextLiterals, .inl (cI, 8, .inl net_nextLiterals))] H := hP
      have hD : va_D A [(h_net, .inr (0, [.ref a_net_sorts, .ref a_net_ranks, .ref a_net_starts, .ref a_net_literals, .ref a_net_nextLiterals, .ref a_net_outputs, .int net_gateTotal, .int net_inputTotal, .int net_latchTotal, .int net_outputTotal])), (a_net_sorts, .inl (cI, 60, .inl net_sorts)), (a_net_ranks, .inl (cI, 60, .inl net_ranks)), (a_net_starts, .inl (cI, 61, .inl (upd net_starts x6.toNatClampNeg ((net_starts x6.toNatClampNeg) + (1 : Int32))))), (a_net_literals, .inl (cI, 240, .inl net_literals)), (a_net_nextLiterals, .inl (cI, 8, .inl net_nextLiterals))] := hD
      refine lv_iinc (v := x6 + (1 : Int32)) (lv' := [(6, .int (x6 + (1 : Int32))), (0, .ref h_net), (1, .int x1), (4, .int x4)]) hx hb dNet_addFeed_83 hl (k := 3) rfl rfl (by decide) rfl (fun ls hl => ?_)
      refine lv_goto (tgt := 63) hx hb dNet_addFeed_86 (by decide) ?_
      exact ih (x6 + (1 : Int32)) (upd net_starts x6.toNatClampNeg ((net_starts x6.toNatClampNeg) + (1 : Int32))) r hm _ _ _ hP hD hS (lv_sub hl [1, 2, 3, 0] rfl) k1
set_option maxHeartbeats 4000000 in
set_option maxRecDepth 100000 in
theorem k_Net_addFeed (l : Launch) (dC : Nat → ClassId) (dI : Nat → Nat → Nat) (cI cL cZ : ClassId) (t1 t2 : Nat) (h_net a_net_sorts a_net_ranks a_net_starts a_net_literals a_net_nextLiterals a_net_outputs : Nat) (net_sorts net_ranks net_starts net_literals net_nextLiterals : Nat → Int32) (net_gateTotal net_inputTotal net_latchTotal net_outputTotal : Int32) (sz : Nat) (p0 : Int32) (p1 : Int32) (p2 : Int32) (v : Int32 × (Nat → Int32) × (Nat → Int32) × (Nat → Int32)) (hm : m_Net_addFeed net_sorts net_ranks net_starts net_literals net_nextLiterals net_gateTotal p0 p1 p2 = some v) : Met l yNet_addFeed wsNet_addFeed rm_Net_addFeed (sx_Pc (dC, dI) [(cI, .int), (cL, .long), (cZ, .boolean)] t1 t2 [(h_net, .inr (0, [.ref a_net_sorts, .ref a_net_ranks, .ref a_net_starts, .ref a_net_literals, .ref a_net_nextLiterals, .ref a_net_outputs, .int net_gateTotal, .int net_inputTotal, .int net_latchTotal, .int net_outputTotal])), (a_net_sorts, .inl (cI, 60, .inl net_sorts)), (a_net_ranks, .inl (cI, 60, .inl net_ranks)), (a_net_starts, .inl (cI, 61, .inl net_starts)), (a_net_literals, .inl (cI, 240, .inl net_literals)), (a_net_nextLiterals, .inl (cI, 8, .inl net_nextLiterals))] sz [.ref h_net, .int p0, .int p1, .int p2]) (va_Qi (fun (r : Int32) (_ : Unit) => r = v.1) (fun _ t => sx_W (dC, dI) [(cI, .int), (cL, .long), (cZ, .boolean)] (va_A [(h_net, .inr (0, [.ref a_net_sorts, .ref a_net_ranks, .ref a_net_starts, .ref a_net_literals, .ref a_net_nextLiterals, .ref a_net_outputs, .int net_gateTotal, .int net_inputTotal, .int net_latchTotal, .int net_outputTotal])), (a_net_sorts, .inl (cI, 60, .inl net_sorts)), (a_net_ranks, .inl (cI, 60, .inl net_ranks)), (a_net_starts, .inl (cI, 61, .inl net_starts)), (a_net_literals, .inl (cI, 240, .inl net_literals)), (a_net_nextLiterals, .inl (cI, 8, .inl net_nextLiterals))] sz) [(h_net, .inr (0, [.ref a_net_sorts, .ref a_net_ranks, .ref a_net_starts, .ref a_net_literals, .ref a_net_nextLiterals, .ref a_net_outputs, .int net_gateTotal, .int net_inputTotal, .int net_latchTotal, .int net_outputTotal])), (a_net_sorts, .inl (cI, 60, .inl net_sorts)), (a_net_ranks, .inl (cI, 60, .inl net_ranks)), (a_net_starts, .inl (cI, 61, .inl v.2.1)), (a_net_literals, .inl (cI, 240, .inl v.2.2.1)), (a_net_nextLiterals, .inl (cI, 8, .inl v.2.2.2))] t) (va_A [(h_net, .inr (0, [.ref a_net_sorts, .ref a_net_ranks, .ref a_net_starts, .ref a_net_literals, .ref a_net_nextLiterals, .ref a_net_outputs, .int net_gateTotal, .int net_inputTotal, .int net_latchTotal, .int net_outputTotal])), (a_net_sorts, .inl (cI, 60, .inl net_sorts)), (a_net_ranks, .inl (cI, 60, .inl net_ranks)), (a_net_starts, .inl (cI, 61, .inl net_starts)), (a_net_literals, .inl (cI, 240, .inl net_literals)), (a_net_nextLiterals, .inl (cI, 8, .inl net_nextLiterals))] sz)) 0 0 (va_A [(h_net, .inr (0, [.ref a_net_sorts, .ref a_net_ranks, .ref a_net_starts, .ref a_net_literals, .ref a_net_nextLiterals, .ref a_net_outputs, .int net_gateTotal, .int net_inputTotal, .int net_latchTotal, .int net_outputTotal])), (a_net_sorts, .inl (cI, 60, .inl net_sorts)), (a_net_ranks, .inl (cI, 60, .inl net_ranks)), (a_net_starts, .inl (cI, 61, .inl net_starts)), (a_net_literals, .inl (cI, 240, .inl net_literals)), (a_net_nextLiterals, .inl (cI, 8, .inl net_nextLiterals))] sz) := by
  refine Met.ofW (cc := cNet_addFeed) (maxL := 7) (ret := (some .int)) (by decide) rfl ?_
  intro p e s m args below meth c s₁ B hml hv
  obtain ⟨rfl, hsz, hP, hK, hD0, hX⟩ := hv
  have hx := B.exec
  have hb := B.bytes
  have hr := B.returns
  have hts0 := atoms_spec (ws := wsNet_addFeed) B.pre
  have hts : ∀ w ∈ tb, w.before _ s = true := fun w h => hts0 w (List.mem_cons_of_mem _ h)
  have hown : s.vm.findClass "StateExplorer$Net" = some m.cls := findClass_of_methodNamed B.named
  have hlocks := B.notSynchronized
  subst hsz
  have hD := hD0.self (sz := s.heap.size)
  generalize hAe : va_A [(h_net, .inr (0, [.ref a_net_sorts, .ref a_net_ranks, .ref a_net_starts, .ref a_net_literals, .ref a_net_nextLiterals, .ref a_net_outputs, .int net_gateTotal, .int net_inputTotal, .int net_latchTotal, .int net_outputTotal])), (a_net_sorts, .inl (cI, 60, .inl net_sorts)), (a_net_ranks, .inl (cI, 60, .inl net_ranks)), (a_net_starts, .inl (cI, 61, .inl net_starts)), (a_net_literals, .inl (cI, 240, .inl net_literals)), (a_net_nextLiterals, .inl (cI, 8, .inl net_nextLiterals))] s.heap.size = A at hD hX ⊢
  have hA : ∀ q : Nat, s.heap.size ≤ q → A q := fun q h => by rw [← hAe]; exact Or.inr h
  have hS : va_S A s.heap s.heap [] := va_S.rf
  have hl := lv_entry ([.ref h_net, .int p0, .int p1, .int p2]) (n := 7) (Nat.le_of_ble_eq_true rfl)
  rw [lg_entry_eq]
  generalize (lg_sl ([.ref h_net, .int p0, .int p1, .int p2]) ++ List.replicate (7 - (lg_sl ([.ref h_net, .int p0, .int p1, .int p2])).length) Slot.unset).toArray = ls at hl ⊢
  have hl : lv_has ls 7 [(0, .ref h_net), (1, .int p0), (2, .int p1), (3, .int p2)] := hl
  have C0 : sx_C p s m _ meth c cNet_addFeed 7 "StateExplorer$Net" A (dC, dI) [(cI, .int), (cL, .long), (cZ, .boolean)] t1 t2 := ⟨hx, hb, hml, hown, hts, hA, hK, hlocks, hX⟩
  rw [m_Net_addFeed] at hm
  refine lv_iload_n hx hb dNet_addFeed_0 rfl (lv_at hl 2 rfl) ?_
  refine lv_iconst (v := (2 : Int32)) hx hb dNet_addFeed_1 (by decide) ?_
  refine lv_imul hx hb dNet_addFeed_2 ?_
  refine lv_iload_n hx hb dNet_addFeed_3 rfl (lv_at hl 3 rfl) ?_
  obtain ⟨J1, hJ1, hm⟩ := sx_lj hm
  have jJ1 : ∀ (z0J1 : Int32) (z1J1 : Int32), J1 z0J1 z1J1 = some v → ∀ (ls : Array Slot), lv_has ls 7 [(0, .ref h_net), (1, .int p0)] → W p l e (headSpec wsNet_addFeed rm_Net_addFeed).room s m ([.ref h_net, .int p0, .int p1, .int p2]).toArray below meth c s.heap [] 0 0 (MQ below (va_Qi (fun (r : Int32) (_ : Unit) => r = v.1) (fun _ t => sx_W (dC, dI) [(cI, .int), (cL, .long), (cZ, .boolean)] A [(h_net, .inr (0, [.ref a_net_sorts, .ref a_net_ranks, .ref a_net_starts, .ref a_net_literals, .ref a_net_nextLiterals, .ref a_net_outputs, .int net_gateTotal, .int net_inputTotal, .int net_latchTotal, .int net_outputTotal])), (a_net_sorts, .inl (cI, 60, .inl net_sorts)), (a_net_ranks, .inl (cI, 60, .inl net_ranks)), (a_net_starts, .inl (cI, 61, .inl v.2.1)), (a_net_literals, .inl (cI, 240, .inl v.2.2.1)), (a_net_nextLiterals, .inl (cI, 8, .inl v.2.2.2))] t) A) ([.ref h_net, .int p0, .int p1, .int p2]).toArray s 0 0 A) (F0 m 12 ls [.int z0J1, .int z1J1]) := by
    intro z0J1 z1J1 hm ls hl
    rw [hJ1] at hm
    dsimp only at hm
    refine lv_iadd hx hb dNet_addFeed_12 ?_
    refine lv_istore (lv' := [(4, .int (z1J1 + z0J1)), (0, .ref h_net), (1, .int p0)]) hx hb dNet_addFeed_13 hl (by decide) rfl (fun ls hl => ?_)
    refine lv_aload_n hx hb dNet_addFeed_15 rfl (lv_at hl 1 rfl) ?_
    refine va_get (D := (dC, dI)) (ci := 0) (v := .ref a_net_starts) (C := RNet) (T := TNet) (N := 10) hx hb hts inNet hown hK hP 0 rfl rfl 2 (by decide) (hts _ tw_67) (fun _ h9 => h9) rfl dNet_addFeed_16 ?_
    refine lv_iload_n hx hb dNet_addFeed_19 rfl (lv_at hl 2 rfl) ?_
    refine lv_iconst (v := (1 : Int32)) hx hb dNet_addFeed_20 (by decide) ?_
    refine lv_iadd hx hb dNet_addFeed_21 ?_
    obtain ⟨g2, hm⟩ := gd_el hm
    refine va_iald hx hb hK hP 3 0 rfl rfl g2 dNet_addFeed_22 ?_
    refine lv_istore (lv' := [(5, .int (net_starts (p0 + (1 : Int32)).toNatClampNeg)), (4, .int (z1J1 + z0J1)), (0, .ref h_net), (1, .int p0)]) hx hb dNet_addFeed_23 hl (by decide) rfl (fun ls hl => ?_)
    refine lv_aload_n hx hb dNet_addFeed_25 rfl (lv_at hl 2 rfl) ?_
    refine va_get (D := (dC, dI)) (ci := 0) (v := .ref a_net_literals) (C := RNet) (T := TNet) (N := 10) hx hb hts inNet hown hK hP 0 rfl rfl 3 (by decide) (hts _ tw_69) (fun _ h9 => h9) rfl dNet_addFeed_26 ?_
    refine lv_iload hx hb dNet_addFeed_29 (lv_at hl 0 rfl) ?_
    refine lv_aload_n hx hb dNet_addFeed_31 rfl (lv_at hl 2 rfl) ?_
    refine va_get (D := (dC, dI)) (ci := 0) (v := .ref a_net_literals) (C := RNet) (T := TNet) (N := 10) hx hb hts inNet hown hK hP 0 rfl rfl 3 (by decide) (hts _ tw_69) (fun _ h9 => h9) rfl dNet_addFeed_32 ?_
    refine lv_iload hx hb dNet_addFeed_35 (lv_at hl 0 rfl) ?_
    refine lv_iconst (v := (1 : Int32)) hx hb dNet_addFeed_37 (by decide) ?_
    refine lv_iadd hx hb dNet_addFeed_38 ?_
    refine lv_aload_n hx hb dNet_addFeed_39 rfl (lv_at hl 2 rfl) ?_
    obtain ⟨v3, hv3, hm⟩ := sx_bind hm
    have hPc := hP.sub (ws' := [(h_net, .inr (0, [.ref a_net_sorts, .ref a_net_ranks, .ref a_net_starts, .ref a_net_literals, .ref a_net_nextLiterals, .ref a_net_outputs, .int net_gateTotal, .int net_inputTotal, .int net_latchTotal, .int net_outputTotal])), (a_net_starts, .inl (cI, 61, .inl net_starts))]) [0, 3] rfl
    have hDc := hD.sub (ws' := [(h_net, .inr (0, [.ref a_net_sorts, .ref a_net_ranks, .ref a_net_starts, .ref a_net_literals, .ref a_net_nextLiterals, .ref a_net_outputs, .int net_gateTotal, .int net_inputTotal, .int net_latchTotal, .int net_outputTotal])), (a_net_starts, .inl (cI, 61, .inl net_starts))]) [0, 3] (by decide) rfl
    have hFc := va_free (wc := [(h_net, .inr (0, [.ref a_net_sorts, .ref a_net_ranks, .ref a_net_starts, .ref a_net_literals, .ref a_net_nextLiterals, .ref a_net_outputs, .int net_gateTotal, .int net_inputTotal, .int net_latchTotal, .int net_outputTotal])), (a_net_starts, .inl (cI, 61, .inl net_starts))]) hD hS hA [0, 3] rfl
    refine sx_stI (va_runV (As := []) (rest := [.int ((net_starts (p0 + (1 : Int32)).toNatClampNeg) + (1 : Int32)), .ref a_net_literals, .int (net_starts (p0 + (1 : Int32)).toNatClampNeg), .ref a_net_literals]) ⟨hx, hb, hml, hown, hts⟩ (k_Net_feedTotal l dC dI cI cL cZ t1 t2 h_net a_net_sorts a_net_ranks a_net_starts a_net_literals a_net_nextLiterals a_net_outputs net_starts net_gateTotal net_inputTotal net_latchTotal net_outputTotal _ v3 hv3) (cwV 0 hts (sx_gV tw_502 tw_354 tw_355 tw_37 tcNet_feedTotal) rfl rfl rfl (by decide +kernel) ⟨Nat.le_of_ble_eq_true rfl, Nat.le_of_ble_eq_true rfl⟩) (sx_pV hK hX hS hPc hDc hFc (va_recv hK hPc (ci := 0) (q0 := 0) rfl rfl)) rfl rfl hl.1 rfl (lv_room (Nat.le_of_ble_eq_true rfl)) dNet_addFeed_40 ⟨Nat.le_of_ble_eq_true rfl, Nat.le_of_ble_eq_true rfl⟩) ?_
    refine lv_iload hx hb dNet_addFeed_43 (lv_at hl 0 rfl) ?_
    refine lv_isub hx hb dNet_addFeed_45 ?_
    obtain ⟨⟨g51, g52, g53, g54, g55⟩, hm⟩ := gd_el hm
    refine va_copyi hx hb (hml.trans hl.1.symm) hown (hts _ tw_503) (hts _ tw_348) (hts _ tw_347) (hts _ tw_48) hK hP hD hS 4 4 0 0 rfl rfl rfl rfl rfl g51 g52 g53 g54 g55 (fun _ _ => rfl) (Nat.le_of_ble_eq_true rfl) (Nat.le_of_ble_eq_true rfl) dNet_addFeed_46 (fun H locs hP hD hS => ?_)
    have hP : va_P (dC, dI) vwCl [(h_net, .inr (0, [.ref a_net_sorts, .ref a_net_ranks, .ref a_net_starts, .ref a_net_literals, .ref a_net_nextLiterals, .ref a_net_outputs, .int net_gateTotal, .int net_inputTotal, .int net_latchTotal, .int net_outputTotal])), (a_net_sorts, .inl (cI, 60, .inl net_sorts)), (a_net_ranks, .inl (cI, 60, .inl net_ranks)), (a_net_starts, .inl (cI, 61, .inl net_starts)), (a_net_literals, .inl (cI, 240, .inl (va_cpy net_literals net_literals (net_starts (p0 + (1 : Int32)).toNatClampNeg).toNatClampNeg ((net_starts (p0 + (1 : Int32)).toNatClampNeg) + (1 : Int32)).toNatClampNeg (v3 - (net_starts (p0 + (1 : Int32)).toNatClampNeg)).toNatClampNeg))), (a_net_nextLiterals, .inl (cI, 8, .inl net_nextLiterals))] H := hP
    have hD : va_D A [(h_net, .inr (0, [.ref a_net_sorts, .ref a_net_ranks, .ref a_net_starts, .ref a_net_literals, .ref a_net_nextLiterals, .ref a_net_outputs, .int net_gateTotal, .int net_inputTotal, .int net_latchTotal, .int net_outputTotal])), (a_net_sorts, .inl (cI, 60, .inl net_sorts)), (a_net_ranks, .inl (cI, 60, .inl net_ranks)), (a_net_starts, .inl (cI, 61, .inl net_starts)), (a_net_literals, .inl (cI, 240, .inl (va_cpy net_literals net_literals (net_starts (p0 + (1 : Int32)).toNatClampNeg).toNatClampNeg ((net_starts (p0 + (1 : Int32)).toNatClampNeg) + (1 : Int32)).toNatClampNeg (v3 - (net_starts (p0 + (1 : Int32)).toNatClampNeg)).toNatClampNeg))), (a_net_nextLiterals, .inl (cI, 8, .inl net_nextLiterals))] := hD
    refine lv_aload_n hx hb dNet_addFeed_49 rfl (lv_at hl 2 rfl) ?_
    refine va_get (D := (dC, dI)) (ci := 0) (v := .ref a_net_literals) (C := RNet) (T := TNet) (N := 10) hx hb hts inNet hown hK hP 0 rfl rfl 3 (by decide) (hts _ tw_69) (fun _ h9 => h9) rfl dNet_addFeed_50 ?_
    refine lv_iload hx hb dNet_addFeed_53 (lv_at hl 0 rfl) ?_
    refine lv_iload hx hb dNet_addFeed_55 (lv_at hl 1 rfl) ?_
    obtain ⟨g6, hm⟩ := gd_el hm
    refine va_iast hx hb hK hP hD hS 4 0 rfl rfl g6 dNet_addFeed_57 (fun H locs hP hD hS => ?_)
    have hP : va_P (dC, dI) vwCl [(h_net, .inr (0, [.ref a_net_sorts, .ref a_net_ranks, .ref a_net_starts, .ref a_net_literals, .ref a_net_nextLiterals, .ref a_net_outputs, .int net_gateTotal, .int net_inputTotal, .int net_latchTotal, .int net_outputTotal])), (a_net_sorts, .inl (cI, 60, .inl net_sorts)), (a_net_ranks, .inl (cI, 60, .inl net_ranks)), (a_net_starts, .inl (cI, 61, .inl net_starts)), (a_net_literals, .inl (cI, 240, .inl (upd (va_cpy net_literals net_literals (net_starts (p0 + (1 : Int32)).toNatClampNeg).toNatClampNeg ((net_starts (p0 + (1 : Int32)).toNatClampNeg) + (1 : Int32)).toNatClampNeg (v3 - (net_starts (p0 + (1 : Int32)).toNatClampNeg)).toNatClampNeg) (net_starts (p0 + (1 : Int32)).toNatClampNeg).toNatClampNeg (z1J1 + z0J1)))), (a_net_nextLiterals, .inl (cI, 8, .inl net_nextLiterals))] H := hP
    have hD : va_D A [(h_net, .inr (0, [.ref a_net_sorts, .ref a_net_ranks, .ref a_net_starts, .ref a_net_literals, .ref a_net_nextLiterals, .ref a_net_outputs, .int net_gateTotal, .int net_inputTotal, .int net_latchTotal, .int net_outputTotal])), (a_net_sorts, .inl (cI, 60, .inl net_sorts)), (a_net_ranks, .inl (cI, 60, .inl net_ranks)), (a_net_starts, .inl (cI, 61, .inl net_starts)), (a_net_literals, .inl (cI, 240, .inl (upd (va_cpy net_literals net_literals (net_starts (p0 + (1 : Int32)).toNatClampNeg).toNatClampNeg ((net_starts (p0 + (1 : Int32)).toNatClampNeg) + (1 : Int32)).toNatClampNeg (v3 - (net_starts (p0 + (1 : Int32)).toNatClampNeg)).toNatClampNeg) (net_starts (p0 + (1 : Int32)).toNatClampNeg).toNatClampNeg (z1J1 + z0J1)))), (a_net_nextLiterals, .inl (cI, 8, .inl net_nextLiterals))] := hD
    refine lv_iload_n hx hb dNet_addFeed_58 rfl (lv_at hl 3 rfl) ?_
    refine lv_iconst (v := (1 : Int32)) hx hb dNet_addFeed_59 (by decide) ?_
    refine lv_iadd hx hb dNet_addFeed_60 ?_
    refine lv_istore (lv' := [(6, .int (p0 + (1 : Int32))), (5, .int (net_starts (p0 + (1 : Int32)).toNatClampNeg)), (4, .int (z1J1 + z0J1)), (0, .ref h_net), (1, .int p0)]) hx hb dNet_addFeed_61 hl (by decide) rfl (fun ls hl => ?_)
    obtain ⟨v10, hv10, hm⟩ := sx_bind hm
    refine w_Net_addFeed_63 C0 h_net a_net_sorts a_net_ranks a_net_starts a_net_literals a_net_nextLiterals a_net_outputs net_sorts net_ranks (upd (va_cpy net_literals net_literals (net_starts (p0 + (1 : Int32)).toNatClampNeg).toNatClampNeg ((net_starts (p0 + (1 : Int32)).toNatClampNeg) + (1 : Int32)).toNatClampNeg (v3 - (net_starts (p0 + (1 : Int32)).toNatClampNeg)).toNatClampNeg) (net_starts (p0 + (1 : Int32)).toNatClampNeg).toNatClampNeg (z1J1 + z0J1)) net_nextLiterals net_gateTotal net_inputTotal net_latchTotal net_outputTotal p0 (z1J1 + z0J1) _ (p0 + (1 : Int32)) net_starts v10 hv10 _ _ _ hP hD hS (lv_sub hl [3, 4, 2, 0] rfl) ?_
    intro H locs ls hP hD hS hl
    refine lv_aload_n hx hb dNet_addFeed_89 rfl (lv_at hl 0 rfl) ?_
    refine va_get (D := (dC, dI)) (ci := 0) (v := .ref a_net_sorts) (C := RNet) (T := TNet) (N := 10) hx hb hts inNet hown hK hP 0 rfl rfl 0 (by decide) (hts _ tw_63) (fun _ h9 => h9) rfl dNet_addFeed_90 ?_
    refine lv_iload_n hx hb dNet_addFeed_93 rfl (lv_at hl 1 rfl) ?_
    obtain ⟨g11, hm⟩ := gd_el hm
    refine va_iald hx hb hK hP 1 0 rfl rfl g11 dNet_addFeed_94 ?_
    refine lv_iconst (v := (1 : Int32)) hx hb dNet_addFeed_95 (by decide) ?_
    refine lv_icmp_ne (tgt := 112) hx hb dNet_addFeed_96 (by decide) (fun c12 => ?_) (fun c12 => ?_)
    · have hm := sx_neg c12 hm
      refine lv_aload_n hx hb dNet_addFeed_112 rfl (lv_at hl 0 rfl) ?_
      refine lv_iload_n hx hb dNet_addFeed_113 rfl (lv_at hl 1 rfl) ?_
      obtain ⟨v13, hv13, hm⟩ := sx_bind hm
      have hPc := hP.sub (ws' := [(h_net, .inr (0, [.ref a_net_sorts, .ref a_net_ranks, .ref a_net_starts, .ref a_net_literals, .ref a_net_nextLiterals, .ref a_net_outputs, .int net_gateTotal, .int net_inputTotal, .int net_latchTotal, .int net_outputTotal])), (a_net_starts, .inl (cI, 61, .inl v10))]) [0, 3] rfl
      have hDc := hD.sub (ws' := [(h_net, .inr (0, [.ref a_net_sorts, .ref a_net_ranks, .ref a_net_starts, .ref a_net_literals, .ref a_net_nextLiterals, .ref a_net_outputs, .int net_gateTotal, .int net_inputTotal, .int net_latchTotal, .int net_outputTotal])), (a_net_starts, .inl (cI, 61, .inl v10))]) [0, 3] (by decide) rfl
      have hFc := va_free (wc := [(h_net, .inr (0, [.ref a_net_sorts, .ref a_net_ranks, .ref a_net_starts, .ref a_net_literals, .ref a_net_nextLiterals, .ref a_net_outputs, .int net_gateTotal, .int net_inputTotal, .int net_latchTotal, .int net_outputTotal])), (a_net_starts, .inl (cI, 61, .inl v10))]) hD hS hA [0, 3] rfl
      refine sx_stI (va_runV (As := [.int p0]) (rest := []) ⟨hx, hb, hml, hown, hts⟩ (k_Net_feedsOf l dC dI cI cL cZ t1 t2 h_net a_net_sorts a_net_ranks a_net_starts a_net_literals a_net_nextLiterals a_net_outputs v10 net_gateTotal net_inputTotal net_latchTotal net_outputTotal _ p0 v13 hv13) (cwV 1 hts (sx_gV tw_478 tw_479 tw_480 tw_37 tcNet_feedsOf) rfl rfl rfl (by decide +kernel) ⟨Nat.le_of_ble_eq_true rfl, Nat.le_of_ble_eq_true rfl⟩) (sx_pV hK hX hS hPc hDc hFc (va_recv hK hPc (ci := 0) (q0 := 0) rfl rfl)) rfl rfl hl.1 rfl (lv_room (Nat.le_of_ble_eq_true rfl)) dNet_addFeed_114 ⟨Nat.le_of_ble_eq_true rfl, Nat.le_of_ble_eq_true rfl⟩) ?_
      obtain rfl := Option.some.inj hm
      exact W.iret (v := v13) hx hb hr (fun t ht hW => ⟨⟨v13, (), rfl, rfl, sx_Wi hP hK hD ht hW.alike⟩, hS.F ht⟩) hS.2.2 dNet_addFeed_117
    · have hm := sx_pos c12 hm
      refine lv_aload_n hx hb dNet_addFeed_99 rfl (lv_at hl 0 rfl) ?_
      refine va_get (D := (dC, dI)) (ci := 0) (v := .ref a_net_nextLiterals) (C := RNet) (T := TNet) (N := 10) hx hb hts inNet hown hK hP 0 rfl rfl 4 (by decide) (hts _ tw_71) (fun _ h9 => h9) rfl dNet_addFeed_100 ?_
      refine lv_aload_n hx hb dNet_addFeed_103 rfl (lv_at hl 0 rfl) ?_
      refine va_get (D := (dC, dI)) (ci := 0) (v := .ref a_net_ranks) (C := RNet) (T := TNet) (N := 10) hx hb hts inNet hown hK hP 0 rfl rfl 1 (by decide) (hts _ tw_65) (fun _ h9 => h9) rfl dNet_addFeed_104 ?_
      refine lv_iload_n hx hb dNet_addFeed_107 rfl (lv_at hl 1 rfl) ?_
      obtain ⟨g15, hm⟩ := gd_el hm
      refine va_iald hx hb hK hP 2 0 rfl rfl g15 dNet_addFeed_108 ?_
      refine lv_iload hx hb dNet_addFeed_109 (lv_at hl 2 rfl) ?_
      obtain ⟨g16, hm⟩ := gd_el hm
      refine va_iast hx hb hK hP hD hS 5 0 rfl rfl g16 dNet_addFeed_111 (fun H locs hP hD hS => ?_)
      have hP : va_P (dC, dI) vwCl [(h_net, .inr (0, [.ref a_net_sorts, .ref a_net_ranks, .ref a_net_starts, .ref a_net_literals, .ref a_net_nextLiterals, .ref a_net_outputs, .int net_gateTotal, .int net_inputTotal, .int net_latchTotal, .int net_outputTotal])), (a_net_sorts, .inl (cI, 60, .inl net_sorts)), (a_net_ranks, .inl (cI, 60, .inl net_ranks)), (a_net_starts, .inl (cI, 61, .inl v10)), (a_net_literals, .inl (cI, 240, .inl (upd (va_cpy net_literals net_literals (net_starts (p0 + (1 : Int32)).toNatClampNeg).toNatClampNeg ((net_starts (p0 + (1 : Int32)).toNatClampNeg) + (1 : Int32)).toNatClampNeg (v3 - (net_starts (p0 + (1 : Int32)).toNatClampNeg)).toNatClampNeg) (net_starts (p0 + (1 : Int32)).toNatClampNeg).toNatClampNeg (z1J1 + z0J1)))), (a_net_nextLiterals, .inl (cI, 8, .inl (upd net_nextLiterals (net_ranks p0.toNatClampNeg).toNatClampNeg (z1J1 + z0J1))))] H := hP
      have hD : va_D A [(h_net, .inr (0, [.ref a_net_sorts, .ref a_net_ranks, .ref a_net_starts, .ref a_net_literals, .ref a_net_nextLiterals, .ref a_net_outputs, .int net_gateTotal, .int net_inputTotal, .int net_latchTotal, .int net_outputTotal])), (a_net_sorts, .inl (cI, 60, .inl net_sorts)), (a_net_ranks, .inl (cI, 60, .inl net_ranks)), (a_net_starts, .inl (cI, 61, .inl v10)), (a_net_literals, .inl (cI, 240, .inl (upd (va_cpy net_literals net_literals (net_starts (p0 + (1 : Int32)).toNatClampNeg).toNatClampNeg ((net_starts (p0 + (1 : Int32)).toNatClampNeg) + (1 : Int32)).toNatClampNeg (v3 - (net_starts (p0 + (1 : Int32)).toNatClampNeg)).toNatClampNeg) (net_starts (p0 + (1 : Int32)).toNatClampNeg).toNatClampNeg (z1J1 + z0J1)))), (a_net_nextLiterals, .inl (cI, 8, .inl (upd net_nextLiterals (net_ranks p0.toNatClampNeg).toNatClampNeg (z1J1 + z0J1))))] := hD
      refine lv_aload_n hx hb dNet_addFeed_112 rfl (lv_at hl 0 rfl) ?_
      refine lv_iload_n hx hb dNet_addFeed_113 rfl (lv_at hl 1 rfl) ?_
      obtain ⟨v17, hv17, hm⟩ := sx_bind hm
      have hPc := hP.sub (ws' := [(h_net, .inr (0, [.ref a_net_sorts, .ref a_net_ranks, .ref a_net_starts, .ref a_net_literals, .ref a_net_nextLiterals, .ref a_net_outputs, .int net_gateTotal, .int net_inputTotal, .int net_latchTotal, .int net_outputTotal])), (a_net_starts, .inl (cI, 61, .inl v10))]) [0, 3] rfl
      have hDc := hD.sub (ws' := [(h_net, .inr (0, [.ref a_net_sorts, .ref a_net_ranks, .ref a_net_starts, .ref a_net_literals, .ref a_net_nextLiterals, .ref a_net_outputs, .int net_gateTotal, .int net_inputTotal, .int net_latchTotal, .int net_outputTotal])), (a_net_starts, .inl (cI, 61, .inl v10))]) [0, 3] (by decide) rfl
      have hFc := va_free (wc := [(h_net, .inr (0, [.ref a_net_sorts, .ref a_net_ranks, .ref a_net_starts, .ref a_net_literals, .ref a_net_nextLiterals, .ref a_net_outputs, .int net_gateTotal, .int net_inputTotal, .int net_latchTotal, .int net_outputTotal])), (a_net_starts, .inl (cI, 61, .inl v10))]) hD hS hA [0, 3] rfl
      refine sx_stI (va_runV (As := [.int p0]) (rest := []) ⟨hx, hb, hml, hown, hts⟩ (k_Net_feedsOf l dC dI cI cL cZ t1 t2 h_net a_net_sorts a_net_ranks a_net_starts a_net_literals a_net_nextLiterals a_net_outputs v10 net_gateTotal net_inputTotal net_latchTotal net_outputTotal _ p0 v17 hv17) (cwV 1 hts (sx_gV tw_478 tw_479 tw_480 tw_37 tcNet_feedsOf) rfl rfl rfl (by decide +kernel) ⟨Nat.le_of_ble_eq_true rfl, Nat.le_of_ble_eq_true rfl⟩) (sx_pV hK hX hS hPc hDc hFc (va_recv hK hPc (ci := 0) (q0 := 0) rfl rfl)) rfl rfl hl.1 rfl (lv_room (Nat.le_of_ble_eq_true rfl)) dNet_addFeed_114 ⟨Nat.le_of_ble_eq_true rfl, Nat.le_of_ble_eq_true rfl⟩) ?_
      obtain rfl := Option.some.inj hm
      exact W.iret (v := v17) hx hb hr (fun t ht hW => ⟨⟨v17, (), rfl, rfl, sx_Wi hP hK hD ht hW.alike⟩, hS.F ht⟩) hS.2.2 dNet_addFeed_117
  refine lv_if_eq (tgt := 11) hx hb dNet_addFeed_4 (by decide) (fun c19 => ?_) (fun c19 => ?_)
  · have hm := sx_pos c19 hm
    refine lv_iconst (v := (0 : Int32)) hx hb dNet_addFeed_11 (by decide) ?_
    exact jJ1 (0 : Int32) (p1 * (2 : Int32)) hm _ (lv_sub hl [0, 1] rfl)
  · have hm := sx_neg c19 hm
    refine lv_iconst (v := (1 : Int32)) hx hb dNet_addFeed_7 (by decide) ?_
    refine lv_goto (tgt := 12) hx hb dNet_addFeed_8 (by decide) ?_
    exact jJ1 (1 : Int32) (p1 * (2 : Int32)) hm _ (lv_sub hl [0, 1] rfl)
noncomputable def m_Net_addOutput (net_outputs : Nat → Int32) (net_outputTotal : Int32) (p0 : Int32) : Option (Int32 × (Nat → Int32) × Int32) := gd (vp_in net_outputTotal 6) (some (net_outputTotal + (1 : Int32), upd net_outputs net_outputTotal.toNatClampNeg p0, net_outputTotal + (1 : Int32)))
def rm_Net_addOutput : Room := { frames := 0, cells := 0, slots := 0, locals := 0 }
set_option maxHeartbeats 4000000 in
set_option maxRecDepth 100000 in
theorem k_Net_addOutput (l : Launch) (dC : Nat → ClassId) (dI : Nat → Nat → Nat) (cI cL cZ : ClassId) (t1 t2 : Nat) (h_net a_net_sorts a_net_ranks a_net_starts a_net_literals a_net_nextLiterals a_net_outputs : Nat) (net_outputs : Nat → Int32) (net_gateTotal net_inputTotal net_latchTotal net_outputTotal : Int32) (sz : Nat) (p0 : Int32) (v : Int32 × (Nat → Int32) × Int32) (hm : m_Net_addOutput net_outputs net_outputTotal p0 = some v) : Met l yNet_addOutput wsNet_addOutput rm_Net_addOutput (sx_Pc (dC, dI) [(cI, .int), (cL, .long), (cZ, .boolean)] t1 t2 [(h_net, .inr (0, [.ref a_net_sorts, .ref a_net_ranks, .ref a_net_starts, .ref a_net_literals, .ref a_net_nextLiterals, .ref a_net_outputs, .int net_gateTotal, .int net_inputTotal, .int net_latchTotal, .int net_outputTotal])), (a_net_outputs, .inl (cI, 6, .inl net_outputs))] sz [.ref h_net, .int p0]) (va_Qi (fun (r : Int32) (_ : Unit) => r = v.1) (fun _ t => sx_W (dC, dI) [(cI, .int), (cL, .long), (cZ, .boolean)] (va_A [(h_net, .inr (0, [.ref a_net_sorts, .ref a_net_ranks, .ref a_net_starts, .ref a_net_literals, .ref a_net_nextLiterals, .ref a_net_outputs, .int net_gateTotal, .int net_inputTotal, .int net_latchTotal, .int net_outputTotal])), (a_net_outputs, .inl (cI, 6, .inl net_outputs))] sz) [(h_net, .inr (0, [.ref a_net_sorts, .ref a_net_ranks, .ref a_net_starts, .ref a_net_literals, .ref a_net_nextLiterals, .ref a_net_outputs, .int net_gateTotal, .int net_inputTotal, .int net_latchTotal, .int v.2.2])), (a_net_outputs, .inl (cI, 6, .inl v.2.1))] t) (va_A [(h_net, .inr (0, [.ref a_net_sorts, .ref a_net_ranks, .ref a_net_starts, .ref a_net_literals, .ref a_net_nextLiterals, .ref a_net_outputs, .int net_gateTotal, .int net_inputTotal, .int net_latchTotal, .int net_outputTotal])), (a_net_outputs, .inl (cI, 6, .inl net_outputs))] sz)) 0 0 (va_A [(h_net, .inr (0, [.ref a_net_sorts, .ref a_net_ranks, .ref a_net_starts, .ref a_net_literals, .ref a_net_nextLiterals, .ref a_net_outputs, .int net_gateTotal, .int net_inputTotal, .int net_latchTotal, .int net_outputTotal])), (a_net_outputs, .inl (cI, 6, .inl net_outputs))] sz) := by
  refine Met.ofW (cc := cNet_addOutput) (maxL := 2) (ret := (some .int)) (by decide) rfl ?_
  intro p e s m args below meth c s₁ B hml hv
  obtain ⟨rfl, hsz, hP, hK, hD0, hX⟩ := hv
  have hx := B.exec
  have hb := B.bytes
  have hr := B.returns
  have hts0 := atoms_spec (ws := wsNet_addOutput) B.pre
  have hts : ∀ w ∈ tb, w.before _ s = true := fun w h => hts0 w (List.mem_cons_of_mem _ h)
  have hown : s.vm.findClass "StateExplorer$Net" = some m.cls := findClass_of_methodNamed B.named
  have hlocks := B.notSynchronized
  subst hsz
  have hD := hD0.self (sz := s.heap.size)
  generalize hAe : va_A [(h_net, .inr (0, [.ref a_net_sorts, .ref a_net_ranks, .ref a_net_starts, .ref a_net_literals, .ref a_net_nextLiterals, .ref a_net_outputs, .int net_gateTotal, .int net_inputTotal, .int net_latchTotal, .int net_outputTotal])), (a_net_outputs, .inl (cI, 6, .inl net_outputs))] s.heap.size = A at hD hX ⊢
  have hA : ∀ q : Nat, s.heap.size ≤ q → A q := fun q h => by rw [← hAe]; exact Or.inr h
  have hS : va_S A s.heap s.heap [] := va_S.rf
  have hl := lv_entry ([.ref h_net, .int p0]) (n := 2) (Nat.le_of_ble_eq_true rfl)
  rw [lg_entry_eq]
  generalize (lg_sl ([.ref h_net, .int p0]) ++ List.replicate (2 - (lg_sl ([.ref h_net, .int p0])).length) Slot.unset).toArray = ls at hl ⊢
  have hl : lv_has ls 2 [(0, .ref h_net), (1, .int p0)] := hl
  have C0 : sx_C p s m _ meth c cNet_addOutput 2 "StateExplorer$Net" A (dC, dI) [(cI, .int), (cL, .long), (cZ, .boolean)] t1 t2 := ⟨hx, hb, hml, hown, hts, hA, hK, hlocks, hX⟩
  rw [m_Net_addOutput] at hm
  refine lv_aload_n hx hb dNet_addOutput_0 rfl (lv_at hl 0 rfl) ?_
  refine va_get (D := (dC, dI)) (ci := 0) (v := .ref a_net_outputs) (C := RNet) (T := TNet) (N := 10) hx hb hts inNet hown hK hP 0 rfl rfl 5 (by decide) (hts _ tw_73) (fun _ h9 => h9) rfl dNet_addOutput_1 ?_
  refine lv_aload_n hx hb dNet_addOutput_4 rfl (lv_at hl 0 rfl) ?_
  refine va_get (D := (dC, dI)) (ci := 0) (v := .int net_outputTotal) (C := RNet) (T := TNet) (N := 10) hx hb hts inNet hown hK hP 0 rfl rfl 9 (by decide) (hts _ tw_83) (fun _ h9 => h9) rfl dNet_addOutput_5 ?_
  refine lv_iload_n hx hb dNet_addOutput_8 rfl (lv_at hl 1 rfl) ?_
  obtain ⟨g1, hm⟩ := gd_el hm
  refine va_iast hx hb hK hP hD hS 1 0 rfl rfl g1 dNet_addOutput_9 (fun H locs hP hD hS => ?_)
  have hP : va_P (dC, dI) vwCl [(h_net, .inr (0, [.ref a_net_sorts, .ref a_net_ranks, .ref a_net_starts, .ref a_net_literals, .ref a_net_nextLiterals, .ref a_net_outputs, .int net_gateTotal, .int net_inputTotal, .int net_latchTotal, .int net_outputTotal])), (a_net_outputs, .inl (cI, 6, .inl (upd net_outputs net_outputTotal.toNatClampNeg p0)))] H := hP
  have hD : va_D A [(h_net, .inr (0, [.ref a_net_sorts, .ref a_net_ranks, .ref a_net_starts, .ref a_net_literals, .ref a_net_nextLiterals, .ref a_net_outputs, .int net_gateTotal, .int net_inputTotal, .int net_latchTotal, .int net_outputTotal])), (a_net_outputs, .inl (cI, 6, .inl (upd net_outputs net_outputTotal.toNatClampNeg p0)))] := hD
  refine lv_aload_n hx hb dNet_addOutput_10 rfl (lv_at hl 0 rfl) ?_
  refine lv_dup hx hb dNet_addOutput_11 rfl ?_
  refine va_get (D := (dC, dI)) (ci := 0) (v := .int net_outputTotal) (C := RNet) (T := TNet) (N := 10) hx hb hts inNet hown hK hP 0 rfl rfl 9 (by decide) (hts _ tw_83) (fun _ h9 => h9) rfl dNet_addOutput_12 ?_
  refine lv_iconst (v := (1 : Int32)) hx hb dNet_addOutput_15 (by decide) ?_
  refine lv_iadd hx hb dNet_addOutput_16 ?_
  refine va_put (D := (dC, dI)) (ci := 0) (v := .int (net_outputTotal + (1 : Int32))) (ty := .int) (C := RNet) (T := TNet) (N := 10) hx hb hts inNet tyNet tyNet_ok nmNet hown hK hP hD hS 0 rfl rfl 9 (by decide) (hts _ tw_83) (fun _ h9 => h9) rfl (by decide +kernel) rfl rfl (Nat.le_of_ble_eq_true rfl) dNet_addOutput_17 (fun H locs hP hD hS => ?_)
  have hP : va_P (dC, dI) vwCl [(h_net, .inr (0, [.ref a_net_sorts, .ref a_net_ranks, .ref a_net_starts, .ref a_net_literals, .ref a_net_nextLiterals, .ref a_net_outputs, .int net_gateTotal, .int net_inputTotal, .int net_latchTotal, .int (net_outputTotal + (1 : Int32))])), (a_net_outputs, .inl (cI, 6, .inl (upd net_outputs net_outputTotal.toNatClampNeg p0)))] H := hP
  have hD : va_D A [(h_net, .inr (0, [.ref a_net_sorts, .ref a_net_ranks, .ref a_net_starts, .ref a_net_literals, .ref a_net_nextLiterals, .ref a_net_outputs, .int net_gateTotal, .int net_inputTotal, .int net_latchTotal, .int (net_outputTotal + (1 : Int32))])), (a_net_outputs, .inl (cI, 6, .inl (upd net_outputs net_outputTotal.toNatClampNeg p0)))] := hD
  refine lv_aload_n hx hb dNet_addOutput_20 rfl (lv_at hl 0 rfl) ?_
  refine va_get (D := (dC, dI)) (ci := 0) (v := .int (net_outputTotal + (1 : Int32))) (C := RNet) (T := TNet) (N := 10) hx hb hts inNet hown hK hP 0 rfl rfl 9 (by decide) (hts _ tw_83) (fun _ h9 => h9) rfl dNet_addOutput_21 ?_
  obtain rfl := Option.some.inj hm
  exact W.iret (v := net_outputTotal + (1 : Int32)) hx hb hr (fun t ht hW => ⟨⟨(net_outputTotal + (1 : Int32)), (), rfl, rfl, sx_Wi hP hK hD ht hW.alike⟩, hS.F ht⟩) hS.2.2 dNet_addOutput_24
