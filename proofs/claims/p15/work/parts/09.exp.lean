theorem sx_og_45 : ∀ w ∈ (Bundle.ownAtoms "StateExplorer" 45 "java/lang/IllegalArgumentException" ["java/lang/RuntimeException", "java/lang/Exception"]).filter goodWord, w ∈ tb := fun w h => List.mem_filter.mpr ⟨(show ∀ w ∈ (Bundle.ownAtoms "StateExplorer" 45 "java/lang/IllegalArgumentException" ["java/lang/RuntimeException", "java/lang/Exception"]).filter goodWord, w ∈ lw_tbl by decide +kernel) w h, (List.mem_filter.mp h).2⟩
theorem sx_on_45 : ∀ w ∈ (Bundle.ownAtoms "StateExplorer" 45 "java/lang/IllegalArgumentException" ["java/lang/RuntimeException", "java/lang/Exception"]).filter (fun w => !goodWord w), w = .laysStatic Bundle.tN "UNASSIGNED_STACK" Bundle.steD ∨ w = .laysStatic Bundle.tN "SUPPRESSED_SENTINEL" Bundle.listD ∨ w = .isRef (.static Bundle.tN "UNASSIGNED_STACK" Bundle.steD) ∨ w = .isRef (.static Bundle.tN "SUPPRESSED_SENTINEL" Bundle.listD) ∨ (∃ x ∈ sx_decl, w = .declares x) ∨ ∃ x ∈ sx_cast, w = .castable x.1 x.2 := by decide +kernel
theorem sx_og_67 : ∀ w ∈ (Bundle.ownAtoms "StateExplorer" 67 "java/lang/IllegalStateException" ["java/lang/RuntimeException", "java/lang/Exception"]).filter goodWord, w ∈ tb := fun w h => List.mem_filter.mpr ⟨(show ∀ w ∈ (Bundle.ownAtoms "StateExplorer" 67 "java/lang/IllegalStateException" ["java/lang/RuntimeException", "java/lang/Exception"]).filter goodWord, w ∈ lw_tbl by decide +kernel) w h, (List.mem_filter.mp h).2⟩
theorem sx_on_67 : ∀ w ∈ (Bundle.ownAtoms "StateExplorer" 67 "java/lang/IllegalStateException" ["java/lang/RuntimeException", "java/lang/Exception"]).filter (fun w => !goodWord w), w = .laysStatic Bundle.tN "UNASSIGNED_STACK" Bundle.steD ∨ w = .laysStatic Bundle.tN "SUPPRESSED_SENTINEL" Bundle.listD ∨ w = .isRef (.static Bundle.tN "UNASSIGNED_STACK" Bundle.steD) ∨ w = .isRef (.static Bundle.tN "SUPPRESSED_SENTINEL" Bundle.listD) ∨ (∃ x ∈ sx_decl, w = .declares x) ∨ ∃ x ∈ sx_cast, w = .castable x.1 x.2 := by decide +kernel
theorem sx_og_118 : ∀ w ∈ (Bundle.ownAtoms "StateExplorer" 118 "java/lang/IndexOutOfBoundsException" ["java/lang/RuntimeException", "java/lang/Exception"]).filter goodWord, w ∈ tb := fun w h => List.mem_filter.mpr ⟨(show ∀ w ∈ (Bundle.ownAtoms "StateExplorer" 118 "java/lang/IndexOutOfBoundsException" ["java/lang/RuntimeException", "java/lang/Exception"]).filter goodWord, w ∈ lw_tbl by decide +kernel) w h, (List.mem_filter.mp h).2⟩
theorem sx_on_118 : ∀ w ∈ (Bundle.ownAtoms "StateExplorer" 118 "java/lang/IndexOutOfBoundsException" ["java/lang/RuntimeException", "java/lang/Exception"]).filter (fun w => !goodWord w), w = .laysStatic Bundle.tN "UNASSIGNED_STACK" Bundle.steD ∨ w = .laysStatic Bundle.tN "SUPPRESSED_SENTINEL" Bundle.listD ∨ w = .isRef (.static Bundle.tN "UNASSIGNED_STACK" Bundle.steD) ∨ w = .isRef (.static Bundle.tN "SUPPRESSED_SENTINEL" Bundle.listD) ∨ (∃ x ∈ sx_decl, w = .declares x) ∨ ∃ x ∈ sx_cast, w = .castable x.1 x.2 := by decide +kernel
noncomputable def m_Exp_requireExplored (exp_explored : Int32)  : Option (Nat ⊕ (Unit)) := (if exp_explored = (0 : Int32) then some (.inl 1) else some (.inr ()))
def rm_Exp_requireExplored : Room := { frames := 0, cells := 0, slots := 0, locals := 0 }
def rmt_Exp_requireExplored : Room := { frames := 6, cells := 1, slots := 6, locals := 100 }
set_option maxHeartbeats 4000000 in
set_option maxRecDepth 100000 in
theorem k_Exp_requireExplored (l : Launch) (dC : Nat → ClassId) (dI : Nat → Nat → Nat) (cI cL cZ : ClassId) (t1 t2 : Nat) (h_exp h_net h_tab h_wlk h_par : Nat) (exp_explored : Int32) (sz : Nat)  (v : Unit) (hm : m_Exp_requireExplored exp_explored = some (.inr v)) : Met l yExp_requireExplored wsExp_requireExplored rm_Exp_requireExplored (sx_Pc (dC, dI) [(cI, .int), (cL, .long), (cZ, .boolean)] t1 t2 [(h_exp, .inr (4, [.ref h_net, .ref h_tab, .ref h_wlk, .ref h_par, .int exp_explored]))] sz [.ref h_exp]) (sx_Sv) 0 0 (fun _ => False) := by
  refine Met.ofW (cc := cExp_requireExplored) (maxL := 1) (ret := none) (by decide) rfl ?_
  intro p e s m args below meth c s₁ B hml hv
  obtain ⟨rfl, hsz, hP, hK, hD0, hX⟩ := hv
  have hx := B.exec
  have hb := B.bytes
  have hr := B.returns
  have hts0 := atoms_spec (ws := wsExp_requireExplored) B.pre
  have hts : ∀ w ∈ tb, w.before _ s = true := fun w h => hts0 w (List.mem_cons_of_mem _ h)
  have hown : s.vm.findClass "StateExplorer" = some m.cls := findClass_of_methodNamed B.named
  have hlocks := B.notSynchronized
  subst hsz
  have hD := hD0.self (sz := s.heap.size)
  generalize hAe : va_A [(h_exp, .inr (4, [.ref h_net, .ref h_tab, .ref h_wlk, .ref h_par, .int exp_explored]))] s.heap.size = A at hD hX 
  have hA : ∀ q : Nat, s.heap.size ≤ q → A q := fun q h => by rw [← hAe]; exact Or.inr h
  have hS : va_S A s.heap s.heap [] := va_S.rf
  have hl := lv_entry ([.ref h_exp]) (n := 1) (Nat.le_of_ble_eq_true rfl)
  rw [lg_entry_eq]
  generalize (lg_sl ([.ref h_exp]) ++ List.replicate (1 - (lg_sl ([.ref h_exp])).length) Slot.unset).toArray = ls at hl ⊢
  have hl : lv_has ls 1 [(0, .ref h_exp)] := hl
  have C0 : sx_C p s m _ meth c cExp_requireExplored 1 "StateExplorer" A (dC, dI) [(cI, .int), (cL, .long), (cZ, .boolean)] t1 t2 := ⟨hx, hb, hml, hown, hts, hA, hK, hlocks, hX⟩
  rw [m_Exp_requireExplored] at hm
  refine lv_aload_n hx hb dExp_requireExplored_0 rfl (lv_at hl 0 rfl) ?_
  refine va_get (D := (dC, dI)) (ci := 4) (v := .int exp_explored) (C := RExp) (T := TExp) (N := 5) hx hb hts inExp hown hK hP 0 rfl rfl 4 (by decide) (hts _ tw_197) (fun _ h9 => h9) rfl dExp_requireExplored_1 ?_
  refine lv_if_ne (tgt := 17) hx hb dExp_requireExplored_4 (by decide) (fun c1 => ?_) (fun c1 => ?_)
  · have hm := sx_neg c1 hm
    obtain rfl := Sum.inr.inj (Option.some.inj hm)
    exact W.vret hx hb hr (fun t ht hW => ⟨rfl, ht⟩) (fun q hq => nomatch hq) dExp_requireExplored_17
  · have hm := sx_pos c1 hm
    cases hm
set_option maxHeartbeats 4000000 in
set_option maxRecDepth 100000 in
theorem kt_Exp_requireExplored (l : Launch) (hnt : l.stackTraces = false) (dC : Nat → ClassId) (dI : Nat → Nat → Nat) (cI cL cZ : ClassId) (t1 t2 : Nat) (h_exp h_net h_tab h_wlk h_par : Nat) (exp_explored : Int32) (sz : Nat)  (k : Nat) (hm : m_Exp_requireExplored exp_explored = some (.inl k)) : sx_Thr l yExp_requireExplored wsExp_requireExplored rmt_Exp_requireExplored (sx_Pc (dC, dI) [(cI, .int), (cL, .long), (cZ, .boolean)] t1 t2 [(h_exp, .inr (4, [.ref h_net, .ref h_tab, .ref h_wlk, .ref h_par, .int exp_explored]))] sz [.ref h_exp]) (sx_E k) 1 6 := by
  refine sx_thrOf (cc := cExp_requireExplored) (maxL := 1) (ret := none) (by decide) rfl ?_
  intro p e s m args below meth c s₁ B hml hnx hv
  obtain ⟨rfl, hsz, hP, hK, hD0, hX⟩ := hv
  have hx := B.exec
  have hb := B.bytes
  have hr := B.returns
  have hts0 := atoms_spec (ws := wsExp_requireExplored) B.pre
  have hts : ∀ w ∈ tb, w.before _ s = true := fun w h => hts0 w (List.mem_cons_of_mem _ h)
  have hown : s.vm.findClass "StateExplorer" = some m.cls := findClass_of_methodNamed B.named
  have hlocks := B.notSynchronized
  subst hsz
  have hD := hD0.self (sz := s.heap.size)
  generalize hAe : va_A [(h_exp, .inr (4, [.ref h_net, .ref h_tab, .ref h_wlk, .ref h_par, .int exp_explored]))] s.heap.size = A at hD hX 
  have hA : ∀ q : Nat, s.heap.size ≤ q → A q := fun q h => by rw [← hAe]; exact Or.inr h
  have hS : va_S A s.heap s.heap [] := va_S.rf
  have hl := lv_entry ([.ref h_exp]) (n := 1) (Nat.le_of_ble_eq_true rfl)
  rw [lg_entry_eq]
  generalize (lg_sl ([.ref h_exp]) ++ List.replicate (1 - (lg_sl ([.ref h_exp])).length) Slot.unset).toArray = ls at hl ⊢
  have hl : lv_has ls 1 [(0, .ref h_exp)] := hl
  have C0 : sx_C p s m _ meth c cExp_requireExplored 1 "StateExplorer" A (dC, dI) [(cI, .int), (cL, .long), (cZ, .boolean)] t1 t2 := ⟨hx, hb, hml, hown, hts, hA, hK, hlocks, hX⟩
  rw [m_Exp_requireExplored] at hm
  refine lv_aload_n hx hb dExp_requireExplored_0 rfl (lv_at hl 0 rfl) ?_
  refine va_get (D := (dC, dI)) (ci := 4) (v := .int exp_explored) (C := RExp) (T := TExp) (N := 5) hx hb hts inExp hown hK hP 0 rfl rfl 4 (by decide) (hts _ tw_197) (fun _ h9 => h9) rfl dExp_requireExplored_1 ?_
  refine lv_if_ne (tgt := 17) hx hb dExp_requireExplored_4 (by decide) (fun c1 => ?_) (fun c1 => ?_)
  · have hm := sx_neg c1 hm
    cases hm
  · have hm := sx_pos c1 hm
    obtain rfl := Sum.inl.inj (Option.some.inj hm)
    exact sx_throwS (cls := "java/lang/IllegalStateException") (text := "nothing is explored") (names := ["java/lang/RuntimeException", "java/lang/Exception"]) hx hb hnt hown (by decide +kernel) (by decide +kernel) (hts _ tw_482) (hts _ tw_47) (hts _ tw_483) (hX.2.2.2.2.2.2.2.1 ("StateExplorer", 167, "nothing is explored") (by decide +kernel)) (sx_own hts hX sx_og_67 sx_on_67) (hl.1.trans hml.symm) dExp_requireExplored_7 dExp_requireExplored_10 dExp_requireExplored_11 dExp_requireExplored_13 dExp_requireExplored_16 hnx hlocks (Nat.le_of_ble_eq_true rfl) (Nat.le_of_ble_eq_true rfl) (Nat.le_of_ble_eq_true rfl) (Nat.le_of_ble_eq_true rfl) (Nat.le_of_ble_eq_true rfl) (Nat.le_of_ble_eq_true rfl)
noncomputable def m_Exp_requireGate (net_gateTotal : Int32) (p0 : Int32) : Option (Nat ⊕ (Unit)) := (if p0 < (0 : Int32) then some (.inl 2) else (if p0 < net_gateTotal then some (.inr ()) else some (.inl 2)))
def rm_Exp_requireGate : Room := { frames := 0, cells := 0, slots := 0, locals := 0 }
def rmt_Exp_requireGate : Room := { frames := 6, cells := 1, slots := 6, locals := 100 }
set_option maxHeartbeats 4000000 in
set_option maxRecDepth 100000 in
theorem k_Exp_requireGate (l : Launch) (dC : Nat → ClassId) (dI : Nat → Nat → Nat) (cI cL cZ : ClassId) (t1 t2 : Nat) (h_net a_net_sorts a_net_ranks a_net_starts a_net_literals a_net_nextLiterals a_net_outputs h_exp h_tab h_wlk h_par : Nat) (net_gateTotal net_inputTotal net_latchTotal net_outputTotal exp_explored : Int32) (sz : Nat) (p0 : Int32) (v : Unit) (hm : m_Exp_requireGate net_gateTotal p0 = some (.inr v)) : Met l yExp_requireGate wsExp_requireGate rm_Exp_requireGate (sx_Pc (dC, dI) [(cI, .int), (cL, .long), (cZ, .boolean)] t1 t2 [(h_net, .inr (0, [.ref a_net_sorts, .ref a_net_ranks, .ref a_net_starts, .ref a_net_literals, .ref a_net_nextLiterals, .ref a_net_outputs, .int net_gateTotal, .int net_inputTotal, .int net_latchTotal, .int net_outputTotal])), (h_exp, .inr (4, [.ref h_net, .ref h_tab, .ref h_wlk, .ref h_par, .int exp_explored]))] sz [.ref h_exp, .int p0]) (sx_Sv) 0 0 (fun _ => False) := by
  refine Met.ofW (cc := cExp_requireGate) (maxL := 2) (ret := none) (by decide) rfl ?_
  intro p e s m args below meth c s₁ B hml hv
  obtain ⟨rfl, hsz, hP, hK, hD0, hX⟩ := hv
  have hx := B.exec
  have hb := B.bytes
  have hr := B.returns
  have hts0 := atoms_spec (ws := wsExp_requireGate) B.pre
  have hts : ∀ w ∈ tb, w.before _ s = true := fun w h => hts0 w (List.mem_cons_of_mem _ h)
  have hown : s.vm.findClass "StateExplorer" = some m.cls := findClass_of_methodNamed B.named
  have hlocks := B.notSynchronized
  subst hsz
  have hD := hD0.self (sz := s.heap.size)
  generalize hAe : va_A [(h_net, .inr (0, [.ref a_net_sorts, .ref a_net_ranks, .ref a_net_starts, .ref a_net_literals, .ref a_net_nextLiterals, .ref a_net_outputs, .int net_gateTotal, .int net_inputTotal, .int net_latchTotal, .int net_outputTotal])), (h_exp, .inr (4, [.ref h_net, .ref h_tab, .ref h_wlk, .ref h_par, .int exp_explored]))] s.heap.size = A at hD hX 
  have hA : ∀ q : Nat, s.heap.size ≤ q → A q := fun q h => by rw [← hAe]; exact Or.inr h
  have hS : va_S A s.heap s.heap [] := va_S.rf
  have hl := lv_entry ([.ref h_exp, .int p0]) (n := 2) (Nat.le_of_ble_eq_true rfl)
  rw [lg_entry_eq]
  generalize (lg_sl ([.ref h_exp, .int p0]) ++ List.replicate (2 - (lg_sl ([.ref h_exp, .int p0])).length) Slot.unset).toArray = ls at hl ⊢
  have hl : lv_has ls 2 [(0, .ref h_exp), (1, .int p0)] := hl
  have C0 : sx_C p s m _ meth c cExp_requireGate 2 "StateExplorer" A (dC, dI) [(cI, .int), (cL, .long), (cZ, .boolean)] t1 t2 := ⟨hx, hb, hml, hown, hts, hA, hK, hlocks, hX⟩
  rw [m_Exp_requireGate] at hm
  refine lv_iload_n hx hb dExp_requireGate_0 rfl (lv_at hl 1 rfl) ?_
  refine lv_if_lt (tgt := 15) hx hb dExp_requireGate_1 (by decide) (fun c1 => ?_) (fun c1 => ?_)
  · have hm := sx_pos c1 hm
    cases hm
  · have hm := sx_neg c1 hm
    refine lv_iload_n hx hb dExp_requireGate_4 rfl (lv_at hl 1 rfl) ?_
    refine lv_aload_n hx hb dExp_requireGate_5 rfl (lv_at hl 0 rfl) ?_
    refine va_get (D := (dC, dI)) (ci := 4) (v := .ref h_net) (C := RExp) (T := TExp) (N := 5) hx hb hts inExp hown hK hP 1 rfl rfl 0 (by decide) (hts _ tw_193) (fun _ h9 => h9) rfl dExp_requireGate_6 ?_
    refine va_get (D := (dC, dI)) (ci := 0) (v := .int net_gateTotal) (C := RNet) (T := TNet) (N := 10) hx hb hts inNet hown hK hP 0 rfl rfl 6 (by decide) (hts _ tw_77) (fun _ h9 => h9) rfl dExp_requireGate_9 ?_
    refine lv_icmp_lt (tgt := 25) hx hb dExp_requireGate_12 (by decide) (fun c2 => ?_) (fun c2 => ?_)
    · have hm := sx_pos c2 hm
      obtain rfl := Sum.inr.inj (Option.some.inj hm)
      exact W.vret hx hb hr (fun t ht hW => ⟨rfl, ht⟩) (fun q hq => nomatch hq) dExp_requireGate_25
    · have hm := sx_neg c2 hm
      cases hm
set_option maxHeartbeats 4000000 in
set_option maxRecDepth 100000 in
theorem kt_Exp_requireGate (l : Launch) (hnt : l.stackTraces = false) (dC : Nat → ClassId) (dI : Nat → Nat → Nat) (cI cL cZ : ClassId) (t1 t2 : Nat) (h_net a_net_sorts a_net_ranks a_net_starts a_net_literals a_net_nextLiterals a_net_outputs h_exp h_tab h_wlk h_par : Nat) (net_gateTotal net_inputTotal net_latchTotal net_outputTotal exp_explored : Int32) (sz : Nat) (p0 : Int32) (k : Nat) (hm : m_Exp_requireGate net_gateTotal p0 = some (.inl k)) : sx_Thr l yExp_requireGate wsExp_requireGate rmt_Exp_requireGate (sx_Pc (dC, dI) [(cI, .int), (cL, .long), (cZ, .boolean)] t1 t2 [(h_net, .inr (0, [.ref a_net_sorts, .ref a_net_ranks, .ref a_net_starts, .ref a_net_literals, .ref a_net_nextLiterals, .ref a_net_outputs, .int net_gateTotal, .int net_inputTotal, .int net_latchTotal, .int net_outputTotal])), (h_exp, .inr (4, [.ref h_net, .ref h_tab, .ref h_wlk, .ref h_par, .int exp_explored]))] sz [.ref h_exp, .int p0]) (sx_E k) 1 6 := by
  refine sx_thrOf (cc := cExp_requireGate) (maxL := 2) (ret := none) (by decide) rfl ?_
  intro p e s m args below meth c s₁ B hml hnx hv
  obtain ⟨rfl, hsz, hP, hK, hD0, hX⟩ := hv
  have hx := B.exec
  have hb := B.bytes
  have hr := B.returns
  have hts0 := atoms_spec (ws := wsExp_requireGate) B.pre
  have hts : ∀ w ∈ tb, w.before _ s = true := fun w h => hts0 w (List.mem_cons_of_mem _ h)
  have hown : s.vm.findClass "StateExplorer" = some m.cls := findClass_of_methodNamed B.named
  have hlocks := B.notSynchronized
  subst hsz
  have hD := hD0.self (sz := s.heap.size)
  generalize hAe : va_A [(h_net, .inr (0, [.ref a_net_sorts, .ref a_net_ranks, .ref a_net_starts, .ref a_net_literals, .ref a_net_nextLiterals, .ref a_net_outputs, .int net_gateTotal, .int net_inputTotal, .int net_latchTotal, .int net_outputTotal])), (h_exp, .inr (4, [.ref h_net, .ref h_tab, .ref h_wlk, .ref h_par, .int exp_explored]))] s.heap.size = A at hD hX 
  have hA : ∀ q : Nat, s.heap.size ≤ q → A q := fun q h => by rw [← hAe]; exact Or.inr h
  have hS : va_S A s.heap s.heap [] := va_S.rf
  have hl := lv_entry ([.ref h_exp, .int p0]) (n := 2) (Nat.le_of_ble_eq_true rfl)
  rw [lg_entry_eq]
  generalize (lg_sl ([.ref h_exp, .int p0]) ++ List.replicate (2 - (lg_sl ([.ref h_exp, .int p0])).length) Slot.unset).toArray = ls at hl ⊢
  have hl : lv_has ls 2 [(0, .ref h_exp), (1, .int p0)] := hl
  have C0 : sx_C p s m _ meth c cExp_requireGate 2 "StateExplorer" A (dC, dI) [(cI, .int), (cL, .long), (cZ, .boolean)] t1 t2 := ⟨hx, hb, hml, hown, hts, hA, hK, hlocks, hX⟩
  rw [m_Exp_requireGate] at hm
  refine lv_iload_n hx hb dExp_requireGate_0 rfl (lv_at hl 1 rfl) ?_
  refine lv_if_lt (tgt := 15) hx hb dExp_requireGate_1 (by decide) (fun c1 => ?_) (fun c1 => ?_)
  · have hm := sx_pos c1 hm
    obtain rfl := Sum.inl.inj (Option.some.inj hm)
    exact sx_throwS (cls := "java/lang/IndexOutOfBoundsException") (text := "there is no such gate") (names := ["java/lang/RuntimeException", "java/lang/Exception"]) hx hb hnt hown (by decide +kernel) (by decide +kernel) (hts _ tw_458) (hts _ tw_46) (hts _ tw_459) (hX.2.2.2.2.2.2.2.1 ("StateExplorer", 169, "there is no such gate") (by decide +kernel)) (sx_own hts hX sx_og_118 sx_on_118) (hl.1.trans hml.symm) dExp_requireGate_15 dExp_requireGate_18 dExp_requireGate_19 dExp_requireGate_21 dExp_requireGate_24 hnx hlocks (Nat.le_of_ble_eq_true rfl) (Nat.le_of_ble_eq_true rfl) (Nat.le_of_ble_eq_true rfl) (Nat.le_of_ble_eq_true rfl) (Nat.le_of_ble_eq_true rfl) (Nat.le_of_ble_eq_true rfl)
  · have hm := sx_neg c1 hm
    refine lv_iload_n hx hb dExp_requireGate_4 rfl (lv_at hl 1 rfl) ?_
    refine lv_aload_n hx hb dExp_requireGate_5 rfl (lv_at hl 0 rfl) ?_
    refine va_get (D := (dC, dI)) (ci := 4) (v := .ref h_net) (C := RExp) (T := TExp) (N := 5) hx hb hts inExp hown hK hP 1 rfl rfl 0 (by decide) (hts _ tw_193) (fun _ h9 => h9) rfl dExp_requireGate_6 ?_
    refine va_get (D := (dC, dI)) (ci := 0) (v := .int net_gateTotal) (C := RNet) (T := TNet) (N := 10) hx hb hts inNet hown hK hP 0 rfl rfl 6 (by decide) (hts _ tw_77) (fun _ h9 => h9) rfl dExp_requireGate_9 ?_
    refine lv_icmp_lt (tgt := 25) hx hb dExp_requireGate_12 (by decide) (fun c2 => ?_) (fun c2 => ?_)
    · have hm := sx_pos c2 hm
      cases hm
    · have hm := sx_neg c2 hm
      obtain rfl := Sum.inl.inj (Option.some.inj hm)
      exact sx_throwS (cls := "java/lang/IndexOutOfBoundsException") (text := "there is no such gate") (names := ["java/lang/RuntimeException", "java/lang/Exception"]) hx hb hnt hown (by decide +kernel) (by decide +kernel) (hts _ tw_458) (hts _ tw_46) (hts _ tw_459) (hX.2.2.2.2.2.2.2.1 ("StateExplorer", 169, "there is no such gate") (by decide +kernel)) (sx_own hts hX sx_og_118 sx_on_118) (hl.1.trans hml.symm) dExp_requireGate_15 dExp_requireGate_18 dExp_requireGate_19 dExp_requireGate_21 dExp_requireGate_24 hnx hlocks (Nat.le_of_ble_eq_true rfl) (Nat.le_of_ble_eq_true rfl) (Nat.le_of_ble_eq_true rfl) (Nat.le_of_ble_eq_true rfl) (Nat.le_of_ble_eq_true rfl) (Nat.le_of_ble_eq_true rfl)
noncomputable def m_Exp_requireState (net_latchTotal : Int32) (p0 : Int32) : Option (Nat ⊕ (Unit)) := (if p0 < (0 : Int32) then some (.inl 2) else (m_Net_stateTotal net_latchTotal).bind (fun v2 => (if p0 < v2 then some (.inr ()) else some (.inl 2))))
def rm_Exp_requireState : Room := { frames := 1, cells := 0, slots := 0, locals := 20 }
def rmt_Exp_requireState : Room := { frames := 6, cells := 1, slots := 6, locals := 100 }
set_option maxHeartbeats 4000000 in
set_option maxRecDepth 100000 in
theorem k_Exp_requireState (l : Launch) (dC : Nat → ClassId) (dI : Nat → Nat → Nat) (cI cL cZ : ClassId) (t1 t2 : Nat) (h_net a_net_sorts a_net_ranks a_net_starts a_net_literals a_net_nextLiterals a_net_outputs h_exp h_tab h_wlk h_par : Nat) (net_gateTotal net_inputTotal net_latchTotal net_outputTotal exp_explored : Int32) (sz : Nat) (p0 : Int32) (v : Unit) (hm : m_Exp_requireState net_latchTotal p0 = some (.inr v)) : Met l yExp_requireState wsExp_requireState rm_Exp_requireState (sx_Pc (dC, dI) [(cI, .int), (cL, .long), (cZ, .boolean)] t1 t2 [(h_net, .inr (0, [.ref a_net_sorts, .ref a_net_ranks, .ref a_net_starts, .ref a_net_literals, .ref a_net_nextLiterals, .ref a_net_outputs, .int net_gateTotal, .int net_inputTotal, .int net_latchTotal, .int net_outputTotal])), (h_exp, .inr (4, [.ref h_net, .ref h_tab, .ref h_wlk, .ref h_par, .int exp_explored]))] sz [.ref h_exp, .int p0]) (sx_Sv) 0 0 (fun _ => False) := by
  refine Met.ofW (cc := cExp_requireState) (maxL := 2) (ret := none) (by decide) rfl ?_
  intro p e s m args below meth c s₁ B hml hv
  obtain ⟨rfl, hsz, hP, hK, hD0, hX⟩ := hv
  have hx := B.exec
  have hb := B.bytes
  have hr := B.returns
  have hts0 := atoms_spec (ws := wsExp_requireState) B.pre
  have hts : ∀ w ∈ tb, w.before _ s = true := fun w h => hts0 w (List.mem_cons_of_mem _ h)
  have hown : s.vm.findClass "StateExplorer" = some m.cls := findClass_of_methodNamed B.named
  have hlocks := B.notSynchronized
  subst hsz
  have hD := hD0.self (sz := s.heap.size)
  generalize hAe : va_A [(h_net, .inr (0, [.ref a_net_sorts, .ref a_net_ranks, .ref a_net_starts, .ref a_net_literals, .ref a_net_nextLiterals, .ref a_net_outputs, .int net_gateTotal, .int net_inputTotal, .int net_latchTotal, .int net_outputTotal])), (h_exp, .inr (4, [.ref h_net, .ref h_tab, .ref h_wlk, .ref h_par, .int exp_explored]))] s.heap.size = A at hD hX 
  have hA : ∀ q : Nat, s.heap.size ≤ q → A q := fun q h => by rw [← hAe]; exact Or.inr h
  have hS : va_S A s.heap s.heap [] := va_S.rf
  have hl := lv_entry ([.ref h_exp, .int p0]) (n := 2) (Nat.le_of_ble_eq_true rfl)
  rw [lg_entry_eq]
  generalize (lg_sl ([.ref h_exp, .int p0]) ++ List.replicate (2 - (lg_sl ([.ref h_exp, .int p0])).length) Slot.unset).toArray = ls at hl ⊢
  have hl : lv_has ls 2 [(0, .ref h_exp), (1, .int p0)] := hl
  have C0 : sx_C p s m _ meth c cExp_requireState 2 "StateExplorer" A (dC, dI) [(cI, .int), (cL, .long), (cZ, .boolean)] t1 t2 := ⟨hx, hb, hml, hown, hts, hA, hK, hlocks, hX⟩
  rw [m_Exp_requireState] at hm
  refine lv_iload_n hx hb dExp_requireState_0 rfl (lv_at hl 1 rfl) ?_
  refine lv_if_lt (tgt := 15) hx hb dExp_requireState_1 (by decide) (fun c1 => ?_) (fun c1 => ?_)
  · have hm := sx_pos c1 hm
    cases hm
  · have hm := sx_neg c1 hm
    refine lv_iload_n hx hb dExp_requireState_4 rfl (lv_at hl 1 rfl) ?_
    refine lv_aload_n hx hb dExp_requireState_5 rfl (lv_at hl 0 rfl) ?_
    refine va_get (D := (dC, dI)) (ci := 4) (v := .ref h_net) (C := RExp) (T := TExp) (N := 5) hx hb hts inExp hown hK hP 1 rfl rfl 0 (by decide) (hts _ tw_193) (fun _ h9 => h9) rfl dExp_requireState_6 ?_
    obtain ⟨v2, hv2, hm⟩ := sx_bind hm
    have hPc := hP.sub (ws' := [(h_net, .inr (0, [.ref a_net_sorts, .ref a_net_ranks, .ref a_net_starts, .ref a_net_literals, .ref a_net_nextLiterals, .ref a_net_outputs, .int net_gateTotal, .int net_inputTotal, .int net_latchTotal, .int net_outputTotal]))]) [0] rfl
    have hDc := hD.sub (ws' := [(h_net, .inr (0, [.ref a_net_sorts, .ref a_net_ranks, .ref a_net_starts, .ref a_net_literals, .ref a_net_nextLiterals, .ref a_net_outputs, .int net_gateTotal, .int net_inputTotal, .int net_latchTotal, .int net_outputTotal]))]) [0] (by decide) rfl
    have hFc := va_free (wc := [(h_net, .inr (0, [.ref a_net_sorts, .ref a_net_ranks, .ref a_net_starts, .ref a_net_literals, .ref a_net_nextLiterals, .ref a_net_outputs, .int net_gateTotal, .int net_inputTotal, .int net_latchTotal, .int net_outputTotal]))]) hD hS hA [0] rfl
    refine sx_stI (va_runV (As := []) (rest := [.int p0]) ⟨hx, hb, hml, hown, hts⟩ (k_Net_stateTotal l dC dI cI cL cZ t1 t2 h_net a_net_sorts a_net_ranks a_net_starts a_net_literals a_net_nextLiterals a_net_outputs net_gateTotal net_inputTotal net_latchTotal net_outputTotal _ v2 hv2) (cwV 0 hts (sx_gV tw_531 tw_230 tw_231 tw_37 tcNet_stateTotal) rfl rfl rfl (by decide +kernel) ⟨Nat.le_of_ble_eq_true rfl, Nat.le_of_ble_eq_true rfl⟩) (sx_pV hK hX hS hPc hDc hFc (va_recv hK hPc (ci := 0) (q0 := 0) rfl rfl)) rfl rfl hl.1 rfl (lv_room (Nat.le_of_ble_eq_true rfl)) dExp_requireState_9 ⟨Nat.le_of_ble_eq_true rfl, Nat.le_of_ble_eq_true rfl⟩) ?_
    refine lv_icmp_lt (tgt := 25) hx hb dExp_requireState_12 (by decide) (fun c4 => ?_) (fun c4 => ?_)
    · have hm := sx_pos c4 hm
      obtain rfl := Sum.inr.inj (Option.some.inj hm)
      exact W.vret hx hb hr (fun t ht hW => ⟨rfl, ht⟩) (fun q hq => nomatch hq) dExp_requireState_25
    · have hm := sx_neg c4 hm
      cases hm
set_option maxHeartbeats 4000000 in
set_option maxRecDepth 100000 in
theorem kt_Exp_requireState (l : Launch) (hnt : l.stackTraces = false) (dC : Nat → ClassId) (dI : Nat → Nat → Nat) (cI cL cZ : ClassId) (t1 t2 : Nat) (h_net a_net_sorts a_net_ranks a_net_starts a_net_literals a_net_nextLiterals a_net_outputs h_exp h_tab h_wlk h_par : Nat) (net_gateTotal net_inputTotal net_latchTotal net_outputTotal exp_explored : Int32) (sz : Nat) (p0 : Int32) (k : Nat) (hm : m_Exp_requireState net_latchTotal p0 = some (.inl k)) : sx_Thr l yExp_requireState wsExp_requireState rmt_Exp_requireState (sx_Pc (dC, dI) [(cI, .int), (cL, .long), (cZ, .boolean)] t1 t2 [(h_net, .inr (0, [.ref a_net_sorts, .ref a_net_ranks, .ref a_net_starts, .ref a_net_literals, .ref a_net_nextLiterals, .ref a_net_outputs, .int net_gateTotal, .int net_inputTotal, .int net_latchTotal, .int net_outputTotal])), (h_exp, .inr (4, [.ref h_net, .ref h_tab, .ref h_wlk, .ref h_par, .int exp_explored]))] sz [.ref h_exp, .int p0]) (sx_E k) 1 6 := by
  refine sx_thrOf (cc := cExp_requireState) (maxL := 2) (ret := none) (by decide) rfl ?_
  intro p e s m args below meth c s₁ B hml hnx hv
  obtain ⟨rfl, hsz, hP, hK, hD0, hX⟩ := hv
  have hx := B.exec
  have hb := B.bytes
  have hr := B.returns
  have hts0 := atoms_spec (ws := wsExp_requireState) B.pre
  have hts : ∀ w ∈ tb, w.before _ s = true := fun w h => hts0 w (List.mem_cons_of_mem _ h)
  have hown : s.vm.findClass "StateExplorer" = some m.cls := findClass_of_methodNamed B.named
  have hlocks := B.notSynchronized
  subst hsz
  have hD := hD0.self (sz := s.heap.size)
  generalize hAe : va_A [(h_net, .inr (0, [.ref a_net_sorts, .ref a_net_ranks, .ref a_net_starts, .ref a_net_literals, .ref a_net_nextLiterals, .ref a_net_outputs, .int net_gateTotal, .int net_inputTotal, .int net_latchTotal, .int net_outputTotal])), (h_exp, .inr (4, [.ref h_net, .ref h_tab, .ref h_wlk, .ref h_par, .int exp_explored]))] s.heap.size = A at hD hX 
  have hA : ∀ q : Nat, s.heap.size ≤ q → A q := fun q h => by rw [← hAe]; exact Or.inr h
  have hS : va_S A s.heap s.heap [] := va_S.rf
  have hl := lv_entry ([.ref h_exp, .int p0]) (n := 2) (Nat.le_of_ble_eq_true rfl)
  rw [lg_entry_eq]
  generalize (lg_sl ([.ref h_exp, .int p0]) ++ List.replicate (2 - (lg_sl ([.ref h_exp, .int p0])).length) Slot.unset).toArray = ls at hl ⊢
  have hl : lv_has ls 2 [(0, .ref h_exp), (1, .int p0)] := hl
  have C0 : sx_C p s m _ meth c cExp_requireState 2 "StateExplorer" A (dC, dI) [(cI, .int), (cL, .long), (cZ, .boolean)] t1 t2 := ⟨hx, hb, hml, hown, hts, hA, hK, hlocks, hX⟩
  rw [m_Exp_requireState] at hm
  refine lv_iload_n hx hb dExp_requireState_0 rfl (lv_at hl 1 rfl) ?_
  refine lv_if_lt (tgt := 15) hx hb dExp_requireState_1 (by decide) (fun c1 => ?_) (fun c1 => ?_)
  · have hm := sx_pos c1 hm
    obtain rfl := Sum.inl.inj (Option.some.inj hm)
    exact sx_throwS (cls := "java/lang/IndexOutOfBoundsException") (text := "there is no such state") (names := ["java/lang/RuntimeException", "java/lang/Exception"]) hx hb hnt hown (by decide +kernel) (by decide +kernel) (hts _ tw_458) (hts _ tw_46) (hts _ tw_459) (hX.2.2.2.2.2.2.2.1 ("StateExplorer", 174, "there is no such state") (by decide +kernel)) (sx_own hts hX sx_og_118 sx_on_118) (hl.1.trans hml.symm) dExp_requireState_15 dExp_requireState_18 dExp_requireState_19 dExp_requireState_21 dExp_requireState_24 hnx hlocks (Nat.le_of_ble_eq_true rfl) (Nat.le_of_ble_eq_true rfl) (Nat.le_of_ble_eq_true rfl) (Nat.le_of_ble_eq_true rfl) (Nat.le_of_ble_eq_true rfl) (Nat.le_of_ble_eq_true rfl)
  · have hm := sx_neg c1 hm
    refine lv_iload_n hx hb dExp_requireState_4 rfl (lv_at hl 1 rfl) ?_
    refine lv_aload_n hx hb dExp_requireState_5 rfl (lv_at hl 0 rfl) ?_
    refine va_get (D := (dC, dI)) (ci := 4) (v := .ref h_net) (C := RExp) (T := TExp) (N := 5) hx hb hts inExp hown hK hP 1 rfl rfl 0 (by decide) (hts _ tw_193) (fun _ h9 => h9) rfl dExp_requireState_6 ?_
    obtain ⟨v2, hv2, hm⟩ := sx_bind hm
    have hPc := hP.sub (ws' := [(h_net, .inr (0, [.ref a_net_sorts, .ref a_net_ranks, .ref a_net_starts, .ref a_net_literals, .ref a_net_nextLiterals, .ref a_net_outputs, .int net_gateTotal, .int net_inputTotal, .int net_latchTotal, .int net_outputTotal]))]) [0] rfl
    have hDc := hD.sub (ws' := [(h_net, .inr (0, [.ref a_net_sorts, .ref a_net_ranks, .ref a_net_starts, .ref a_net_literals, .ref a_net_nextLiterals, .ref a_net_outputs, .int net_gateTotal, .int net_inputTotal, .int net_latchTotal, .int net_outputTotal]))]) [0] (by decide) rfl
    have hFc := va_free (wc := [(h_net, .inr (0, [.ref a_net_sorts, .ref a_net_ranks, .ref a_net_starts, .ref a_net_literals, .ref a_net_nextLiterals, .ref a_net_outputs, .int net_gateTotal, .int net_inputTotal, .int net_latchTotal, .int net_outputTotal]))]) hD hS hA [0] rfl
    refine sx_stI (va_runV (As := []) (rest := [.int p0]) ⟨hx, hb, hml, hown, hts⟩ (k_Net_stateTotal l dC dI cI cL cZ t1 t2 h_net a_net_sorts a_net_ranks a_net_starts a_net_literals a_net_nextLiterals a_net_outputs net_gateTotal net_inputTotal net_latchTotal net_outputTotal _ v2 hv2) (cwV 0 hts (sx_gV tw_531 tw_230 tw_231 tw_37 tcNet_stateTotal) rfl rfl rfl (by decide +kernel) ⟨Nat.le_of_ble_eq_true rfl, Nat.le_of_ble_eq_true rfl⟩) (sx_pV hK hX hS hPc hDc hFc (va_recv hK hPc (ci := 0) (q0 := 0) rfl rfl)) rfl rfl hl.1 rfl (lv_room (Nat.le_of_ble_eq_true rfl)) dExp_requireState_9 ⟨Nat.le_of_ble_eq_true rfl, Nat.le_of_ble_eq_true rfl⟩) ?_
    refine lv_icmp_lt (tgt := 25) hx hb dExp_requireState_12 (by decide) (fun c4 => ?_) (fun c4 => ?_)
    · have hm := sx_pos c4 hm
      cases hm
    · have hm := sx_neg c4 hm
      obtain rfl := Sum.inl.inj (Option.some.inj hm)
      exact sx_throwS (cls := "java/lang/IndexOutOfBoundsException") (text := "there is no such state") (names := ["java/lang/RuntimeException", "java/lang/Exception"]) hx hb hnt hown (by decide +kernel) (by decide +kernel) (hts _ tw_458) (hts _ tw_46) (hts _ tw_459) (hX.2.2.2.2.2.2.2.1 ("StateExplorer", 174, "there is no such state") (by decide +kernel)) (sx_own hts hX sx_og_118 sx_on_118) (hl.1.trans hml.symm) dExp_requireState_15 dExp_requireState_18 dExp_requireState_19 dExp_requireState_21 dExp_requireState_24 hnx hlocks (Nat.le_of_ble_eq_true rfl) (Nat.le_of_ble_eq_true rfl) (Nat.le_of_ble_eq_true rfl) (Nat.le_of_ble_eq_true rfl) (Nat.le_of_ble_eq_true rfl) (Nat.le_of_ble_eq_true rfl)
noncomputable def m_Exp_gate (net_sorts net_ranks net_starts net_nextLiterals : Nat → Int32) (net_gateTotal net_inputTotal net_latchTotal exp_explored : Int32) (p0 : Int32) : Option (Nat ⊕ (Int32 × (Nat → Int32) × (Nat → Int32) × (Nat → Int32) × (Nat → Int32) × Int32 × Int32 × Int32 × Int32)) := (if p0 < (0 : Int32) then some (.inl 0) else (if p0 ≤ (3 : Int32) then (m_Net_isFullFor net_gateTotal net_inputTotal net_latchTotal p0).bind (fun v3 => (if v3 = (0 : Int32) then (m_Net_addGate net_sorts net_ranks net_starts net_nextLiterals net_gateTotal net_inputTotal net_latchTotal p0).bind (fun v6 => some (.inr (v6.1, v6.2.1, v6.2.2.1, v6.2.2.2.1, v6.2.2.2.2.1, v6.2.2.2.2.2.1, v6.2.2.2.2.2.2.1, v6.2.2.2.2.2.2.2, (0 : Int32)))) else some (.inr ((-1 : Int32), net_sorts, net_ranks, net_starts, net_nextLiterals, net_gateTotal, net_inputTotal, net_latchTotal, exp_explored)))) else some (.inl 0)))
def rm_Exp_gate : Room := { frames := 1, cells := 0, slots := 0, locals := 22 }
def rmt_Exp_gate : Room := { frames := 6, cells := 1, slots := 6, locals := 100 }
set_option maxHeartbeats 4000000 in
set_option maxRecDepth 100000 in
theorem k_Exp_gate (l : Launch) (dC : Nat → ClassId) (dI : Nat → Nat → Nat) (cI cL cZ : ClassId) (t1 t2 : Nat) (h_net a_net_sorts a_net_ranks a_net_starts a_net_literals a_net_nextLiterals a_net_outputs h_exp h_tab h_wlk h_par : Nat) (net_sorts net_ranks net_starts net_nextLiterals : Nat → Int32) (net_gateTotal net_inputTotal net_latchTotal net_outputTotal exp_explored : Int32) (sz : Nat) (p0 : Int32) (v : Int32 × (Nat → Int32) × (Nat → Int32) × (Nat → Int32) × (Nat → Int32) × Int32 × Int32 × Int32 × Int32) (hm : m_Exp_gate net_sorts net_ranks net_starts net_nextLiterals net_gateTotal net_inputTotal net_latchTotal exp_explored p0 = some (.inr v)) : Met l yExp_gate wsExp_gate rm_Exp_gate (sx_Pc (dC, dI) [(cI, .int), (cL, .long), (cZ, .boolean)] t1 t2 [(h_net, .inr (0, [.ref a_net_sorts, .ref a_net_ranks, .ref a_net_starts, .ref a_net_literals, .ref a_net_nextLiterals, .ref a_net_outputs, .int net_gateTotal, .int net_inputTotal, .int net_latchTotal, .int net_outputTotal])), (h_exp, .inr (4, [.ref h_net, .ref h_tab, .ref h_wlk, .ref h_par, .int exp_explored])), (a_net_sorts, .inl (cI, 60, .inl net_sorts)), (a_net_ranks, .inl (cI, 60, .inl net_ranks)), (a_net_starts, .inl (cI, 61, .inl net_starts)), (a_net_nextLiterals, .inl (cI, 8, .inl net_nextLiterals))] sz [.ref h_exp, .int p0]) (va_Qi (fun (r : Int32) (_ : Unit) => r = v.1) (fun _ t => sx_W (dC, dI) [(cI, .int), (cL, .long), (cZ, .boolean)] (va_A [(h_net, .inr (0, [.ref a_net_sorts, .ref a_net_ranks, .ref a_net_starts, .ref a_net_literals, .ref a_net_nextLiterals, .ref a_net_outputs, .int net_gateTotal, .int net_inputTotal, .int net_latchTotal, .int net_outputTotal])), (h_exp, .inr (4, [.ref h_net, .ref h_tab, .ref h_wlk, .ref h_par, .int exp_explored])), (a_net_sorts, .inl (cI, 60, .inl net_sorts)), (a_net_ranks, .inl (cI, 60, .inl net_ranks)), (a_net_starts, .inl (cI, 61, .inl net_starts)), (a_net_nextLiterals, .inl (cI, 8, .inl net_nextLiterals))] sz) [(h_net, .inr (0, [.ref a_net_sorts, .ref a_net_ranks, .ref a_net_starts, .ref a_net_literals, .ref a_net_nextLiterals, .ref a_net_outputs, .int v.2.2.2.2.2.1, .int v.2.2.2.2.2.2.1, .int v.2.2.2.2.2.2.2.1, .int net_outputTotal])), (h_exp, .inr (4, [.ref h_net, .ref h_tab, .ref h_wlk, .ref h_par, .int v.2.2.2.2.2.2.2.2])), (a_net_sorts, .inl (cI, 60, .inl v.2.1)), (a_net_ranks, .inl (cI, 60, .inl v.2.2.1)), (a_net_starts, .inl (cI, 61, .inl v.2.2.2.1)), (a_net_nextLiterals, .inl (cI, 8, .inl v.2.2.2.2.1))] t) (va_A [(h_net, .inr (0, [.ref a_net_sorts, .ref a_net_ranks, .ref a_net_starts, .ref a_net_literals, .ref a_net_nextLiterals, .ref a_net_outputs, .int net_gateTotal, .int net_inputTotal, .int net_latchTotal, .int net_outputTotal])), (h_exp, .inr (4, [.ref h_net, .ref h_tab, .ref h_wlk, .ref h_par, .int exp_explored])), (a_net_sorts, .inl (cI, 60, .inl net_sorts)), (a_net_ranks, .inl (cI, 60, .inl net_ranks)), (a_net_starts, .inl (cI, 61, .inl net_starts)), (a_net_nextLiterals, .inl (cI, 8, .inl net_nextLiterals))] sz)) 0 0 (va_A [(h_net, .inr (0, [.ref a_net_sorts, .ref a_net_ranks, .ref a_net_starts, .ref a_net_literals, .ref a_net_nextLiterals, .ref a_net_outputs, .int net_gateTotal, .int net_inputTotal, .int net_latchTotal, .int net_outputTotal])), (h_exp, .inr (4, [.ref h_net, .ref h_tab, .ref h_wlk, .ref h_par, .int exp_explored])), (a_net_sorts, .inl (cI, 60, .inl net_sorts)), (a_net_ranks, .inl (cI, 60, .inl net_ranks)), (a_net_starts, .inl (cI, 61, .inl net_starts)), (a_net_nextLiterals, .inl (cI, 8, .inl net_nextLiterals))] sz) := by
  refine Met.ofW (cc := cExp_gate) (maxL := 2) (ret := (some .int)) (by decide) rfl ?_
  intro p e s m args below meth c s₁ B hml hv
  obtain ⟨rfl, hsz, hP, hK, hD0, hX⟩ := hv
  have hx := B.exec
  have hb := B.bytes
  have hr := B.returns
  have hts0 := atoms_spec (ws := wsExp_gate) B.pre
  have hts : ∀ w ∈ tb, w.before _ s = true := fun w h => hts0 w (List.mem_cons_of_mem _ h)
  have hown : s.vm.findClass "StateExplorer" = some m.cls := findClass_of_methodNamed B.named
  have hlocks := B.notSynchronized
  subst hsz
  have hD := hD0.self (sz := s.heap.size)
  generalize hAe : va_A [(h_net, .inr (0, [.ref a_net_sorts, .ref a_net_ranks, .ref a_net_starts, .ref a_net_literals, .ref a_net_nextLiterals, .ref a_net_outputs, .int net_gateTotal, .int net_inputTotal, .int net_latchTotal, .int net_outputTotal])), (h_exp, .inr (4, [.ref h_net, .ref h_tab, .ref h_wlk, .ref h_par, .int exp_explored])), (a_net_sorts, .inl (cI, 60, .inl net_sorts)), (a_net_ranks, .inl (cI, 60, .inl net_ranks)), (a_net_starts, .inl (cI, 61, .inl net_starts)), (a_net_nextLiterals, .inl (cI, 8, .inl net_nextLiterals))] s.heap.size = A at hD hX ⊢
  have hA : ∀ q : Nat, s.heap.size ≤ q → A q := fun q h => by rw [← hAe]; exact Or.inr h
  have hS : va_S A s.heap s.heap [] := va_S.rf
  have hl := lv_entry ([.ref h_exp, .int p0]) (n := 2) (Nat.le_of_ble_eq_true rfl)
  rw [lg_entry_eq]
  generalize (lg_sl ([.ref h_exp, .int p0]) ++ List.replicate (2 - (lg_sl ([.ref h_exp, .int p0])).length) Slot.unset).toArray = ls at hl ⊢
  have hl : lv_has ls 2 [(0, .ref h_exp), (1, .int p0)] := hl
  have C0 : sx_C p s m _ meth c cExp_gate 2 "StateExplorer" A (dC, dI) [(cI, .int), (cL, .long), (cZ, .boolean)] t1 t2 := ⟨hx, hb, hml, hown, hts, hA, hK, hlocks, hX⟩
  rw [m_Exp_gate] at hm
  refine lv_iload_n hx hb dExp_gate_0 rfl (lv_at hl 1 rfl) ?_
  refine lv_if_lt (tgt := 9) hx hb dExp_gate_1 (by decide) (fun c1 => ?_) (fun c1 => ?_)
  · have hm := sx_pos c1 hm
    cases hm
  · have hm := sx_neg c1 hm
    refine lv_iload_n hx hb dExp_gate_4 rfl (lv_at hl 1 rfl) ?_
    refine lv_iconst (v := (3 : Int32)) hx hb dExp_gate_5 (by decide) ?_
    refine lv_icmp_le (tgt := 19) hx hb dExp_gate_6 (by decide) (fun c2 => ?_) (fun c2 => ?_)
    · have hm := sx_pos c2 hm
      refine lv_aload_n hx hb dExp_gate_19 rfl (lv_at hl 0 rfl) ?_
      refine va_get (D := (dC, dI)) (ci := 4) (v := .ref h_net) (C := RExp) (T := TExp) (N := 5) hx hb hts inExp hown hK hP 1 rfl rfl 0 (by decide) (hts _ tw_193) (fun _ h9 => h9) rfl dExp_gate_20 ?_
      refine lv_iload_n hx hb dExp_gate_23 rfl (lv_at hl 1 rfl) ?_
      obtain ⟨v3, hv3, hm⟩ := sx_bind hm
      have hPc := hP.sub (ws' := [(h_net, .inr (0, [.ref a_net_sorts, .ref a_net_ranks, .ref a_net_starts, .ref a_net_literals, .ref a_net_nextLiterals, .ref a_net_outputs, .int net_gateTotal, .int net_inputTotal, .int net_latchTotal, .int net_outputTotal]))]) [0] rfl
      have hDc := hD.sub (ws' := [(h_net, .inr (0, [.ref a_net_sorts, .ref a_net_ranks, .ref a_net_starts, .ref a_net_literals, .ref a_net_nextLiterals, .ref a_net_outputs, .int net_gateTotal, .int net_inputTotal, .int net_latchTotal, .int net_outputTotal]))]) [0] (by decide) rfl
      have hFc := va_free (wc := [(h_net, .inr (0, [.ref a_net_sorts, .ref a_net_ranks, .ref a_net_starts, .ref a_net_literals, .ref a_net_nextLiterals, .ref a_net_outputs, .int net_gateTotal, .int net_inputTotal, .int net_latchTotal, .int net_outputTotal]))]) hD hS hA [0] rfl
      refine sx_stI (va_runV (As := [.int p0]) (rest := []) ⟨hx, hb, hml, hown, hts⟩ (k_Net_isFullFor l dC dI cI cL cZ t1 t2 h_net a_net_sorts a_net_ranks a_net_starts a_net_literals a_net_nextLiterals a_net_outputs net_gateTotal net_inputTotal net_latchTotal net_outputTotal _ p0 v3 hv3) (cwV 1 hts (sx_gV tw_437 tw_438 tw_439 tw_37 tcNet_isFullFor) rfl rfl rfl (by decide +kernel) ⟨Nat.le_of_ble_eq_true rfl, Nat.le_of_ble_eq_true rfl⟩) (sx_pV hK hX hS hPc hDc hFc (va_recv hK hPc (ci := 0) (q0 := 0) rfl rfl)) rfl rfl hl.1 rfl (lv_room (Nat.le_of_ble_eq_true rfl)) dExp_gate_24 ⟨Nat.le_of_ble_eq_true rfl, Nat.le_of_ble_eq_true rfl⟩) ?_
      refine lv_if_eq (tgt := 32) hx hb dExp_gate_27 (by decide) (fun c5 => ?_) (fun c5 => ?_)
      · have hm := sx_pos c5 hm
        refine lv_aload_n hx hb dExp_gate_32 rfl (lv_at hl 0 rfl) ?_
        refine lv_iconst (v := (0 : Int32)) hx hb dExp_gate_33 (by decide) ?_
        refine va_put (D := (dC, dI)) (ci := 4) (v := .int (0 : Int32)) (ty := .boolean) (C := RExp) (T := TExp) (N := 5) hx hb hts inExp tyExp tyExp_ok nmExp hown hK hP hD hS 1 rfl rfl 4 (by decide) (hts _ tw_197) (fun _ h9 => h9) rfl (by decide +kernel) (by decide) (by decide) (Nat.le_of_ble_eq_true rfl) dExp_gate_34 (fun H locs hP hD hS => ?_)
        have hP : va_P (dC, dI) vwCl [(h_net, .inr (0, [.ref a_net_sorts, .ref a_net_ranks, .ref a_net_starts, .ref a_net_literals, .ref a_net_nextLiterals, .ref a_net_outputs, .int net_gateTotal, .int net_inputTotal, .int net_latchTotal, .int net_outputTotal])), (h_exp, .inr (4, [.ref h_net, .ref h_tab, .ref h_wlk, .ref h_par, .int (0 : Int32)])), (a_net_sorts, .inl (cI, 60, .inl net_sorts)), (a_net_ranks, .inl (cI, 60, .inl net_ranks)), (a_net_starts, .inl (cI, 61, .inl net_starts)), (a_net_nextLiterals, .inl (cI, 8, .inl net_nextLiterals))] H := hP
        have hD : va_D A [(h_net, .inr (0, [.ref a_net_sorts, .ref a_net_ranks, .ref a_net_starts, .ref a_net_literals, .ref a_net_nextLiterals, .ref a_net_outputs, .int net_gateTotal, .int net_inputTotal, .int net_latchTotal, .int net_outputTotal])), (h_exp, .inr (4, [.ref h_net, .ref h_tab, .ref h_wlk, .ref h_par, .int (0 : Int32)])), (a_net_sorts, .inl (cI, 60, .inl net_sorts)), (a_net_ranks, .inl (cI, 60, .inl net_ranks)), (a_net_starts, .inl (cI, 61, .inl net_starts)), (a_net_nextLiterals, .inl (cI, 8, .inl net_nextLiterals))] := hD
        refine lv_aload_n hx hb dExp_gate_37 rfl (lv_at hl 0 rfl) ?_
        refine va_get (D := (dC, dI)) (ci := 4) (v := .ref h_net) (C := RExp) (T := TExp) (N := 5) hx hb hts inExp hown hK hP 1 rfl rfl 0 (by decide) (hts _ tw_193) (fun _ h9 => h9) rfl dExp_gate_38 ?_
        refine lv_iload_n hx hb dExp_gate_41 rfl (lv_at hl 1 rfl) ?_
        obtain ⟨v6, hv6, hm⟩ := sx_bind hm
        have hPc := hP.sub (ws' := [(h_net, .inr (0, [.ref a_net_sorts, .ref a_net_ranks, .ref a_net_starts, .ref a_net_literals, .ref a_net_nextLiterals, .ref a_net_outputs, .int net_gateTotal, .int net_inputTotal, .int net_latchTotal, .int net_outputTotal])), (a_net_sorts, .inl (cI, 60, .inl net_sorts)), (a_net_ranks, .inl (cI, 60, .inl net_ranks)), (a_net_starts, .inl (cI, 61, .inl net_starts)), (a_net_nextLiterals, .inl (cI, 8, .inl net_nextLiterals))]) [0, 2, 3, 4, 5] rfl
        have hDc := hD.sub (ws' := [(h_net, .inr (0, [.ref a_net_sorts, .ref a_net_ranks, .ref a_net_starts, .ref a_net_literals, .ref a_net_nextLiterals, .ref a_net_outputs, .int net_gateTotal, .int net_inputTotal, .int net_latchTotal, .int net_outputTotal])), (a_net_sorts, .inl (cI, 60, .inl net_sorts)), (a_net_ranks, .inl (cI, 60, .inl net_ranks)), (a_net_starts, .inl (cI, 61, .inl net_starts)), (a_net_nextLiterals, .inl (cI, 8, .inl net_nextLiterals))]) [0, 2, 3, 4, 5] (by decide) rfl
        have hFc := va_free (wc := [(h_net, .inr (0, [.ref a_net_sorts, .ref a_net_ranks, .ref a_net_starts, .ref a_net_literals, .ref a_net_nextLiterals, .ref a_net_outputs, .int net_gateTotal, .int net_inputTotal, .int net_latchTotal, .int net_outputTotal])), (a_net_sorts, .inl (cI, 60, .inl net_sorts)), (a_net_ranks, .inl (cI, 60, .inl net_ranks)), (a_net_starts, .inl (cI, 61, .inl net_starts)), (a_net_nextLiterals, .inl (cI, 8, .inl net_nextLiterals))]) hD hS hA [0, 2, 3, 4, 5] rfl
        refine va_calli (va_runV (As := [.int p0]) (rest := []) ⟨hx, hb, hml, hown, hts⟩ (k_Net_addGate l dC dI cI cL cZ t1 t2 h_net a_net_sorts a_net_ranks a_net_starts a_net_literals a_net_nextLiterals a_net_outputs net_sorts net_ranks net_starts net_nextLiterals net_gateTotal net_inputTotal net_latchTotal net_outputTotal _ p0 v6 hv6) (cwV 1 hts (sx_gV tw_441 tw_442 tw_443 tw_37 tcNet_addGate) rfl rfl rfl (by decide +kernel) ⟨Nat.le_of_ble_eq_true rfl, Nat.le_of_ble_eq_true rfl⟩) (sx_pV hK hX hS hPc hDc hFc (va_recv hK hPc (ci := 0) (q0 := 0) rfl rfl)) rfl rfl hl.1 rfl (lv_room (Nat.le_of_ble_eq_true rfl)) dExp_gate_42 ⟨Nat.le_of_ble_eq_true rfl, Nat.le_of_ble_eq_true rfl⟩) hS (fun q _ h => hFc q h) hFc (fun r7 u_ t_ H locs ht hvm hw hB hz1 hk1 hS => ?_)
        obtain ⟨hP1, -, hD1⟩ := hB
        rw [ht] at hP1
        obtain ⟨hP, hD⟩ := va_join (wr := [(h_exp, .inr (4, [.ref h_net, .ref h_tab, .ref h_wlk, .ref h_par, .int (0 : Int32)]))]) (w1 := [(h_net, .inr (0, [.ref a_net_sorts, .ref a_net_ranks, .ref a_net_starts, .ref a_net_literals, .ref a_net_nextLiterals, .ref a_net_outputs, .int v6.2.2.2.2.2.1, .int v6.2.2.2.2.2.2.1, .int v6.2.2.2.2.2.2.2, .int net_outputTotal])), (a_net_sorts, .inl (cI, 60, .inl v6.2.1)), (a_net_ranks, .inl (cI, 60, .inl v6.2.2.1)), (a_net_starts, .inl (cI, 61, .inl v6.2.2.2.1)), (a_net_nextLiterals, .inl (cI, 8, .inl v6.2.2.2.2.1))]) hP hD [0, 2, 3, 4, 5] [1] rfl rfl (by decide) (by decide) hk1 hFc hP1 hD1
        have hP : va_P (dC, dI) vwCl [(h_exp, .inr (4, [.ref h_net, .ref h_tab, .ref h_wlk, .ref h_par, .int (0 : Int32)])), (h_net, .inr (0, [.ref a_net_sorts, .ref a_net_ranks, .ref a_net_starts, .ref a_net_literals, .ref a_net_nextLiterals, .ref a_net_outputs, .int v6.2.2.2.2.2.1, .int v6.2.2.2.2.2.2.1, .int v6.2.2.2.2.2.2.2, .int net_outputTotal])), (a_net_sorts, .inl (cI, 60, .inl v6.2.1)), (a_net_ranks, .inl (cI, 60, .inl v6.2.2.1)), (a_net_starts, .inl (cI, 61, .inl v6.2.2.2.1)), (a_net_nextLiterals, .inl (cI, 8, .inl v6.2.2.2.2.1))] H := hP
        have hD : va_D A [(h_exp, .inr (4, [.ref h_net, .ref h_tab, .ref h_wlk, .ref h_par, .int (0 : Int32)])), (h_net, .inr (0, [.ref a_net_sorts, .ref a_net_ranks, .ref a_net_starts, .ref a_net_literals, .ref a_net_nextLiterals, .ref a_net_outputs, .int v6.2.2.2.2.2.1, .int v6.2.2.2.2.2.2.1, .int v6.2.2.2.2.2.2.2, .int net_outputTotal])), (a_net_sorts, .inl (cI, 60, .inl v6.2.1)), (a_net_ranks, .inl (cI, 60, .inl v6.2.2.1)), (a_net_starts, .inl (cI, 61, .inl v6.2.2.2.1)), (a_net_nextLiterals, .inl (cI, 8, .inl v6.2.2.2.2.1))] := hD
        have hw9 := hw.symm
        subst hw9
        obtain rfl := Sum.inr.inj (Option.some.inj hm)
        exact W.iret (v := v6.1) hx hb hr (fun t ht hW => ⟨⟨v6.1, (), rfl, rfl, sx_Wi (hP.sub (ws' := [(h_net, .inr (0, [.ref a_net_sorts, .ref a_net_ranks, .ref a_net_starts, .ref a_net_literals, .ref a_net_nextLiterals, .ref a_net_outputs, .int v6.2.2.2.2.2.1, .int v6.2.2.2.2.2.2.1, .int v6.2.2.2.2.2.2.2, .int net_outputTotal])), (h_exp, .inr (4, [.ref h_net, .ref h_tab, .ref h_wlk, .ref h_par, .int (0 : Int32)])), (a_net_sorts, .inl (cI, 60, .inl v6.2.1)), (a_net_ranks, .inl (cI, 60, .inl v6.2.2.1)), (a_net_starts, .inl (cI, 61, .inl v6.2.2.2.1)), (a_net_nextLiterals, .inl (cI, 8, .inl v6.2.2.2.2.1))]) [1, 0, 2, 3, 4, 5] rfl) hK (hD.sub (ws' := [(h_net, .inr (0, [.ref a_net_sorts, .ref a_net_ranks, .ref a_net_starts, .ref a_net_literals, .ref a_net_nextLiterals, .ref a_net_outputs, .int v6.2.2.2.2.2.1, .int v6.2.2.2.2.2.2.1, .int v6.2.2.2.2.2.2.2, .int net_outputTotal])), (h_exp, .inr (4, [.ref h_net, .ref h_tab, .ref h_wlk, .ref h_par, .int (0 : Int32)])), (a_net_sorts, .inl (cI, 60, .inl v6.2.1)), (a_net_ranks, .inl (cI, 60, .inl v6.2.2.1)), (a_net_starts, .inl (cI, 61, .inl v6.2.2.2.1)), (a_net_nextLiterals, .inl (cI, 8, .inl v6.2.2.2.2.1))]) [1, 0, 2, 3, 4, 5] (by decide) rfl) ht hW.alike⟩, hS.F ht⟩) hS.2.2 dExp_gate_45
      · have hm := sx_neg c5 hm
        refine lv_iconst (v := (-1 : Int32)) hx hb dExp_gate_30 (by decide) ?_
        obtain rfl := Sum.inr.inj (Option.some.inj hm)
        exact W.iret (v := (-1 : Int32)) hx hb hr (fun t ht hW => ⟨⟨(-1 : Int32), (), rfl, rfl, sx_Wi hP hK hD ht hW.alike⟩, hS.F ht⟩) hS.2.2 dExp_gate_31
    · have hm := sx_neg c2 hm
      cases hm
set_option maxHeartbeats 4000000 in
set_option maxRecDepth 100000 in
theorem kt_Exp_gate (l : Launch) (hnt : l.stackTraces = false) (dC : Nat → ClassId) (dI : Nat → Nat → Nat) (cI cL cZ : ClassId) (t1 t2 : Nat) (h_net a_net_sorts a_net_ranks a_net_starts a_net_literals a_net_nextLiterals a_net_outputs h_exp h_tab h_wlk h_par : Nat) (net_sorts net_ranks net_starts net_nextLiterals : Nat → Int32) (net_gateTotal net_inputTotal net_latchTotal net_outputTotal exp_explored : Int32) (sz : Nat) (p0 : Int32) (k : Nat) (hm : m_Exp_gate net_sorts net_ranks net_starts net_nextLiterals net_gateTotal net_inputTotal net_latchTotal exp_explored p0 = some (.inl k)) : sx_Thr l yExp_gate wsExp_gate rmt_Exp_gate (sx_Pc (dC, dI) [(cI, .int), (cL, .long), (cZ, .boolean)] t1 t2 [(h_net, .inr (0, [.ref a_net_sorts, .ref a_net_ranks, .ref a_net_starts, .ref a_net_literals, .ref a_net_nextLiterals, .ref a_net_outputs, .int net_gateTotal, .int net_inputTotal, .int net_latchTotal, .int net_outputTotal])), (h_exp, .inr (4, [.ref h_net, .ref h_tab, .ref h_wlk, .ref h_par, .int exp_explored])), (a_net_sorts, .inl (cI, 60, .inl net_sorts)), (a_net_ranks, .inl (cI, 60, .inl net_ranks)), (a_net_starts, .inl (cI, 61, .inl net_starts)), (a_net_nextLiterals, .inl (cI, 8, .inl net_nextLiterals))] sz [.ref h_exp, .int p0]) (sx_E k) 1 6 := by
  refine sx_thrOf (cc := cExp_gate) (maxL := 2) (ret := (some .int)) (by decide) rfl ?_
  intro p e s m args below meth c s₁ B hml hnx hv
  obtain ⟨rfl, hsz, hP, hK, hD0, hX⟩ := hv
  have hx := B.exec
  have hb := B.bytes
  have hr := B.returns
  have hts0 := atoms_spec (ws := wsExp_gate) B.pre
  have hts : ∀ w ∈ tb, w.before _ s = true := fun w h => hts0 w (List.mem_cons_of_mem _ h)
  have hown : s.vm.findClass "StateExplorer" = some m.cls := findClass_of_methodNamed B.named
  have hlocks := B.notSynchronized
  subst hsz
  have hD := hD0.self (sz := s.heap.size)
  generalize hAe : va_A [(h_net, .inr (0, [.ref a_net_sorts, .ref a_net_ranks, .ref a_net_starts, .ref a_net_literals, .ref a_net_nextLiterals, .ref a_net_outputs, .int net_gateTotal, .int net_inputTotal, .int net_latchTotal, .int net_outputTotal])), (h_exp, .inr (4, [.ref h_net, .ref h_tab, .ref h_wlk, .ref h_par, .int exp_explored])), (a_net_sorts, .inl (cI, 60, .inl net_sorts)), (a_net_ranks, .inl (cI, 60, .inl net_ranks)), (a_net_starts, .inl (cI, 61, .inl net_starts)), (a_net_nextLiterals, .inl (cI, 8, .inl net_nextLiterals))] s.heap.size = A at hD hX 
  have hA : ∀ q : Nat, s.heap.size ≤ q → A q := fun q h => by rw [← hAe]; exact Or.inr h
  have hS : va_S A s.heap s.heap [] := va_S.rf
  have hl := lv_entry ([.ref h_exp, .int p0]) (n := 2) (Nat.le_of_ble_eq_true rfl)
  rw [lg_entry_eq]
  generalize (lg_sl ([.ref h_exp, .int p0]) ++ List.replicate (2 - (lg_sl ([.ref h_exp, .int p0])).length) Slot.unset).toArray = ls at hl ⊢
  have hl : lv_has ls 2 [(0, .ref h_exp), (1, .int p0)] := hl
  have C0 : sx_C p s m _ meth c cExp_gate 2 "StateExplorer" A (dC, dI) [(cI, .int), (cL, .long), (cZ, .boolean)] t1 t2 := ⟨hx, hb, hml, hown, hts, hA, hK, hlocks, hX⟩
  rw [m_Exp_gate] at hm
  refine lv_iload_n hx hb dExp_gate_0 rfl (lv_at hl 1 rfl) ?_
  refine lv_if_lt (tgt := 9) hx hb dExp_gate_1 (by decide) (fun c1 => ?_) (fun c1 => ?_)
  · have hm := sx_pos c1 hm
    obtain rfl := Sum.inl.inj (Option.some.inj hm)
    exact sx_throwS (cls := "java/lang/IllegalArgumentException") (text := "a sort is 0 to 3") (names := ["java/lang/RuntimeException", "java/lang/Exception"]) hx hb hnt hown (by decide +kernel) (by decide +kernel) (hts _ tw_369) (hts _ tw_45) (hts _ tw_370) (hX.2.2.2.2.2.2.2.1 ("StateExplorer", 43, "a sort is 0 to 3") (by decide +kernel)) (sx_own hts hX sx_og_45 sx_on_45) (hl.1.trans hml.symm) dExp_gate_9 dExp_gate_12 dExp_gate_13 dExp_gate_15 dExp_gate_18 hnx hlocks (Nat.le_of_ble_eq_true rfl) (Nat.le_of_ble_eq_true rfl) (Nat.le_of_ble_eq_true rfl) (Nat.le_of_ble_eq_true rfl) (Nat.le_of_ble_eq_true rfl) (Nat.le_of_ble_eq_true rfl)
  · have hm := sx_neg c1 hm
    refine lv_iload_n hx hb dExp_gate_4 rfl (lv_at hl 1 rfl) ?_
    refine lv_iconst (v := (3 : Int32)) hx hb dExp_gate_5 (by decide) ?_
    refine lv_icmp_le (tgt := 19) hx hb dExp_gate_6 (by decide) (fun c2 => ?_) (fun c2 => ?_)
    · have hm := sx_pos c2 hm
      refine lv_aload_n hx hb dExp_gate_19 rfl (lv_at hl 0 rfl) ?_
      refine va_get (D := (dC, dI)) (ci := 4) (v := .ref h_net) (C := RExp) (T := TExp) (N := 5) hx hb hts inExp hown hK hP 1 rfl rfl 0 (by decide) (hts _ tw_193) (fun _ h9 => h9) rfl dExp_gate_20 ?_
      refine lv_iload_n hx hb dExp_gate_23 rfl (lv_at hl 1 rfl) ?_
      obtain ⟨v3, hv3, hm⟩ := sx_bind hm
      have hPc := hP.sub (ws' := [(h_net, .inr (0, [.ref a_net_sorts, .ref a_net_ranks, .ref a_net_starts, .ref a_net_literals, .ref a_net_nextLiterals, .ref a_net_outputs, .int net_gateTotal, .int net_inputTotal, .int net_latchTotal, .int net_outputTotal]))]) [0] rfl
      have hDc := hD.sub (ws' := [(h_net, .inr (0, [.ref a_net_sorts, .ref a_net_ranks, .ref a_net_starts, .ref a_net_literals, .ref a_net_nextLiterals, .ref a_net_outputs, .int net_gateTotal, .int net_inputTotal, .int net_latchTotal, .int net_outputTotal]))]) [0] (by decide) rfl
      have hFc := va_free (wc := [(h_net, .inr (0, [.ref a_net_sorts, .ref a_net_ranks, .ref a_net_starts, .ref a_net_literals, .ref a_net_nextLiterals, .ref a_net_outputs, .int net_gateTotal, .int net_inputTotal, .int net_latchTotal, .int net_outputTotal]))]) hD hS hA [0] rfl
      refine sx_stI (va_runV (As := [.int p0]) (rest := []) ⟨hx, hb, hml, hown, hts⟩ (k_Net_isFullFor l dC dI cI cL cZ t1 t2 h_net a_net_sorts a_net_ranks a_net_starts a_net_literals a_net_nextLiterals a_net_outputs net_gateTotal net_inputTotal net_latchTotal net_outputTotal _ p0 v3 hv3) (cwV 1 hts (sx_gV tw_437 tw_438 tw_439 tw_37 tcNet_isFullFor) rfl rfl rfl (by decide +kernel) ⟨Nat.le_of_ble_eq_true rfl, Nat.le_of_ble_eq_true rfl⟩) (sx_pV hK hX hS hPc hDc hFc (va_recv hK hPc (ci := 0) (q0 := 0) rfl rfl)) rfl rfl hl.1 rfl (lv_room (Nat.le_of_ble_eq_true rfl)) dExp_gate_24 ⟨Nat.le_of_ble_eq_true rfl, Nat.le_of_ble_eq_true rfl⟩) ?_
      refine lv_if_eq (tgt := 32) hx hb dExp_gate_27 (by decide) (fun c5 => ?_) (fun c5 => ?_)
      · have hm := sx_pos c5 hm
        refine lv_aload_n hx hb dExp_gate_32 rfl (lv_at hl 0 rfl) ?_
        refine lv_iconst (v := (0 : Int32)) hx hb dExp_gate_33 (by decide) ?_
        refine va_put (D := (dC, dI)) (ci := 4) (v := .int (0 : Int32)) (ty := .boolean) (C := RExp) (T := TExp) (N := 5) hx hb hts inExp tyExp tyExp_ok nmExp hown hK hP hD hS 1 rfl rfl 4 (by decide) (hts _ tw_197) (fun _ h9 => h9) rfl (by decide +kernel) (by decide) (by decide) (Nat.le_of_ble_eq_true rfl) dExp_gate_34 (fun H locs hP hD hS => ?_)
        have hP : va_P (dC, dI) vwCl [(h_net, .inr (0, [.ref a_net_sorts, .ref a_net_ranks, .ref a_net_starts, .ref a_net_literals, .ref a_net_nextLiterals, .ref a_net_outputs, .int net_gateTotal, .int net_inputTotal, .int net_latchTotal, .int net_outputTotal])), (h_exp, .inr (4, [.ref h_net, .ref h_tab, .ref h_wlk, .ref h_par, .int (0 : Int32)])), (a_net_sorts, .inl (cI, 60, .inl net_sorts)), (a_net_ranks, .inl (cI, 60, .inl net_ranks)), (a_net_starts, .inl (cI, 61, .inl net_starts)), (a_net_nextLiterals, .inl (cI, 8, .inl net_nextLiterals))] H := hP
        have hD : va_D A [(h_net, .inr (0, [.ref a_net_sorts, .ref a_net_ranks, .ref a_net_starts, .ref a_net_literals, .ref a_net_nextLiterals, .ref a_net_outputs, .int net_gateTotal, .int net_inputTotal, .int net_latchTotal, .int net_outputTotal])), (h_exp, .inr (4, [.ref h_net, .ref h_tab, .ref h_wlk, .ref h_par, .int (0 : Int32)])), (a_net_sorts, .inl (cI, 60, .inl net_sorts)), (a_net_ranks, .inl (cI, 60, .inl net_ranks)), (a_net_starts, .inl (cI, 61, .inl net_starts)), (a_net_nextLiterals, .inl (cI, 8, .inl net_nextLiterals))] := hD
        refine lv_aload_n hx hb dExp_gate_37 rfl (lv_at hl 0 rfl) ?_
        refine va_get (D := (dC, dI)) (ci := 4) (v := .ref h_net) (C := RExp) (T := TExp) (N := 5) hx hb hts inExp hown hK hP 1 rfl rfl 0 (by decide) (hts _ tw_193) (fun _ h9 => h9) rfl dExp_gate_38 ?_
        refine lv_iload_n hx hb dExp_gate_41 rfl (lv_at hl 1 rfl) ?_
        obtain ⟨v6, hv6, hm⟩ := sx_bind hm
        have hPc := hP.sub (ws' := [(h_net, .inr (0, [.ref a_net_sorts, .ref a_net_ranks, .ref a_net_starts, .ref a_net_literals, .ref a_net_nextLiterals, .ref a_net_outputs, .int net_gateTotal, .int net_inputTotal, .int net_latchTotal, .int net_outputTotal])), (a_net_sorts, .inl (cI, 60, .inl net_sorts)), (a_net_ranks, .inl (cI, 60, .inl net_ranks)), (a_net_starts, .inl (cI, 61, .inl net_starts)), (a_net_nextLiterals, .inl (cI, 8, .inl net_nextLiterals))]) [0, 2, 3, 4, 5] rfl
        have hDc := hD.sub (ws' := [(h_net, .inr (0, [.ref a_net_sorts, .ref a_net_ranks, .ref a_net_starts, .ref a_net_literals, .ref a_net_nextLiterals, .ref a_net_outputs, .int net_gateTotal, .int net_inputTotal, .int net_latchTotal, .int net_outputTotal])), (a_net_sorts, .inl (cI, 60, .inl net_sorts)), (a_net_ranks, .inl (cI, 60, .inl net_ranks)), (a_net_starts, .inl (cI, 61, .inl net_starts)), (a_net_nextLiterals, .inl (cI, 8, .inl net_nextLiterals))]) [0, 2, 3, 4, 5] (by decide) rfl
        have hFc := va_free (wc := [(h_net, .inr (0, [.ref a_net_sorts, .ref a_net_ranks, .ref a_net_starts, .ref a_net_literals, .ref a_net_nextLiterals, .ref a_net_outputs, .int net_gateTotal, .int net_inputTotal, .int net_latchTotal, .int net_outputTotal])), (a_net_sorts, .inl (cI, 60, .inl net_sorts)), (a_net_ranks, .inl (cI, 60, .inl net_ranks)), (a_net_starts, .inl (cI, 61, .inl net_starts)), (a_net_nextLiterals, .inl (cI, 8, .inl net_nextLiterals))]) hD hS hA [0, 2, 3, 4, 5] rfl
        refine va_calli (va_runV (As := [.int p0]) (rest := []) ⟨hx, hb, hml, hown, hts⟩ (k_Net_addGate l dC dI cI cL cZ t1 t2 h_net a_net_sorts a_net_ranks a_net_starts a_net_literals a_net_nextLiterals a_net_outputs net_sorts net_ranks net_starts net_nextLiterals net_gateTotal net_inputTotal net_latchTotal net_outputTotal _ p0 v6 hv6) (cwV 1 hts (sx_gV tw_441 tw_442 tw_443 tw_37 tcNet_addGate) rfl rfl rfl (by decide +kernel) ⟨Nat.le_of_ble_eq_true rfl, Nat.le_of_ble_eq_true rfl⟩) (sx_pV hK hX hS hPc hDc hFc (va_recv hK hPc (ci := 0) (q0 := 0) rfl rfl)) rfl rfl hl.1 rfl (lv_room (Nat.le_of_ble_eq_true rfl)) dExp_gate_42 ⟨Nat.le_of_ble_eq_true rfl, Nat.le_of_ble_eq_true rfl⟩) hS (fun q _ h => hFc q h) hFc (fun r7 u_ t_ H locs ht hvm hw hB hz1 hk1 hS => ?_)
        obtain ⟨hP1, -, hD1⟩ := hB
        rw [ht] at hP1
        obtain ⟨hP, hD⟩ := va_join (wr := [(h_exp, .inr (4, [.ref h_net, .ref h_tab, .ref h_wlk, .ref h_par, .int (0 : Int32)]))]) (w1 := [(h_net, .inr (0, [.ref a_net_sorts, .ref a_net_ranks, .ref a_net_starts, .ref a_net_literals, .ref a_net_nextLiterals, .ref a_net_outputs, .int v6.2.2.2.2.2.1, .int v6.2.2.2.2.2.2.1, .int v6.2.2.2.2.2.2.2, .int net_outputTotal])), (a_net_sorts, .inl (cI, 60, .inl v6.2.1)), (a_net_ranks, .inl (cI, 60, .inl v6.2.2.1)), (a_net_starts, .inl (cI, 61, .inl v6.2.2.2.1)), (a_net_nextLiterals, .inl (cI, 8, .inl v6.2.2.2.2.1))]) hP hD [0, 2, 3, 4, 5] [1] rfl rfl (by decide) (by decide) hk1 hFc hP1 hD1
        have hP : va_P (dC, dI) vwCl [(h_exp, .inr (4, [.ref h_net, .ref h_tab, .ref h_wlk, .ref h_par, .int (0 : Int32)])), (h_net, .inr (0, [.ref a_net_sorts, .ref a_net_ranks, .ref a_net_starts, .ref a_net_literals, .ref a_net_nextLiterals, .ref a_net_outputs, .int v6.2.2.2.2.2.1, .int v6.2.2.2.2.2.2.1, .int v6.2.2.2.2.2.2.2, .int net_outputTotal])), (a_net_sorts, .inl (cI, 60, .inl v6.2.1)), (a_net_ranks, .inl (cI, 60, .inl v6.2.2.1)), (a_net_starts, .inl (cI, 61, .inl v6.2.2.2.1)), (a_net_nextLiterals, .inl (cI, 8, .inl v6.2.2.2.2.1))] H := hP
        have hD : va_D A [(h_exp, .inr (4, [.ref h_net, .ref h_tab, .ref h_wlk, .ref h_par, .int (0 : Int32)])), (h_net, .inr (0, [.ref a_net_sorts, .ref a_net_ranks, .ref a_net_starts, .ref a_net_literals, .ref a_net_nextLiterals, .ref a_net_outputs, .int v6.2.2.2.2.2.1, .int v6.2.2.2.2.2.2.1, .int v6.2.2.2.2.2.2.2, .int net_outputTotal])), (a_net_sorts, .inl (cI, 60, .inl v6.2.1)), (a_net_ranks, .inl (cI, 60, .inl v6.2.2.1)), (a_net_starts, .inl (cI, 61, .inl v6.2.2.2.1)), (a_net_nextLiterals, .inl (cI, 8, .inl v6.2.2.2.2.1))] := hD
        have hw9 := hw.symm
        subst hw9
        cases hm
      · have hm := sx_neg c5 hm
        refine lv_iconst (v := (-1 : Int32)) hx hb dExp_gate_30 (by decide) ?_
        cases hm
    · have hm := sx_neg c2 hm
      obtain rfl := Sum.inl.inj (Option.some.inj hm)
      exact sx_throwS (cls := "java/lang/IllegalArgumentException") (text := "a sort is 0 to 3") (names := ["java/lang/RuntimeException", "java/lang/Exception"]) hx hb hnt hown (by decide +kernel) (by decide +kernel) (hts _ tw_369) (hts _ tw_45) (hts _ tw_370) (hX.2.2.2.2.2.2.2.1 ("StateExplorer", 43, "a sort is 0 to 3") (by decide +kernel)) (sx_own hts hX sx_og_45 sx_on_45) (hl.1.trans hml.symm) dExp_gate_9 dExp_gate_12 dExp_gate_13 dExp_gate_15 dExp_gate_18 hnx hlocks (Nat.le_of_ble_eq_true rfl) (Nat.le_of_ble_eq_true rfl) (Nat.le_of_ble_eq_true rfl) (Nat.le_of_ble_eq_true rfl) (Nat.le_of_ble_eq_true rfl) (Nat.le_of_ble_eq_true rfl)
noncomputable def m_Exp_feed (net_sorts net_ranks net_starts net_literals net_nextLiterals : Nat → Int32) (net_gateTotal exp_explored : Int32) (p0 : Int32) (p1 : Int32) (p2 : Int32) : Option (Nat ⊕ (Int32 × (Nat → Int32) × (Nat → Int32) × (Nat → Int32) × Int32)) := (m_Exp_requireGate net_gateTotal p0).bind (Sum.elim (fun k => some (.inl k)) (fun _ => (m_Exp_requireGate net_gateTotal p1).bind (Sum.elim (fun k => some (.inl k)) (fun _ => (m_Net_takesFeed net_sorts net_starts p0).bind (fun v7 => (if v7 = (0 : Int32) then some (.inl 1) else (m_Net_feedTotal net_starts net_gateTotal).bind (fun v10 => (if v10 < (240 : Int32) then (m_Net_addFeed net_sorts net_ranks net_starts net_literals net_nextLiterals net_gateTotal p0 p1 p2).bind (fun v13 => some (.inr (v13.1, v13.2.1, v13.2.2.1, v13.2.2.2, (0 : Int32)))) else some (.inr ((-1 : Int32), net_starts, net_literals, net_nextLiterals, exp_explored))))))))))
def rm_Exp_feed : Room := { frames := 2, cells := 0, slots := 0, locals := 52 }
def rmt_Exp_feed : Room := { frames := 7, cells := 1, slots := 6, locals := 121 }
set_option maxHeartbeats 4000000 in
set_option maxRecDepth 100000 in
theorem k_Exp_feed (l : Launch) (dC : Nat → ClassId) (dI : Nat → Nat → Nat) (cI cL cZ : ClassId) (t1 t2 : Nat) (h_net a_net_sorts a_net_ranks a_net_starts a_net_literals a_net_nextLiterals a_net_outputs h_exp h_tab h_wlk h_par : Nat) (net_sorts net_ranks net_starts net_literals net_nextLiterals : Nat → Int32) (net_gateTotal net_inputTotal net_latchTotal net_outputTotal exp_explored : Int32) (sz : Nat) (p0 : Int32) (p1 : Int32) (p2 : Int32) (v : Int32 × (Nat → Int32) × (Nat → Int32) × (Nat → Int32) × Int32) (hm : m_Exp_feed net_sorts net_ranks net_starts net_literals net_nextLiterals net_gateTotal exp_explored p0 p1 p2 = some (.inr v)) : Met l yExp_feed wsExp_feed rm_Exp_feed (sx_Pc (dC, dI) [(cI, .int), (cL, .long), (cZ, .boolean)] t1 t2 [(h_net, .inr (0, [.ref a_net_sorts, .ref a_net_ranks, .ref a_net_starts, .ref a_net_literals, .ref a_net_nextLiterals, .ref a_net_outputs, .int net_gateTotal, .int net_inputTotal, .int net_latchTotal, .int net_outputTotal])), (h_exp, .inr (4, [.ref h_net, .ref h_tab, .ref h_wlk, .ref h_par, .int exp_explored])), (a_net_sorts, .inl (cI, 60, .inl net_sorts)), (a_net_ranks, .inl (cI, 60, .inl net_ranks)), (a_net_starts, .inl (cI, 61, .inl net_starts)), (a_net_literals, .inl (cI, 240, .inl net_literals)), (a_net_nextLiterals, .inl (cI, 8, .inl net_nextLiterals))] sz [.ref h_exp, .int p0, .int p1, .int p2]) (va_Qi (fun (r : Int32) (_ : Unit) => r = v.1) (fun _ t => sx_W (dC, dI) [(cI, .int), (cL, .long), (cZ, .boolean)] (va_A [(h_net, .inr (0, [.ref a_net_sorts, .ref a_net_ranks, .ref a_net_starts, .ref a_net_literals, .ref a_net_nextLiterals, .ref a_net_outputs, .int net_gateTotal, .int net_inputTotal, .int net_latchTotal, .int net_outputTotal])), (h_exp, .inr (4, [.ref h_net, .ref h_tab, .ref h_wlk, .ref h_par, .int exp_explored])), (a_net_sorts, .inl (cI, 60, .inl net_sorts)), (a_net_ranks, .inl (cI, 60, .inl net_ranks)), (a_net_starts, .inl (cI, 61, .inl net_starts)), (a_net_literals, .inl (cI, 240, .inl net_literals)), (a_net_nextLiterals, .inl (cI, 8, .inl net_nextLiterals))] sz) [(h_net, .inr (0, [.ref a_net_sorts, .ref a_net_ranks, .ref a_net_starts, .ref a_net_literals, .ref a_net_nextLiterals, .ref a_net_outputs, .int net_gateTotal, .int net_inputTotal, .int net_latchTotal, .int net_outputTotal])), (h_exp, .inr (4, [.ref h_net, .ref h_tab, .ref h_wlk, .ref h_par, .int v.2.2.2.2])), (a_net_sorts, .inl (cI, 60, .inl net_sorts)), (a_net_ranks, .inl (cI, 60, .inl net_ranks)), (a_net_starts, .inl (cI, 61, .inl v.2.1)), (a_net_literals, .inl (cI, 240, .inl v.2.2.1)), (a_net_nextLiterals, .inl (cI, 8, .inl v.2.2.2.1))] t) (va_A [(h_net, .inr (0, [.ref a_net_sorts, .ref a_net_ranks, .ref a_net_starts, .ref a_net_literals, .ref a_net_nextLiterals, .ref a_net_outputs, .int net_gateTotal, .int net_inputTotal, .int net_latchTotal, .int net_outputTotal])), (h_exp, .inr (4, [.ref h_net, .ref h_tab, .ref h_wlk, .ref h_par, .int exp_explored])), (a_net_sorts, .inl (cI, 60, .inl net_sorts)), (a_net_ranks, .inl (cI, 60, .inl net_ranks)), (a_net_starts, .inl (cI, 61, .inl net_starts)), (a_net_literals, .inl (cI, 240, .inl net_literals)), (a_net_nextLiterals, .inl (cI, 8, .inl net_nextLiterals))] sz)) 0 0 (va_A [(h_net, .inr (0, [.ref a_net_sorts, .ref a_net_ranks, .ref a_net_starts, .ref a_net_literals, .ref a_net_nextLiterals, .ref a_net_outputs, .int net_gateTotal, .int net_inputTotal, .int net_latchTotal, .int net_outputTotal])), (h_exp, .inr (4, [.ref h_net, .ref h_tab, .ref h_wlk, .ref h_par, .int exp_explored])), (a_net_sorts, .inl (cI, 60, .inl net_sorts)), (a_net_ranks, .inl (cI, 60, .inl net_ranks)), (a_net_starts, .inl (cI, 61, .inl net_starts)), (a_net_literals, .inl (cI, 240, .inl net_literals)), (a_net_nextLiterals, .inl (cI, 8, .inl net_nextLiterals))] sz) := by
  refine Met.ofW (cc := cExp_feed) (maxL := 4) (ret := (some .int)) (by decide) rfl ?_
  intro p e s m args below meth c s₁ B hml hv
  obtain ⟨rfl, hsz, hP, hK, hD0, hX⟩ := hv
  have hx := B.exec
  have hb := B.bytes
  have hr := B.returns
  have hts0 := atoms_spec (ws := wsExp_feed) B.pre
  have hts : ∀ w ∈ tb, w.before _ s = true := fun w h => hts0 w (List.mem_cons_of_mem _ h)
  have hown : s.vm.findClass "StateExplorer" = some m.cls := findClass_of_methodNamed B.named
  have hlocks := B.notSynchronized
  subst hsz
  have hD := hD0.self (sz := s.heap.size)
  generalize hAe : va_A [(h_net, .inr (0, [.ref a_net_sorts, .ref a_net_ranks, .ref a_net_starts, .ref a_net_literals, .ref a_net_nextLiterals, .ref a_net_outputs, .int net_gateTotal, .int net_inputTotal, .int net_latchTotal, .int net_outputTotal])), (h_exp, .inr (4, [.ref h_net, .ref h_tab, .ref h_wlk, .ref h_par, .int exp_explored])), (a_net_sorts, .inl (cI, 60, .inl net_sorts)), (a_net_ranks, .inl (cI, 60, .inl net_ranks)), (a_net_starts, .inl (cI, 61, .inl net_starts)), (a_net_literals, .inl (cI, 240, .inl net_literals)), (a_net_nextLiterals, .inl (cI, 8, .inl net_nextLiterals))] s.heap.size = A at hD hX ⊢
  have hA : ∀ q : Nat, s.heap.size ≤ q → A q := fun q h => by rw [← hAe]; exact Or.inr h
  have hS : va_S A s.heap s.heap [] := va_S.rf
  have hl := lv_entry ([.ref h_exp, .int p0, .int p1, .int p2]) (n := 4) (Nat.le_of_ble_eq_true rfl)
  rw [lg_entry_eq]
  generalize (lg_sl ([.ref h_exp, .int p0, .int p1, .int p2]) ++ List.replicate (4 - (lg_sl ([.ref h_exp, .int p0, .int p1, .int p2])).length) Slot.unset).toArray = ls at hl ⊢
  have hl : lv_has ls 4 [(0, .ref h_exp), (1, .int p0), (2, .int p1), (3, .int p2)] := hl
  have C0 : sx_C p s m _ meth c cExp_feed 4 "StateExplorer" A (dC, dI) [(cI, .int), (cL, .long), (cZ, .boolean)] t1 t2 := ⟨hx, hb, hml, hown, hts, hA, hK, hlocks, hX⟩
  rw [m_Exp_feed] at hm
  refine lv_aload_n hx hb dExp_feed_0 rfl (lv_at hl 0 rfl) ?_
  refine lv_iload_n hx hb dExp_feed_1 rfl (lv_at hl 1 rfl) ?_
  obtain ⟨v1, hv1, hm⟩ := sx_bind hm
  rcases v1 with k9 | u9
  · cases hm
  · have hPc := hP.sub (ws' := [(h_net, .inr (0, [.ref a_net_sorts, .ref a_net_ranks, .ref a_net_starts, .ref a_net_literals, .ref a_net_nextLiterals, .ref a_net_outputs, .int net_gateTotal, .int net_inputTotal, .int net_latchTotal, .int net_outputTotal])), (h_exp, .inr (4, [.ref h_net, .ref h_tab, .ref h_wlk, .ref h_par, .int exp_explored]))]) [0, 1] rfl
    have hDc := hD.sub (ws' := [(h_net, .inr (0, [.ref a_net_sorts, .ref a_net_ranks, .ref a_net_starts, .ref a_net_literals, .ref a_net_nextLiterals, .ref a_net_outputs, .int net_gateTotal, .int net_inputTotal, .int net_latchTotal, .int net_outputTotal])), (h_exp, .inr (4, [.ref h_net, .ref h_tab, .ref h_wlk, .ref h_par, .int exp_explored]))]) [0, 1] (by decide) rfl
    have hFc := va_free (wc := [(h_net, .inr (0, [.ref a_net_sorts, .ref a_net_ranks, .ref a_net_starts, .ref a_net_literals, .ref a_net_nextLiterals, .ref a_net_outputs, .int net_gateTotal, .int net_inputTotal, .int net_latchTotal, .int net_outputTotal])), (h_exp, .inr (4, [.ref h_net, .ref h_tab, .ref h_wlk, .ref h_par, .int exp_explored]))]) hD hS hA [0, 1] rfl
    refine sx_stV (va_runV (As := [.int p0]) (rest := []) ⟨hx, hb, hml, hown, hts⟩ (k_Exp_requireGate l dC dI cI cL cZ t1 t2 h_net a_net_sorts a_net_ranks a_net_starts a_net_literals a_net_nextLiterals a_net_outputs h_exp h_tab h_wlk h_par net_gateTotal net_inputTotal net_latchTotal net_outputTotal exp_explored _ p0 () hv1) (cwV 1 hts (sx_gV tw_454 tw_456 tw_16 tw_36 tcExp_requireGate) rfl rfl rfl (by decide +kernel) ⟨Nat.le_of_ble_eq_true rfl, Nat.le_of_ble_eq_true rfl⟩) (sx_pV hK hX hS hPc hDc hFc (va_recv hK hPc (ci := 4) (q0 := 1) rfl rfl)) rfl rfl hl.1 rfl (lv_room (Nat.le_of_ble_eq_true rfl)) dExp_feed_2 ⟨Nat.le_of_ble_eq_true rfl, Nat.le_of_ble_eq_true rfl⟩) ?_
    refine lv_aload_n hx hb dExp_feed_5 rfl (lv_at hl 0 rfl) ?_
    refine lv_iload_n hx hb dExp_feed_6 rfl (lv_at hl 2 rfl) ?_
    obtain ⟨v4, hv4, hm⟩ := sx_bind hm
    rcases v4 with k9 | u9
    · cases hm
    · have hPc := hP.sub (ws' := [(h_net, .inr (0, [.ref a_net_sorts, .ref a_net_ranks, .ref a_net_starts, .ref a_net_literals, .ref a_net_nextLiterals, .ref a_net_outputs, .int net_gateTotal, .int net_inputTotal, .int net_latchTotal, .int net_outputTotal])), (h_exp, .inr (4, [.ref h_net, .ref h_tab, .ref h_wlk, .ref h_par, .int exp_explored]))]) [0, 1] rfl
      have hDc := hD.sub (ws' := [(h_net, .inr (0, [.ref a_net_sorts, .ref a_net_ranks, .ref a_net_starts, .ref a_net_literals, .ref a_net_nextLiterals, .ref a_net_outputs, .int net_gateTotal, .int net_inputTotal, .int net_latchTotal, .int net_outputTotal])), (h_exp, .inr (4, [.ref h_net, .ref h_tab, .ref h_wlk, .ref h_par, .int exp_explored]))]) [0, 1] (by decide) rfl
      have hFc := va_free (wc := [(h_net, .inr (0, [.ref a_net_sorts, .ref a_net_ranks, .ref a_net_starts, .ref a_net_literals, .ref a_net_nextLiterals, .ref a_net_outputs, .int net_gateTotal, .int net_inputTotal, .int net_latchTotal, .int net_outputTotal])), (h_exp, .inr (4, [.ref h_net, .ref h_tab, .ref h_wlk, .ref h_par, .int exp_explored]))]) hD hS hA [0, 1] rfl
      refine sx_stV (va_runV (As := [.int p1]) (rest := []) ⟨hx, hb, hml, hown, hts⟩ (k_Exp_requireGate l dC dI cI cL cZ t1 t2 h_net a_net_sorts a_net_ranks a_net_starts a_net_literals a_net_nextLiterals a_net_outputs h_exp h_tab h_wlk h_par net_gateTotal net_inputTotal net_latchTotal net_outputTotal exp_explored _ p1 () hv4) (cwV 1 hts (sx_gV tw_454 tw_456 tw_16 tw_36 tcExp_requireGate) rfl rfl rfl (by decide +kernel) ⟨Nat.le_of_ble_eq_true rfl, Nat.le_of_ble_eq_true rfl⟩) (sx_pV hK hX hS hPc hDc hFc (va_recv hK hPc (ci := 4) (q0 := 1) rfl rfl)) rfl rfl hl.1 rfl (lv_room (Nat.le_of_ble_eq_true rfl)) dExp_feed_7 ⟨Nat.le_of_ble_eq_true rfl, Nat.le_of_ble_eq_true rfl⟩) ?_
      refine lv_aload_n hx hb dExp_feed_10 rfl (lv_at hl 0 rfl) ?_
      refine va_get (D := (dC, dI)) (ci := 4) (v := .ref h_net) (C := RExp) (T := TExp) (N := 5) hx hb hts inExp hown hK hP 1 rfl rfl 0 (by decide) (hts _ tw_193) (fun _ h9 => h9) rfl dExp_feed_11 ?_
      refine lv_iload_n hx hb dExp_feed_14 rfl (lv_at hl 1 rfl) ?_
      obtain ⟨v7, hv7, hm⟩ := sx_bind hm
      have hPc := hP.sub (ws' := [(h_net, .inr (0, [.ref a_net_sorts, .ref a_net_ranks, .ref a_net_starts, .ref a_net_literals, .ref a_net_nextLiterals, .ref a_net_outputs, .int net_gateTotal, .int net_inputTotal, .int net_latchTotal, .int net_outputTotal])), (a_net_sorts, .inl (cI, 60, .inl net_sorts)), (a_net_starts, .inl (cI, 61, .inl net_starts))]) [0, 2, 4] rfl
      have hDc := hD.sub (ws' := [(h_net, .inr (0, [.ref a_net_sorts, .ref a_net_ranks, .ref a_net_starts, .ref a_net_literals, .ref a_net_nextLiterals, .ref a_net_outputs, .int net_gateTotal, .int net_inputTotal, .int net_latchTotal, .int net_outputTotal])), (a_net_sorts, .inl (cI, 60, .inl net_sorts)), (a_net_starts, .inl (cI, 61, .inl net_starts))]) [0, 2, 4] (by decide) rfl
      have hFc := va_free (wc := [(h_net, .inr (0, [.ref a_net_sorts, .ref a_net_ranks, .ref a_net_starts, .ref a_net_literals, .ref a_net_nextLiterals, .ref a_net_outputs, .int net_gateTotal, .int net_inputTotal, .int net_latchTotal, .int net_outputTotal])), (a_net_sorts, .inl (cI, 60, .inl net_sorts)), (a_net_starts, .inl (cI, 61, .inl net_starts))]) hD hS hA [0, 2, 4] rfl
      refine sx_stI (va_runV (As := [.int p0]) (rest := []) ⟨hx, hb, hml, hown, hts⟩ (k_Net_takesFeed l dC dI cI cL cZ t1 t2 h_net a_net_sorts a_net_ranks a_net_starts a_net_literals a_net_nextLiterals a_net_outputs net_sorts net_starts net_gateTotal net_inputTotal net_latchTotal net_outputTotal _ p0 v7 hv7) (cwV 1 hts (sx_gV tw_474 tw_475 tw_476 tw_37 tcNet_takesFeed) rfl rfl rfl (by decide +kernel) ⟨Nat.le_of_ble_eq_true rfl, Nat.le_of_ble_eq_true rfl⟩) (sx_pV hK hX hS hPc hDc hFc (va_recv hK hPc (ci := 0) (q0 := 0) rfl rfl)) rfl rfl hl.1 rfl (lv_room (Nat.le_of_ble_eq_true rfl)) dExp_feed_15 ⟨Nat.le_of_ble_eq_true rfl, Nat.le_of_ble_eq_true rfl⟩) ?_
      refine lv_if_ne (tgt := 31) hx hb dExp_feed_18 (by decide) (fun c9 => ?_) (fun c9 => ?_)
      · have hm := sx_neg c9 hm
        refine lv_aload_n hx hb dExp_feed_31 rfl (lv_at hl 0 rfl) ?_
        refine va_get (D := (dC, dI)) (ci := 4) (v := .ref h_net) (C := RExp) (T := TExp) (N := 5) hx hb hts inExp hown hK hP 1 rfl rfl 0 (by decide) (hts _ tw_193) (fun _ h9 => h9) rfl dExp_feed_32 ?_
        obtain ⟨v10, hv10, hm⟩ := sx_bind hm
        have hPc := hP.sub (ws' := [(h_net, .inr (0, [.ref a_net_sorts, .ref a_net_ranks, .ref a_net_starts, .ref a_net_literals, .ref a_net_nextLiterals, .ref a_net_outputs, .int net_gateTotal, .int net_inputTotal, .int net_latchTotal, .int net_outputTotal])), (a_net_starts, .inl (cI, 61, .inl net_starts))]) [0, 4] rfl
        have hDc := hD.sub (ws' := [(h_net, .inr (0, [.ref a_net_sorts, .ref a_net_ranks, .ref a_net_starts, .ref a_net_literals, .ref a_net_nextLiterals, .ref a_net_outputs, .int net_gateTotal, .int net_inputTotal, .int net_latchTotal, .int net_outputTotal])), (a_net_starts, .inl (cI, 61, .inl net_starts))]) [0, 4] (by decide) rfl
        have hFc := va_free (wc := [(h_net, .inr (0, [.ref a_net_sorts, .ref a_net_ranks, .ref a_net_starts, .ref a_net_literals, .ref a_net_nextLiterals, .ref a_net_outputs, .int net_gateTotal, .int net_inputTotal, .int net_latchTotal, .int net_outputTotal])), (a_net_starts, .inl (cI, 61, .inl net_starts))]) hD hS hA [0, 4] rfl
        refine sx_stI (va_runV (As := []) (rest := []) ⟨hx, hb, hml, hown, hts⟩ (k_Net_feedTotal l dC dI cI cL cZ t1 t2 h_net a_net_sorts a_net_ranks a_net_starts a_net_literals a_net_nextLiterals a_net_outputs net_starts net_gateTotal net_inputTotal net_latchTotal net_outputTotal _ v10 hv10) (cwV 0 hts (sx_gV tw_353 tw_354 tw_355 tw_37 tcNet_feedTotal) rfl rfl rfl (by decide +kernel) ⟨Nat.le_of_ble_eq_true rfl, Nat.le_of_ble_eq_true rfl⟩) (sx_pV hK hX hS hPc hDc hFc (va_recv hK hPc (ci := 0) (q0 := 0) rfl rfl)) rfl rfl hl.1 rfl (lv_room (Nat.le_of_ble_eq_true rfl)) dExp_feed_35 ⟨Nat.le_of_ble_eq_true rfl, Nat.le_of_ble_eq_true rfl⟩) ?_
        refine lv_sipush (v := (240 : Int32)) hx hb dExp_feed_38 (by decide) ?_
        refine lv_icmp_lt (tgt := 46) hx hb dExp_feed_41 (by decide) (fun c12 => ?_) (fun c12 => ?_)
        · have hm := sx_pos c12 hm
          refine lv_aload_n hx hb dExp_feed_46 rfl (lv_at hl 0 rfl) ?_
          refine lv_iconst (v := (0 : Int32)) hx hb dExp_feed_47 (by decide) ?_
          refine va_put (D := (dC, dI)) (ci := 4) (v := .int (0 : Int32)) (ty := .boolean) (C := RExp) (T := TExp) (N := 5) hx hb hts inExp tyExp tyExp_ok nmExp hown hK hP hD hS 1 rfl rfl 4 (by decide) (hts _ tw_197) (fun _ h9 => h9) rfl (by decide +kernel) (by decide) (by decide) (Nat.le_of_ble_eq_true rfl) dExp_feed_48 (fun H locs hP hD hS => ?_)
          have hP : va_P (dC, dI) vwCl [(h_net, .inr (0, [.ref a_net_sorts, .ref a_net_ranks, .ref a_net_starts, .ref a_net_literals, .ref a_net_nextLiterals, .ref a_net_outputs, .int net_gateTotal, .int net_inputTotal, .int net_latchTotal, .int net_outputTotal])), (h_exp, .inr (4, [.ref h_net, .ref h_tab, .ref h_wlk, .ref h_par, .int (0 : Int32)])), (a_net_sorts, .inl (cI, 60, .inl net_sorts)), (a_net_ranks, .inl (cI, 60, .inl net_ranks)), (a_net_starts, .inl (cI, 61, .inl net_starts)), (a_net_literals, .inl (cI, 240, .inl net_literals)), (a_net_nextLiterals, .inl (cI, 8, .inl net_nextLiterals))] H := hP
          have hD : va_D A [(h_net, .inr (0, [.ref a_net_sorts, .ref a_net_ranks, .ref a_net_starts, .ref a_net_literals, .ref a_net_nextLiterals, .ref a_net_outputs, .int net_gateTotal, .int net_inputTotal, .int net_latchTotal, .int net_outputTotal])), (h_exp, .inr (4, [.ref h_net, .ref h_tab, .ref h_wlk, .ref h_par, .int (0 : Int32)])), (a_net_sorts, .inl (cI, 60, .inl net_sorts)), (a_net_ranks, .inl (cI, 60, .inl net_ranks)), (a_net_starts, .inl (cI, 61, .inl net_starts)), (a_net_literals, .inl (cI, 240, .inl net_literals)), (a_net_nextLiterals, .inl (cI, 8, .inl net_nextLiterals))] := hD
          refine lv_aload_n hx hb dExp_feed_51 rfl (lv_at hl 0 rfl) ?_
          refine va_get (D := (dC, dI)) (ci := 4) (v := .ref h_net) (C := RExp) (T := TExp) (N := 5) hx hb hts inExp hown hK hP 1 rfl rfl 0 (by decide) (hts _ tw_193) (fun _ h9 => h9) rfl dExp_feed_52 ?_
          refine lv_iload_n hx hb dExp_feed_55 rfl (lv_at hl 1 rfl) ?_
          refine lv_iload_n hx hb dExp_feed_56 rfl (lv_at hl 2 rfl) ?_
          refine lv_iload_n hx hb dExp_feed_57 rfl (lv_at hl 3 rfl) ?_
          obtain ⟨v13, hv13, hm⟩ := sx_bind hm
          have hPc := hP.sub (ws' := [(h_net, .inr (0, [.ref a_net_sorts, .ref a_net_ranks, .ref a_net_starts, .ref a_net_literals, .ref a_net_nextLiterals, .ref a_net_outputs, .int net_gateTotal, .int net_inputTotal, .int net_latchTotal, .int net_outputTotal])), (a_net_sorts, .inl (cI, 60, .inl net_sorts)), (a_net_ranks, .inl (cI, 60, .inl net_ranks)), (a_net_starts, .inl (cI, 61, .inl net_starts)), (a_net_literals, .inl (cI, 240, .inl net_literals)), (a_net_nextLiterals, .inl (cI, 8, .inl net_nextLiterals))]) [0, 2, 3, 4, 5, 6] rfl
          have hDc := hD.sub (ws' := [(h_net, .inr (0, [.ref a_net_sorts, .ref a_net_ranks, .ref a_net_starts, .ref a_net_literals, .ref a_net_nextLiterals, .ref a_net_outputs, .int net_gateTotal, .int net_inputTotal, .int net_latchTotal, .int net_outputTotal])), (a_net_sorts, .inl (cI, 60, .inl net_sorts)), (a_net_ranks, .inl (cI, 60, .inl net_ranks)), (a_net_starts, .inl (cI, 61, .inl net_starts)), (a_net_literals, .inl (cI, 240, .inl net_literals)), (a_net_nextLiterals, .inl (cI, 8, .inl net_nextLiterals))]) [0, 2, 3, 4, 5, 6] (by decide) rfl
          have hFc := va_free (wc := [(h_net, .inr (0, [.ref a_net_sorts, .ref a_net_ranks, .ref a_net_starts, .ref a_net_literals, .ref a_net_nextLiterals, .ref a_net_outputs, .int net_gateTotal, .int net_inputTotal, .int net_latchTotal, .int net_outputTotal])), (a_net_sorts, .inl (cI, 60, .inl net_sorts)), (a_net_ranks, .inl (cI, 60, .inl net_ranks)), (a_net_starts, .inl (cI, 61, .inl net_starts)), (a_net_literals, .inl (cI, 240, .inl net_literals)), (a_net_nextLiterals, .inl (cI, 8, .inl net_nextLiterals))]) hD hS hA [0, 2, 3, 4, 5, 6] rfl
          refine va_calli (va_runV (As := [.int p0, .int p1, .int p2]) (rest := []) ⟨hx, hb, hml, hown, hts⟩ (k_Net_addFeed l dC dI cI cL cZ t1 t2 h_net a_net_sorts a_net_ranks a_net_starts a_net_literals a_net_nextLiterals a_net_outputs net_sorts net_ranks net_starts net_literals net_nextLiterals net_gateTotal net_inputTotal net_latchTotal net_outputTotal _ p0 p1 p2 v13 hv13) (cwV 3 hts (sx_gV tw_498 tw_499 tw_500 tw_37 tcNet_addFeed) rfl rfl rfl (by decide +kernel) ⟨Nat.le_of_ble_eq_true rfl, Nat.le_of_ble_eq_true rfl⟩) (sx_pV hK hX hS hPc hDc hFc (va_recv hK hPc (ci := 0) (q0 := 0) rfl rfl)) rfl rfl hl.1 rfl (lv_room (Nat.le_of_ble_eq_true rfl)) dExp_feed_58 ⟨Nat.le_of_ble_eq_true rfl, Nat.le_of_ble_eq_true rfl⟩) hS (fun q _ h => hFc q h) hFc (fun r14 u_ t_ H locs ht hvm hw hB hz1 hk1 hS => ?_)
          obtain ⟨hP1, -, hD1⟩ := hB
          rw [ht] at hP1
          obtain ⟨hP, hD⟩ := va_join (wr := [(h_exp, .inr (4, [.ref h_net, .ref h_tab, .ref h_wlk, .ref h_par, .int (0 : Int32)]))]) (w1 := [(h_net, .inr (0, [.ref a_net_sorts, .ref a_net_ranks, .ref a_net_starts, .ref a_net_literals, .ref a_net_nextLiterals, .ref a_net_outputs, .int net_gateTotal, .int net_inputTotal, .int net_latchTotal, .int net_outputTotal])), (a_net_sorts, .inl (cI, 60, .inl net_sorts)), (a_net_ranks, .inl (cI, 60, .inl net_ranks)), (a_net_starts, .inl (cI, 61, .inl v13.2.1)), (a_net_literals, .inl (cI, 240, .inl v13.2.2.1)), (a_net_nextLiterals, .inl (cI, 8, .inl v13.2.2.2))]) hP hD [0, 2, 3, 4, 5, 6] [1] rfl rfl (by decide) (by decide) hk1 hFc hP1 hD1
          have hP : va_P (dC, dI) vwCl [(h_exp, .inr (4, [.ref h_net, .ref h_tab, .ref h_wlk, .ref h_par, .int (0 : Int32)])), (h_net, .inr (0, [.ref a_net_sorts, .ref a_net_ranks, .ref a_net_starts, .ref a_net_literals, .ref a_net_nextLiterals, .ref a_net_outputs, .int net_gateTotal, .int net_inputTotal, .int net_latchTotal, .int net_outputTotal])), (a_net_sorts, .inl (cI, 60, .inl net_sorts)), (a_net_ranks, .inl (cI, 60, .inl net_ranks)), (a_net_starts, .inl (cI, 61, .inl v13.2.1)), (a_net_literals, .inl (cI, 240, .inl v13.2.2.1)), (a_net_nextLiterals, .inl (cI, 8, .inl v13.2.2.2))] H := hP
          have hD : va_D A [(h_exp, .inr (4, [.ref h_net, .ref h_tab, .ref h_wlk, .ref h_par, .int (0 : Int32)])), (h_net, .inr (0, [.ref a_net_sorts, .ref a_net_ranks, .ref a_net_starts, .ref a_net_literals, .ref a_net_nextLiterals, .ref a_net_outputs, .int net_gateTotal, .int net_inputTotal, .int net_latchTotal, .int net_outputTotal])), (a_net_sorts, .inl (cI, 60, .inl net_sorts)), (a_net_ranks, .inl (cI, 60, .inl net_ranks)), (a_net_starts, .inl (cI, 61, .inl v13.2.1)), (a_net_literals, .inl (cI, 240, .inl v13.2.2.1)), (a_net_nextLiterals, .inl (cI, 8, .inl v13.2.2.2))] := hD
          have hw9 := hw.symm
          subst hw9
          obtain rfl := Sum.inr.inj (Option.some.inj hm)
          exact W.iret (v := v13.1) hx hb hr (fun t ht hW => ⟨⟨v13.1, (), rfl, rfl, sx_Wi (hP.sub (ws' := [(h_net, .inr (0, [.ref a_net_sorts, .ref a_net_ranks, .ref a_net_starts, .ref a_net_literals, .ref a_net_nextLiterals, .ref a_net_outputs, .int net_gateTotal, .int net_inputTotal, .int net_latchTotal, .int net_outputTotal])), (h_exp, .inr (4, [.ref h_net, .ref h_tab, .ref h_wlk, .ref h_par, .int (0 : Int32)])), (a_net_sorts, .inl (cI, 60, .inl net_sorts)), (a_net_ranks, .inl (cI, 60, .inl net_ranks)), (a_net_starts, .inl (cI, 61, .inl v13.2.1)), (a_net_literals, .inl (cI, 240, .inl v13.2.2.1)), (a_net_nextLiterals, .inl (cI, 8, .inl v13.2.2.2))]) [1, 0, 2, 3, 4, 5, 6] rfl) hK (hD.sub (ws' := [(h_net, .inr (0, [.ref a_net_sorts, .ref a_net_ranks, .ref a_net_starts, .ref a_net_literals, .ref a_net_nextLiterals, .ref a_net_outputs, .int net_gateTotal, .int net_inputTotal, .int net_latchTotal, .int net_outputTotal])), (h_exp, .inr (4, [.ref h_net, .ref h_tab, .ref h_wlk, .ref h_par, .int (0 : Int32)])), (a_net_sorts, .inl (cI, 60, .inl net_sorts)), (a_net_ranks, .inl (cI, 60, .inl net_ranks)), (a_net_starts, .inl (cI, 61, .inl v13.2.1)), (a_net_literals, .inl (cI, 240, .inl v13.2.2.1)), (a_net_nextLiterals, .inl (cI, 8, .inl v13.2.2.2))]) [1, 0, 2, 3, 4, 5, 6] (by decide) rfl) ht hW.alike⟩, hS.F ht⟩) hS.2.2 dExp_feed_61
        · have hm := sx_neg c12 hm
          refine lv_iconst (v := (-1 : Int32)) hx hb dExp_feed_44 (by decide) ?_
          obtain rfl := Sum.inr.inj (Option.some.inj hm)
          exact W.iret (v := (-1 : Int32)) hx hb hr (fun t ht hW => ⟨⟨(-1 : Int32), (), rfl, rfl, sx_Wi hP hK hD ht hW.alike⟩, hS.F ht⟩) hS.2.2 dExp_feed_45
      · have hm := sx_pos c9 hm
        cases hm
set_option maxHeartbeats 4000000 in
set_option maxRecDepth 100000 in
theorem kt_Exp_feed (l : Launch) (hnt : l.stackTraces = false) (dC : Nat → ClassId) (dI : Nat → Nat → Nat) (cI cL cZ : ClassId) (t1 t2 : Nat) (h_net a_net_sorts a_net_ranks a_net_starts a_net_literals a_net_nextLiterals a_net_outputs h_exp h_tab h_wlk h_par : Nat) (net_sorts net_ranks net_starts net_literals net_nextLiterals : Nat → Int32) (net_gateTotal net_inputTotal net_latchTotal net_outputTotal exp_explored : Int32) (sz : Nat) (p0 : Int32) (p1 : Int32) (p2 : Int32) (k : Nat) (hm : m_Exp_feed net_sorts net_ranks net_starts net_literals net_nextLiterals net_gateTotal exp_explored p0 p1 p2 = some (.inl k)) : sx_Thr l yExp_feed wsExp_feed rmt_Exp_feed (sx_Pc (dC, dI) [(cI, .int), (cL, .long), (cZ, .boolean)] t1 t2 [(h_net, .inr (0, [.ref a_net_sorts, .ref a_net_ranks, .ref a_net_starts, .ref a_net_literals, .ref a_net_nextLiterals, .ref a_net_outputs, .int net_gateTotal, .int net_inputTotal, .int net_latchTotal, .int net_outputTotal])), (h_exp, .inr (4, [.ref h_net, .ref h_tab, .ref h_wlk, .ref h_par, .int exp_explored])), (a_net_sorts, .inl (cI, 60, .inl net_sorts)), (a_net_ranks, .inl (cI, 60, .inl net_ranks)), (a_net_starts, .inl (cI, 61, .inl net_starts)), (a_net_literals, .inl (cI, 240, .inl net_literals)), (a_net_nextLiterals, .inl (cI, 8, .inl net_nextLiterals))] sz [.ref h_exp, .int p0, .int p1, .int p2]) (sx_E k) 1 6 := by
  refine sx_thrOf (cc := cExp_feed) (maxL := 4) (ret := (some .int)) (by decide) rfl ?_
  intro p e s m args below meth c s₁ B hml hnx hv
  obtain ⟨rfl, hsz, hP, hK, hD0, hX⟩ := hv
  have hx := B.exec
  have hb := B.bytes
  have hr := B.returns
  have hts0 := atoms_spec (ws := wsExp_feed) B.pre
  have hts : ∀ w ∈ tb, w.before _ s = true := fun w h => hts0 w (List.mem_cons_of_mem _ h)
  have hown : s.vm.findClass "StateExplorer" = some m.cls := findClass_of_methodNamed B.named
  have hlocks := B.notSynchronized
  subst hsz
  have hD := hD0.self (sz := s.heap.size)
  generalize hAe : va_A [(h_net, .inr (0, [.ref a_net_sorts, .ref a_net_ranks, .ref a_net_starts, .ref a_net_literals, .ref a_net_nextLiterals, .ref a_net_outputs, .int net_gateTotal, .int net_inputTotal, .int net_latchTotal, .int net_outputTotal])), (h_exp, .inr (4, [.ref h_net, .ref h_tab, .ref h_wlk, .ref h_par, .int exp_explored])), (a_net_sorts, .inl (cI, 60, .inl net_sorts)), (a_net_ranks, .inl (cI, 60, .inl net_ranks)), (a_net_starts, .inl (cI, 61, .inl net_starts)), (a_net_literals, .inl (cI, 240, .inl net_literals)), (a_net_nextLiterals, .inl (cI, 8, .inl net_nextLiterals))] s.heap.size = A at hD hX 
  have hA : ∀ q : Nat, s.heap.size ≤ q → A q := fun q h => by rw [← hAe]; exact Or.inr h
  have hS : va_S A s.heap s.heap [] := va_S.rf
  have hl := lv_entry ([.ref h_exp, .int p0, .int p1, .int p2]) (n := 4) (Nat.le_of_ble_eq_true rfl)
  rw [lg_entry_eq]
  generalize (lg_sl ([.ref h_exp, .int p0, .int p1, .int p2]) ++ List.replicate (4 - (lg_sl ([.ref h_exp, .int p0, .int p1, .int p2])).length) Slot.unset).toArray = ls at hl ⊢
  have hl : lv_has ls 4 [(0, .ref h_exp), (1, .int p0), (2, .int p1), (3, .int p2)] := hl
  have C0 : sx_C p s m _ meth c cExp_feed 4 "StateExplorer" A (dC, dI) [(cI, .int), (cL, .long), (cZ, .boolean)] t1 t2 := ⟨hx, hb, hml, hown, hts, hA, hK, hlocks, hX⟩
  rw [m_Exp_feed] at hm
  refine lv_aload_n hx hb dExp_feed_0 rfl (lv_at hl 0 rfl) ?_
  refine lv_iload_n hx hb dExp_feed_1 rfl (lv_at hl 1 rfl) ?_
  obtain ⟨v1, hv1, hm⟩ := sx_bind hm
  rcases v1 with k9 | u9
  · have hPc := hP.sub (ws' := [(h_net, .inr (0, [.ref a_net_sorts, .ref a_net_ranks, .ref a_net_starts, .ref a_net_literals, .ref a_net_nextLiterals, .ref a_net_outputs, .int net_gateTotal, .int net_inputTotal, .int net_latchTotal, .int net_outputTotal])), (h_exp, .inr (4, [.ref h_net, .ref h_tab, .ref h_wlk, .ref h_par, .int exp_explored]))]) [0, 1] rfl
    have hDc := hD.sub (ws' := [(h_net, .inr (0, [.ref a_net_sorts, .ref a_net_ranks, .ref a_net_starts, .ref a_net_literals, .ref a_net_nextLiterals, .ref a_net_outputs, .int net_gateTotal, .int net_inputTotal, .int net_latchTotal, .int net_outputTotal])), (h_exp, .inr (4, [.ref h_net, .ref h_tab, .ref h_wlk, .ref h_par, .int exp_explored]))]) [0, 1] (by decide) rfl
    have hFc := va_free (wc := [(h_net, .inr (0, [.ref a_net_sorts, .ref a_net_ranks, .ref a_net_starts, .ref a_net_literals, .ref a_net_nextLiterals, .ref a_net_outputs, .int net_gateTotal, .int net_inputTotal, .int net_latchTotal, .int net_outputTotal])), (h_exp, .inr (4, [.ref h_net, .ref h_tab, .ref h_wlk, .ref h_par, .int exp_explored]))]) hD hS hA [0, 1] rfl
    obtain rfl := Sum.inl.inj (Option.some.inj hm)
    refine sx_callT (As := [.int p0]) (rest := []) ⟨hx, hb, hml, hown, hts⟩ (kt_Exp_requireGate l hnt dC dI cI cL cZ t1 t2 h_net a_net_sorts a_net_ranks a_net_starts a_net_literals a_net_nextLiterals a_net_outputs h_exp h_tab h_wlk h_par net_gateTotal net_inputTotal net_latchTotal net_outputTotal exp_explored _ p0 _ hv1) (cwV 1 hts (sx_gV tw_454 tw_456 tw_16 tw_36 tcExp_requireGate) rfl rfl rfl (by decide +kernel) ⟨Nat.le_of_ble_eq_true rfl, Nat.le_of_ble_eq_true rfl⟩) (sx_pV hK hX hS hPc hDc hFc (va_recv hK hPc (ci := 4) (q0 := 1) rfl rfl)) rfl hl.1 rfl (lv_room (Nat.le_of_ble_eq_true rfl)) dExp_feed_2 ⟨Nat.le_of_ble_eq_true rfl, Nat.le_of_ble_eq_true rfl⟩ (fun ce q H1 z1 z2 z3 z4 z5 => ?_)
    exact sx_out hnx hlocks z3 z4 z5 (Nat.le_of_ble_eq_true rfl) (Nat.le_of_ble_eq_true rfl)
  · have hPc := hP.sub (ws' := [(h_net, .inr (0, [.ref a_net_sorts, .ref a_net_ranks, .ref a_net_starts, .ref a_net_literals, .ref a_net_nextLiterals, .ref a_net_outputs, .int net_gateTotal, .int net_inputTotal, .int net_latchTotal, .int net_outputTotal])), (h_exp, .inr (4, [.ref h_net, .ref h_tab, .ref h_wlk, .ref h_par, .int exp_explored]))]) [0, 1] rfl
    have hDc := hD.sub (ws' := [(h_net, .inr (0, [.ref a_net_sorts, .ref a_net_ranks, .ref a_net_starts, .ref a_net_literals, .ref a_net_nextLiterals, .ref a_net_outputs, .int net_gateTotal, .int net_inputTotal, .int net_latchTotal, .int net_outputTotal])), (h_exp, .inr (4, [.ref h_net, .ref h_tab, .ref h_wlk, .ref h_par, .int exp_explored]))]) [0, 1] (by decide) rfl
    have hFc := va_free (wc := [(h_net, .inr (0, [.ref a_net_sorts, .ref a_net_ranks, .ref a_net_starts, .ref a_net_literals, .ref a_net_nextLiterals, .ref a_net_outputs, .int net_gateTotal, .int net_inputTotal, .int net_latchTotal, .int net_outputTotal])), (h_exp, .inr (4, [.ref h_net, .ref h_tab, .ref h_wlk, .ref h_par, .int exp_explored]))]) hD hS hA [0, 1] rfl
    refine sx_stV (va_runV (As := [.int p0]) (rest := []) ⟨hx, hb, hml, hown, hts⟩ (k_Exp_requireGate l dC dI cI cL cZ t1 t2 h_net a_net_sorts a_net_ranks a_net_starts a_net_literals a_net_nextLiterals a_net_outputs h_exp h_tab h_wlk h_par net_gateTotal net_inputTotal net_latchTotal net_outputTotal exp_explored _ p0 () hv1) (cwV 1 hts (sx_gV tw_454 tw_456 tw_16 tw_36 tcExp_requireGate) rfl rfl rfl (by decide +kernel) ⟨Nat.le_of_ble_eq_true rfl, Nat.le_of_ble_eq_true rfl⟩) (sx_pV hK hX hS hPc hDc hFc (va_recv hK hPc (ci := 4) (q0 := 1) rfl rfl)) rfl rfl hl.1 rfl (lv_room (Nat.le_of_ble_eq_true rfl)) dExp_feed_2 ⟨Nat.le_of_ble_eq_true rfl, Nat.le_of_ble_eq_true rfl⟩) ?_
    refine lv_aload_n hx hb dExp_feed_5 rfl (lv_at hl 0 rfl) ?_
    refine lv_iload_n hx hb dExp_feed_6 rfl (lv_at hl 2 rfl) ?_
    obtain ⟨v4, hv4, hm⟩ := sx_bind hm
    rcases v4 with k9 | u9
    · have hPc := hP.sub (ws' := [(h_net, .inr (0, [.ref a_net_sorts, .ref a_net_ranks, .ref a_net_starts, .ref a_net_literals, .ref a_net_nextLiterals, .ref a_net_outputs, .int net_gateTotal, .int net_inputTotal, .int net_latchTotal, .int net_outputTotal])), (h_exp, .inr (4, [.ref h_net, .ref h_tab, .ref h_wlk, .ref h_par, .int exp_explored]))]) [0, 1] rfl
      have hDc := hD.sub (ws' := [(h_net, .inr (0, [.ref a_net_sorts, .ref a_net_ranks, .ref a_net_starts, .ref a_net_literals, .ref a_net_nextLiterals, .ref a_net_outputs, .int net_gateTotal, .int net_inputTotal, .int net_latchTotal, .int net_outputTotal])), (h_exp, .inr (4, [.ref h_net, .ref h_tab, .ref h_wlk, .ref h_par, .int exp_explored]))]) [0, 1] (by decide) rfl
      have hFc := va_free (wc := [(h_net, .inr (0, [.ref a_net_sorts, .ref a_net_ranks, .ref a_net_starts, .ref a_net_literals, .ref a_net_nextLiterals, .ref a_net_outputs, .int net_gateTotal, .int net_inputTotal, .int net_latchTotal, .int net_outputTotal])), (h_exp, .inr (4, [.ref h_net, .ref h_tab, .ref h_wlk, .ref h_par, .int exp_explored]))]) hD hS hA [0, 1] rfl
      obtain rfl := Sum.inl.inj (Option.some.inj hm)
      refine sx_callT (As := [.int p1]) (rest := []) ⟨hx, hb, hml, hown, hts⟩ (kt_Exp_requireGate l hnt dC dI cI cL cZ t1 t2 h_net a_net_sorts a_net_ranks a_net_starts a_net_literals a_net_nextLiterals a_net_outputs h_exp h_tab h_wlk h_par net_gateTotal net_inputTotal net_latchTotal net_outputTotal exp_explored _ p1 _ hv4) (cwV 1 hts (sx_gV tw_454 tw_456 tw_16 tw_36 tcExp_requireGate) rfl rfl rfl (by decide +kernel) ⟨Nat.le_of_ble_eq_true rfl, Nat.le_of_ble_eq_true rfl⟩) (sx_pV hK hX hS hPc hDc hFc (va_recv hK hPc (ci := 4) (q0 := 1) rfl rfl)) rfl hl.1 rfl (lv_room (Nat.le_of_ble_eq_true rfl)) dExp_feed_7 ⟨Nat.le_of_ble_eq_true rfl, Nat.le_of_ble_eq_true rfl⟩ (fun ce q H1 z1 z2 z3 z4 z5 => ?_)
      exact sx_out hnx hlocks z3 z4 z5 (Nat.le_of_ble_eq_true rfl) (Nat.le_of_ble_eq_true rfl)
    · have hPc := hP.sub (ws' := [(h_net, .inr (0, [.ref a_net_sorts, .ref a_net_ranks, .ref a_net_starts, .ref a_net_literals, .ref a_net_nextLiterals, .ref a_net_outputs, .int net_gateTotal, .int net_inputTotal, .int net_latchTotal, .int net_outputTotal])), (h_exp, .inr (4, [.ref h_net, .ref h_tab, .ref h_wlk, .ref h_par, .int exp_explored]))]) [0, 1] rfl
      have hDc := hD.sub (ws' := [(h_net, .inr (0, [.ref a_net_sorts, .ref a_net_ranks, .ref a_net_starts, .ref a_net_literals, .ref a_net_nextLiterals, .ref a_net_outputs, .int net_gateTotal, .int net_inputTotal, .int net_latchTotal, .int net_outputTotal])), (h_exp, .inr (4, [.ref h_net, .ref h_tab, .ref h_wlk, .ref h_par, .int exp_explored]))]) [0, 1] (by decide) rfl
      have hFc := va_free (wc := [(h_net, .inr (0, [.ref a_net_sorts, .ref a_net_ranks, .ref a_net_starts, .ref a_net_literals, .ref a_net_nextLiterals, .ref a_net_outputs, .int net_gateTotal, .int net_inputTotal, .int net_latchTotal, .int net_outputTotal])), (h_exp, .inr (4, [.ref h_net, .ref h_tab, .ref h_wlk, .ref h_par, .int exp_explored]))]) hD hS hA [0, 1] rfl
      refine sx_stV (va_runV (As := [.int p1]) (rest := []) ⟨hx, hb, hml, hown, hts⟩ (k_Exp_requireGate l dC dI cI cL cZ t1 t2 h_net a_net_sorts a_net_ranks a_net_starts a_net_literals a_net_nextLiterals a_net_outputs h_exp h_tab h_wlk h_par net_gateTotal net_inputTotal net_latchTotal net_outputTotal exp_explored _ p1 () hv4) (cwV 1 hts (sx_gV tw_454 tw_456 tw_16 tw_36 tcExp_requireGate) rfl rfl rfl (by decide +kernel) ⟨Nat.le_of_ble_eq_true rfl, Nat.le_of_ble_eq_true rfl⟩) (sx_pV hK hX hS hPc hDc hFc (va_recv hK hPc (ci := 4) (q0 := 1) rfl rfl)) rfl rfl hl.1 rfl (lv_room (Nat.le_of_ble_eq_true rfl)) dExp_feed_7 ⟨Nat.le_of_ble_eq_true rfl, Nat.le_of_ble_eq_true rfl⟩) ?_
      refine lv_aload_n hx hb dExp_feed_10 rfl (lv_at hl 0 rfl) ?_
      refine va_get (D := (dC, dI)) (ci := 4) (v := .ref h_net) (C := RExp) (T := TExp) (N := 5) hx hb hts inExp hown hK hP 1 rfl rfl 0 (by decide) (hts _ tw_193) (fun _ h9 => h9) rfl dExp_feed_11 ?_
      refine lv_iload_n hx hb dExp_feed_14 rfl (lv_at hl 1 rfl) ?_
      obtain ⟨v7, hv7, hm⟩ := sx_bind hm
      have hPc := hP.sub (ws' := [(h_net, .inr (0, [.ref a_net_sorts, .ref a_net_ranks, .ref a_net_starts, .ref a_net_literals, .ref a_net_nextLiterals, .ref a_net_outputs, .int net_gateTotal, .int net_inputTotal, .int net_latchTotal, .int net_outputTotal])), (a_net_sorts, .inl (cI, 60, .inl net_sorts)), (a_net_starts, .inl (cI, 61, .inl net_starts))]) [0, 2, 4] rfl
      have hDc := hD.sub (ws' := [(h_net, .inr (0, [.ref a_net_sorts, .ref a_net_ranks, .ref a_net_starts, .ref a_net_literals, .ref a_net_nextLiterals, .ref a_net_outputs, .int net_gateTotal, .int net_inputTotal, .int net_latchTotal, .int net_outputTotal])), (a_net_sorts, .inl (cI, 60, .inl net_sorts)), (a_net_starts, .inl (cI, 61, .inl net_starts))]) [0, 2, 4] (by decide) rfl
      have hFc := va_free (wc := [(h_net, .inr (0, [.ref a_net_sorts, .ref a_net_ranks, .ref a_net_starts, .ref a_net_literals, .ref a_net_nextLiterals, .ref a_net_outputs, .int net_gateTotal, .int net_inputTotal, .int net_latchTotal, .int net_outputTotal])), (a_net_sorts, .inl (cI, 60, .inl net_sorts)), (a_net_starts, .inl (cI, 61, .inl net_starts))]) hD hS hA [0, 2, 4] rfl
      refine sx_stI (va_runV (As := [.int p0]) (rest := []) ⟨hx, hb, hml, hown, hts⟩ (k_Net_takesFeed l dC dI cI cL cZ t1 t2 h_net a_net_sorts a_net_ranks a_net_starts a_net_literals a_net_nextLiterals a_net_outputs net_sorts net_starts net_gateTotal net_inputTotal net_latchTotal net_outputTotal _ p0 v7 hv7) (cwV 1 hts (sx_gV tw_474 tw_475 tw_476 tw_37 tcNet_takesFeed) rfl rfl rfl (by decide +kernel) ⟨Nat.le_of_ble_eq_true rfl, Nat.le_of_ble_eq_true rfl⟩) (sx_pV hK hX hS hPc hDc hFc (va_recv hK hPc (ci := 0) (q0 := 0) rfl rfl)) rfl rfl hl.1 rfl (lv_room (Nat.le_of_ble_eq_true rfl)) dExp_feed_15 ⟨Nat.le_of_ble_eq_true rfl, Nat.le_of_ble_eq_true rfl⟩) ?_
      refine lv_if_ne (tgt := 31) hx hb dExp_feed_18 (by decide) (fun c9 => ?_) (fun c9 => ?_)
      · have hm := sx_neg c9 hm
        refine lv_aload_n hx hb dExp_feed_31 rfl (lv_at hl 0 rfl) ?_
        refine va_get (D := (dC, dI)) (ci := 4) (v := .ref h_net) (C := RExp) (T := TExp) (N := 5) hx hb hts inExp hown hK hP 1 rfl rfl 0 (by decide) (hts _ tw_193) (fun _ h9 => h9) rfl dExp_feed_32 ?_
        obtain ⟨v10, hv10, hm⟩ := sx_bind hm
        have hPc := hP.sub (ws' := [(h_net, .inr (0, [.ref a_net_sorts, .ref a_net_ranks, .ref a_net_starts, .ref a_net_literals, .ref a_net_nextLiterals, .ref a_net_outputs, .int net_gateTotal, .int net_inputTotal, .int net_latchTotal, .int net_outputTotal])), (a_net_starts, .inl (cI, 61, .inl net_starts))]) [0, 4] rfl
        have hDc := hD.sub (ws' := [(h_net, .inr (0, [.ref a_net_sorts, .ref a_net_ranks, .ref a_net_starts, .ref a_net_literals, .ref a_net_nextLiterals, .ref a_net_outputs, .int net_gateTotal, .int net_inputTotal, .int net_latchTotal, .int net_outputTotal])), (a_net_starts, .inl (cI, 61, .inl net_starts))]) [0, 4] (by decide) rfl
        have hFc := va_free (wc := [(h_net, .inr (0, [.ref a_net_sorts, .ref a_net_ranks, .ref a_net_starts, .ref a_net_literals, .ref a_net_nextLiterals, .ref a_net_outputs, .int net_gateTotal, .int net_inputTotal, .int net_latchTotal, .int net_outputTotal])), (a_net_starts, .inl (cI, 61, .inl net_starts))]) hD hS hA [0, 4] rfl
        refine sx_stI (va_runV (As := []) (rest := []) ⟨hx, hb, hml, hown, hts⟩ (k_Net_feedTotal l dC dI cI cL cZ t1 t2 h_net a_net_sorts a_net_ranks a_net_starts a_net_literals a_net_nextLiterals a_net_outputs net_starts net_gateTotal net_inputTotal net_latchTotal net_outputTotal _ v10 hv10) (cwV 0 hts (sx_gV tw_353 tw_354 tw_355 tw_37 tcNet_feedTotal) rfl rfl rfl (by decide +kernel) ⟨Nat.le_of_ble_eq_true rfl, Nat.le_of_ble_eq_true rfl⟩) (sx_pV hK hX hS hPc hDc hFc (va_recv hK hPc (ci := 0) (q0 := 0) rfl rfl)) rfl rfl hl.1 rfl (lv_room (Nat.le_of_ble_eq_true rfl)) dExp_feed_35 ⟨Nat.le_of_ble_eq_true rfl, Nat.le_of_ble_eq_true rfl⟩) ?_
        refine lv_sipush (v := (240 : Int32)) hx hb dExp_feed_38 (by decide) ?_
        refine lv_icmp_lt (tgt := 46) hx hb dExp_feed_41 (by decide) (fun c12 => ?_) (fun c12 => ?_)
        · have hm := sx_pos c12 hm
          refine lv_aload_n hx hb dExp_feed_46 rfl (lv_at hl 0 rfl) ?_
          refine lv_iconst (v := (0 : Int32)) hx hb dExp_feed_47 (by decide) ?_
          refine va_put (D := (dC, dI)) (ci := 4) (v := .int (0 : Int32)) (ty := .boolean) (C := RExp) (T := TExp) (N := 5) hx hb hts inExp tyExp tyExp_ok nmExp hown hK hP hD hS 1 rfl rfl 4 (by decide) (hts _ tw_197) (fun _ h9 => h9) rfl (by decide +kernel) (by decide) (by decide) (Nat.le_of_ble_eq_true rfl) dExp_feed_48 (fun H locs hP hD hS => ?_)
          have hP : va_P (dC, dI) vwCl [(h_net, .inr (0, [.ref a_net_sorts, .ref a_net_ranks, .ref a_net_starts, .ref a_net_literals, .ref a_net_nextLiterals, .ref a_net_outputs, .int net_gateTotal, .int net_inputTotal, .int net_latchTotal, .int net_outputTotal])), (h_exp, .inr (4, [.ref h_net, .ref h_tab, .ref h_wlk, .ref h_par, .int (0 : Int32)])), (a_net_sorts, .inl (cI, 60, .inl net_sorts)), (a_net_ranks, .inl (cI, 60, .inl net_ranks)), (a_net_starts, .inl (cI, 61, .inl net_starts)), (a_net_literals, .inl (cI, 240, .inl net_literals)), (a_net_nextLiterals, .inl (cI, 8, .inl net_nextLiterals))] H := hP
          have hD : va_D A [(h_net, .inr (0, [.ref a_net_sorts, .ref a_net_ranks, .ref a_net_starts, .ref a_net_literals, .ref a_net_nextLiterals, .ref a_net_outputs, .int net_gateTotal, .int net_inputTotal, .int net_latchTotal, .int net_outputTotal])), (h_exp, .inr (4, [.ref h_net, .ref h_tab, .ref h_wlk, .ref h_par, .int (0 : Int32)])), (a_net_sorts, .inl (cI, 60, .inl net_sorts)), (a_net_ranks, .inl (cI, 60, .inl net_ranks)), (a_net_starts, .inl (cI, 61, .inl net_starts)), (a_net_literals, .inl (cI, 240, .inl net_literals)), (a_net_nextLiterals, .inl (cI, 8, .inl net_nextLiterals))] := hD
          refine lv_aload_n hx hb dExp_feed_51 rfl (lv_at hl 0 rfl) ?_
          refine va_get (D := (dC, dI)) (ci := 4) (v := .ref h_net) (C := RExp) (T := TExp) (N := 5) hx hb hts inExp hown hK hP 1 rfl rfl 0 (by decide) (hts _ tw_193) (fun _ h9 => h9) rfl dExp_feed_52 ?_
          refine lv_iload_n hx hb dExp_feed_55 rfl (lv_at hl 1 rfl) ?_
          refine lv_iload_n hx hb dExp_feed_56 rfl (lv_at hl 2 rfl) ?_
          refine lv_iload_n hx hb dExp_feed_57 rfl (lv_at hl 3 rfl) ?_
          obtain ⟨v13, hv13, hm⟩ := sx_bind hm
          have hPc := hP.sub (ws' := [(h_net, .inr (0, [.ref a_net_sorts, .ref a_net_ranks, .ref a_net_starts, .ref a_net_literals, .ref a_net_nextLiterals, .ref a_net_outputs, .int net_gateTotal, .int net_inputTotal, .int net_latchTotal, .int net_outputTotal])), (a_net_sorts, .inl (cI, 60, .inl net_sorts)), (a_net_ranks, .inl (cI, 60, .inl net_ranks)), (a_net_starts, .inl (cI, 61, .inl net_starts)), (a_net_literals, .inl (cI, 240, .inl net_literals)), (a_net_nextLiterals, .inl (cI, 8, .inl net_nextLiterals))]) [0, 2, 3, 4, 5, 6] rfl
          have hDc := hD.sub (ws' := [(h_net, .inr (0, [.ref a_net_sorts, .ref a_net_ranks, .ref a_net_starts, .ref a_net_literals, .ref a_net_nextLiterals, .ref a_net_outputs, .int net_gateTotal, .int net_inputTotal, .int net_latchTotal, .int net_outputTotal])), (a_net_sorts, .inl (cI, 60, .inl net_sorts)), (a_net_ranks, .inl (cI, 60, .inl net_ranks)), (a_net_starts, .inl (cI, 61, .inl net_starts)), (a_net_literals, .inl (cI, 240, .inl net_literals)), (a_net_nextLiterals, .inl (cI, 8, .inl net_nextLiterals))]) [0, 2, 3, 4, 5, 6] (by decide) rfl
          have hFc := va_free (wc := [(h_net, .inr (0, [.ref a_net_sorts, .ref a_net_ranks, .ref a_net_starts, .ref a_net_literals, .ref a_net_nextLiterals, .ref a_net_outputs, .int net_gateTotal, .int net_inputTotal, .int net_latchTotal, .int net_outputTotal])), (a_net_sorts, .inl (cI, 60, .inl net_sorts)), (a_net_ranks, .inl (cI, 60, .inl net_ranks)), (a_net_starts, .inl (cI, 61, .inl net_starts)), (a_net_literals, .inl (cI, 240, .inl net_literals)), (a_net_nextLiterals, .inl (cI, 8, .inl net_nextLiterals))]) hD hS hA [0, 2, 3, 4, 5, 6] rfl
          refine va_calli (va_runV (As := [.int p0, .int p1, .int p2]) (rest := []) ⟨hx, hb, hml, hown, hts⟩ (k_Net_addFeed l dC dI cI cL cZ t1 t2 h_net a_net_sorts a_net_ranks a_net_starts a_net_literals a_net_nextLiterals a_net_outputs net_sorts net_ranks net_starts net_literals net_nextLiterals net_gateTotal net_inputTotal net_latchTotal net_outputTotal _ p0 p1 p2 v13 hv13) (cwV 3 hts (sx_gV tw_498 tw_499 tw_500 tw_37 tcNet_addFeed) rfl rfl rfl (by decide +kernel) ⟨Nat.le_of_ble_eq_true rfl, Nat.le_of_ble_eq_true rfl⟩) (sx_pV hK hX hS hPc hDc hFc (va_recv hK hPc (ci := 0) (q0 := 0) rfl rfl)) rfl rfl hl.1 rfl (lv_room (Nat.le_of_ble_eq_true rfl)) dExp_feed_58 ⟨Nat.le_of_ble_eq_true rfl, Nat.le_of_ble_eq_true rfl⟩) hS (fun q _ h => hFc q h) hFc (fun r14 u_ t_ H locs ht hvm hw hB hz1 hk1 hS => ?_)
          obtain ⟨hP1, -, hD1⟩ := hB
          rw [ht] at hP1
          obtain ⟨hP, hD⟩ := va_join (wr := [(h_exp, .inr (4, [.ref h_net, .ref h_tab, .ref h_wlk, .ref h_par, .int (0 : Int32)]))]) (w1 := [(h_net, .inr (0, [.ref a_net_sorts, .ref a_net_ranks, .ref a_net_starts, .ref a_net_literals, .ref a_net_nextLiterals, .ref a_net_outputs, .int net_gateTotal, .int net_inputTotal, .int net_latchTotal, .int net_outputTotal])), (a_net_sorts, .inl (cI, 60, .inl net_sorts)), (a_net_ranks, .inl (cI, 60, .inl net_ranks)), (a_net_starts, .inl (cI, 61, .inl v13.2.1)), (a_net_literals, .inl (cI, 240, .inl v13.2.2.1)), (a_net_nextLiterals, .inl (cI, 8, .inl v13.2.2.2))]) hP hD [0, 2, 3, 4, 5, 6] [1] rfl rfl (by decide) (by decide) hk1 hFc hP1 hD1
          have hP : va_P (dC, dI) vwCl [(h_exp, .inr (4, [.ref h_net, .ref h_tab, .ref h_wlk, .ref h_par, .int (0 : Int32)])), (h_net, .inr (0, [.ref a_net_sorts, .ref a_net_ranks, .ref a_net_starts, .ref a_net_literals, .ref a_net_nextLiterals, .ref a_net_outputs, .int net_gateTotal, .int net_inputTotal, .int net_latchTotal, .int net_outputTotal])), (a_net_sorts, .inl (cI, 60, .inl net_sorts)), (a_net_ranks, .inl (cI, 60, .inl net_ranks)), (a_net_starts, .inl (cI, 61, .inl v13.2.1)), (a_net_literals, .inl (cI, 240, .inl v13.2.2.1)), (a_net_nextLiterals, .inl (cI, 8, .inl v13.2.2.2))] H := hP
          have hD : va_D A [(h_exp, .inr (4, [.ref h_net, .ref h_tab, .ref h_wlk, .ref h_par, .int (0 : Int32)])), (h_net, .inr (0, [.ref a_net_sorts, .ref a_net_ranks, .ref a_net_starts, .ref a_net_literals, .ref a_net_nextLiterals, .ref a_net_outputs, .int net_gateTotal, .int net_inputTotal, .int net_latchTotal, .int net_outputTotal])), (a_net_sorts, .inl (cI, 60, .inl net_sorts)), (a_net_ranks, .inl (cI, 60, .inl net_ranks)), (a_net_starts, .inl (cI, 61, .inl v13.2.1)), (a_net_literals, .inl (cI, 240, .inl v13.2.2.1)), (a_net_nextLiterals, .inl (cI, 8, .inl v13.2.2.2))] := hD
          have hw9 := hw.symm
          subst hw9
          cases hm
        · have hm := sx_neg c12 hm
          refine lv_iconst (v := (-1 : Int32)) hx hb dExp_feed_44 (by decide) ?_
          cases hm
      · have hm := sx_pos c9 hm
        obtain rfl := Sum.inl.inj (Option.some.inj hm)
        exact sx_throwS (cls := "java/lang/IllegalStateException") (text := "this gate takes no feed, or no more") (names := ["java/lang/RuntimeException", "java/lang/Exception"]) hx hb hnt hown (by decide +kernel) (by decide +kernel) (hts _ tw_482) (hts _ tw_47) (hts _ tw_483) (hX.2.2.2.2.2.2.2.1 ("StateExplorer", 65, "this gate takes no feed, or no more") (by decide +kernel)) (sx_own hts hX sx_og_67 sx_on_67) (hl.1.trans hml.symm) dExp_feed_21 dExp_feed_24 dExp_feed_25 dExp_feed_27 dExp_feed_30 hnx hlocks (Nat.le_of_ble_eq_true rfl) (Nat.le_of_ble_eq_true rfl) (Nat.le_of_ble_eq_true rfl) (Nat.le_of_ble_eq_true rfl) (Nat.le_of_ble_eq_true rfl) (Nat.le_of_ble_eq_true rfl)
noncomputable def m_Exp_output (net_outputs : Nat → Int32) (net_gateTotal net_outputTotal exp_explored : Int32) (p0 : Int32) : Option (Nat ⊕ (Int32 × (Nat → Int32) × Int32 × Int32)) := (m_Exp_requireGate net_gateTotal p0).bind (Sum.elim (fun k => some (.inl k)) (fun _ => (if net_outputTotal < (6 : Int32) then (m_Net_addOutput net_outputs net_outputTotal p0).bind (fun v5 => some (.inr (v5.1, v5.2.1, v5.2.2, (0 : Int32)))) else some (.inr ((-1 : Int32), net_outputs, net_outputTotal, exp_explored)))))
def rm_Exp_output : Room := { frames := 1, cells := 0, slots := 0, locals := 21 }
def rmt_Exp_output : Room := { frames := 7, cells := 1, slots := 6, locals := 121 }
set_option maxHeartbeats 4000000 in
set_option maxRecDepth 100000 in
theorem k_Exp_output (l : Launch) (dC : Nat → ClassId) (dI : Nat → Nat → Nat) (cI cL cZ : ClassId) (t1 t2 : Nat) (h_net a_net_sorts a_net_ranks a_net_starts a_net_literals a_net_nextLiterals a_net_outputs h_exp h_tab h_wlk h_par : Nat) (net_outputs : Nat → Int32) (net_gateTotal net_inputTotal net_latchTotal net_outputTotal exp_explored : Int32) (sz : Nat) (p0 : Int32) (v : Int32 × (Nat → Int32) × Int32 × Int32) (hm : m_Exp_output net_outputs net_gateTotal net_outputTotal exp_explored p0 = some (.inr v)) : Met l yExp_output wsExp_output rm_Exp_output (sx_Pc (dC, dI) [(cI, .int), (cL, .long), (cZ, .boolean)] t1 t2 [(h_net, .inr (0, [.ref a_net_sorts, .ref a_net_ranks, .ref a_net_starts, .ref a_net_literals, .ref a_net_nextLiterals, .ref a_net_outputs, .int net_gateTotal, .int net_inputTotal, .int net_latchTotal, .int net_outputTotal])), (h_exp, .inr (4, [.ref h_net, .ref h_tab, .ref h_wlk, .ref h_par, .int exp_explored])), (a_net_outputs, .inl (cI, 6, .inl net_outputs))] sz [.ref h_exp, .int p0]) (va_Qi (fun (r : Int32) (_ : Unit) => r = v.1) (fun _ t => sx_W (dC, dI) [(cI, .int), (cL, .long), (cZ, .boolean)] (va_A [(h_net, .inr (0, [.ref a_net_sorts, .ref a_net_ranks, .ref a_net_starts, .ref a_net_literals, .ref a_net_nextLiterals, .ref a_net_outputs, .int net_gateTotal, .int net_inputTotal, .int net_latchTotal, .int net_outputTotal])), (h_exp, .inr (4, [.ref h_net, .ref h_tab, .ref h_wlk, .ref h_par, .int exp_explored])), (a_net_outputs, .inl (cI, 6, .inl net_outputs))] sz) [(h_net, .inr (0, [.ref a_net_sorts, .ref a_net_ranks, .ref a_net_starts, .ref a_net_literals, .ref a_net_nextLiterals, .ref a_net_outputs, .int net_gateTotal, .int net_inputTotal, .int net_latchTotal, .int v.2.2.1])), (h_exp, .inr (4, [.ref h_net, .ref h_tab, .ref h_wlk, .ref h_par, .int v.2.2.2])), (a_net_outputs, .inl (cI, 6, .inl v.2.1))] t) (va_A [(h_net, .inr (0, [.ref a_net_sorts, .ref a_net_ranks, .ref a_net_starts, .ref a_net_literals, .ref a_net_nextLiterals, .ref a_net_outputs, .int net_gateTotal, .int net_inputTotal, .int net_latchTotal, .int net_outputTotal])), (h_exp, .inr (4, [.ref h_net, .ref h_tab, .ref h_wlk, .ref h_par, .int exp_explored])), (a_net_outputs, .inl (cI, 6, .inl net_outputs))] sz)) 0 0 (va_A [(h_net, .inr (0, [.ref a_net_sorts, .ref a_net_ranks, .ref a_net_starts, .ref a_net_literals, .ref a_net_nextLiterals, .ref a_net_outputs, .int net_gateTotal, .int net_inputTotal, .int net_latchTotal, .int net_outputTotal])), (h_exp, .inr (4, [.ref h_net, .ref h_tab, .ref h_wlk, .ref h_par, .int exp_explored])), (a_net_outputs, .inl (cI, 6, .inl net_outputs))] sz) := by
  refine Met.ofW (cc := cExp_output) (maxL := 2) (ret := (some .int)) (by decide) rfl ?_
  intro p e s m args below meth c s₁ B hml hv
  obtain ⟨rfl, hsz, hP, hK, hD0, hX⟩ := hv
  have hx := B.exec
  have hb := B.bytes
  have hr := B.returns
  have hts0 := atoms_spec (ws := wsExp_output) B.pre
  have hts : ∀ w ∈ tb, w.before _ s = true := fun w h => hts0 w (List.mem_cons_of_mem _ h)
  have hown : s.vm.findClass "StateExplorer" = some m.cls := findClass_of_methodNamed B.named
  have hlocks := B.notSynchronized
  subst hsz
  have hD := hD0.self (sz := s.heap.size)
  generalize hAe : va_A [(h_net, .inr (0, [.ref a_net_sorts, .ref a_net_ranks, .ref a_net_starts, .ref a_net_literals, .ref a_net_nextLiterals, .ref a_net_outputs, .int net_gateTotal, .int net_inputTotal, .int net_latchTotal, .int net_outputTotal])), (h_exp, .inr (4, [.ref h_net, .ref h_tab, .ref h_wlk, .ref h_par, .int exp_explored])), (a_net_outputs, .inl (cI, 6, .inl net_outputs))] s.heap.size = A at hD hX ⊢
  have hA : ∀ q : Nat, s.heap.size ≤ q → A q := fun q h => by rw [← hAe]; exact Or.inr h
  have hS : va_S A s.heap s.heap [] := va_S.rf
  have hl := lv_entry ([.ref h_exp, .int p0]) (n := 2) (Nat.le_of_ble_eq_true rfl)
  rw [lg_entry_eq]
  generalize (lg_sl ([.ref h_exp, .int p0]) ++ List.replicate (2 - (lg_sl ([.ref h_exp, .int p0])).length) Slot.unset).toArray = ls at hl ⊢
  have hl : lv_has ls 2 [(0, .ref h_exp), (1, .int p0)] := hl
  have C0 : sx_C p s m _ meth c cExp_output 2 "StateExplorer" A (dC, dI) [(cI, .int), (cL, .long), (cZ, .boolean)] t1 t2 := ⟨hx, hb, hml, hown, hts, hA, hK, hlocks, hX⟩
  rw [m_Exp_output] at hm
  refine lv_aload_n hx hb dExp_output_0 rfl (lv_at hl 0 rfl) ?_
  refine lv_iload_n hx hb dExp_output_1 rfl (lv_at hl 1 rfl) ?_
  obtain ⟨v1, hv1, hm⟩ := sx_bind hm
  rcases v1 with k9 | u9
  · cases hm
  · have hPc := hP.sub (ws' := [(h_net, .inr (0, [.ref a_net_sorts, .ref a_net_ranks, .ref a_net_starts, .ref a_net_literals, .ref a_net_nextLiterals, .ref a_net_outputs, .int net_gateTotal, .int net_inputTotal, .int net_latchTotal, .int net_outputTotal])), (h_exp, .inr (4, [.ref h_net, .ref h_tab, .ref h_wlk, .ref h_par, .int exp_explored]))]) [0, 1] rfl
    have hDc := hD.sub (ws' := [(h_net, .inr (0, [.ref a_net_sorts, .ref a_net_ranks, .ref a_net_starts, .ref a_net_literals, .ref a_net_nextLiterals, .ref a_net_outputs, .int net_gateTotal, .int net_inputTotal, .int net_latchTotal, .int net_outputTotal])), (h_exp, .inr (4, [.ref h_net, .ref h_tab, .ref h_wlk, .ref h_par, .int exp_explored]))]) [0, 1] (by decide) rfl
    have hFc := va_free (wc := [(h_net, .inr (0, [.ref a_net_sorts, .ref a_net_ranks, .ref a_net_starts, .ref a_net_literals, .ref a_net_nextLiterals, .ref a_net_outputs, .int net_gateTotal, .int net_inputTotal, .int net_latchTotal, .int net_outputTotal])), (h_exp, .inr (4, [.ref h_net, .ref h_tab, .ref h_wlk, .ref h_par, .int exp_explored]))]) hD hS hA [0, 1] rfl
    refine sx_stV (va_runV (As := [.int p0]) (rest := []) ⟨hx, hb, hml, hown, hts⟩ (k_Exp_requireGate l dC dI cI cL cZ t1 t2 h_net a_net_sorts a_net_ranks a_net_starts a_net_literals a_net_nextLiterals a_net_outputs h_exp h_tab h_wlk h_par net_gateTotal net_inputTotal net_latchTotal net_outputTotal exp_explored _ p0 () hv1) (cwV 1 hts (sx_gV tw_454 tw_456 tw_16 tw_36 tcExp_requireGate) rfl rfl rfl (by decide +kernel) ⟨Nat.le_of_ble_eq_true rfl, Nat.le_of_ble_eq_true rfl⟩) (sx_pV hK hX hS hPc hDc hFc (va_recv hK hPc (ci := 4) (q0 := 1) rfl rfl)) rfl rfl hl.1 rfl (lv_room (Nat.le_of_ble_eq_true rfl)) dExp_output_2 ⟨Nat.le_of_ble_eq_true rfl, Nat.le_of_ble_eq_true rfl⟩) ?_
    refine lv_aload_n hx hb dExp_output_5 rfl (lv_at hl 0 rfl) ?_
    refine va_get (D := (dC, dI)) (ci := 4) (v := .ref h_net) (C := RExp) (T := TExp) (N := 5) hx hb hts inExp hown hK hP 1 rfl rfl 0 (by decide) (hts _ tw_193) (fun _ h9 => h9) rfl dExp_output_6 ?_
    refine va_get (D := (dC, dI)) (ci := 0) (v := .int net_outputTotal) (C := RNet) (T := TNet) (N := 10) hx hb hts inNet hown hK hP 0 rfl rfl 9 (by decide) (hts _ tw_84) (fun _ h9 => h9) rfl dExp_output_9 ?_
    refine lv_bipush (v := (6 : Int32)) hx hb dExp_output_12 (by decide) ?_
    refine lv_icmp_lt (tgt := 19) hx hb dExp_output_14 (by decide) (fun c4 => ?_) (fun c4 => ?_)
    · have hm := sx_pos c4 hm
      refine lv_aload_n hx hb dExp_output_19 rfl (lv_at hl 0 rfl) ?_
      refine lv_iconst (v := (0 : Int32)) hx hb dExp_output_20 (by decide) ?_
      refine va_put (D := (dC, dI)) (ci := 4) (v := .int (0 : Int32)) (ty := .boolean) (C := RExp) (T := TExp) (N := 5) hx hb hts inExp tyExp tyExp_ok nmExp hown hK hP hD hS 1 rfl rfl 4 (by decide) (hts _ tw_197) (fun _ h9 => h9) rfl (by decide +kernel) (by decide) (by decide) (Nat.le_of_ble_eq_true rfl) dExp_output_21 (fun H locs hP hD hS => ?_)
      have hP : va_P (dC, dI) vwCl [(h_net, .inr (0, [.ref a_net_sorts, .ref a_net_ranks, .ref a_net_starts, .ref a_net_literals, .ref a_net_nextLiterals, .ref a_net_outputs, .int net_gateTotal, .int net_inputTotal, .int net_latchTotal, .int net_outputTotal])), (h_exp, .inr (4, [.ref h_net, .ref h_tab, .ref h_wlk, .ref h_par, .int (0 : Int32)])), (a_net_outputs, .inl (cI, 6, .inl net_outputs))] H := hP
      have hD : va_D A [(h_net, .inr (0, [.ref a_net_sorts, .ref a_net_ranks, .ref a_net_starts, .ref a_net_literals, .ref a_net_nextLiterals, .ref a_net_outputs, .int net_gateTotal, .int net_inputTotal, .int net_latchTotal, .int net_outputTotal])), (h_exp, .inr (4, [.ref h_net, .ref h_tab, .ref h_wlk, .ref h_par, .int (0 : Int32)])), (a_net_outputs, .inl (cI, 6, .inl net_outputs))] := hD
      refine lv_aload_n hx hb dExp_output_24 rfl (lv_at hl 0 rfl) ?_
      refine va_get (D := (dC, dI)) (ci := 4) (v := .ref h_net) (C := RExp) (T := TExp) (N := 5) hx hb hts inExp hown hK hP 1 rfl rfl 0 (by decide) (hts _ tw_193) (fun _ h9 => h9) rfl dExp_output_25 ?_
      refine lv_iload_n hx hb dExp_output_28 rfl (lv_at hl 1 rfl) ?_
      obtain ⟨v5, hv5, hm⟩ := sx_bind hm
      have hPc := hP.sub (ws' := [(h_net, .inr (0, [.ref a_net_sorts, .ref a_net_ranks, .ref a_net_starts, .ref a_net_literals, .ref a_net_nextLiterals, .ref a_net_outputs, .int net_gateTotal, .int net_inputTotal, .int net_latchTotal, .int net_outputTotal])), (a_net_outputs, .inl (cI, 6, .inl net_outputs))]) [0, 2] rfl
      have hDc := hD.sub (ws' := [(h_net, .inr (0, [.ref a_net_sorts, .ref a_net_ranks, .ref a_net_starts, .ref a_net_literals, .ref a_net_nextLiterals, .ref a_net_outputs, .int net_gateTotal, .int net_inputTotal, .int net_latchTotal, .int net_outputTotal])), (a_net_outputs, .inl (cI, 6, .inl net_outputs))]) [0, 2] (by decide) rfl
      have hFc := va_free (wc := [(h_net, .inr (0, [.ref a_net_sorts, .ref a_net_ranks, .ref a_net_starts, .ref a_net_literals, .ref a_net_nextLiterals, .ref a_net_outputs, .int net_gateTotal, .int net_inputTotal, .int net_latchTotal, .int net_outputTotal])), (a_net_outputs, .inl (cI, 6, .inl net_outputs))]) hD hS hA [0, 2] rfl
      refine va_calli (va_runV (As := [.int p0]) (rest := []) ⟨hx, hb, hml, hown, hts⟩ (k_Net_addOutput l dC dI cI cL cZ t1 t2 h_net a_net_sorts a_net_ranks a_net_starts a_net_literals a_net_nextLiterals a_net_outputs net_outputs net_gateTotal net_inputTotal net_latchTotal net_outputTotal _ p0 v5 hv5) (cwV 1 hts (sx_gV tw_511 tw_512 tw_513 tw_37 tcNet_addOutput) rfl rfl rfl (by decide +kernel) ⟨Nat.le_of_ble_eq_true rfl, Nat.le_of_ble_eq_true rfl⟩) (sx_pV hK hX hS hPc hDc hFc (va_recv hK hPc (ci := 0) (q0 := 0) rfl rfl)) rfl rfl hl.1 rfl (lv_room (Nat.le_of_ble_eq_true rfl)) dExp_output_29 ⟨Nat.le_of_ble_eq_true rfl, Nat.le_of_ble_eq_true rfl⟩) hS (fun q _ h => hFc q h) hFc (fun r6 u_ t_ H locs ht hvm hw hB hz1 hk1 hS => ?_)
      obtain ⟨hP1, -, hD1⟩ := hB
      rw [ht] at hP1
      obtain ⟨hP, hD⟩ := va_join (wr := [(h_exp, .inr (4, [.ref h_net, .ref h_tab, .ref h_wlk, .ref h_par, .int (0 : Int32)]))]) (w1 := [(h_net, .inr (0, [.ref a_net_sorts, .ref a_net_ranks, .ref a_net_starts, .ref a_net_literals, .ref a_net_nextLiterals, .ref a_net_outputs, .int net_gateTotal, .int net_inputTotal, .int net_latchTotal, .int v5.2.2])), (a_net_outputs, .inl (cI, 6, .inl v5.2.1))]) hP hD [0, 2] [1] rfl rfl (by decide) (by decide) hk1 hFc hP1 hD1
      have hP : va_P (dC, dI) vwCl [(h_exp, .inr (4, [.ref h_net, .ref h_tab, .ref h_wlk, .ref h_par, .int (0 : Int32)])), (h_net, .inr (0, [.ref a_net_sorts, .ref a_net_ranks, .ref a_net_starts, .ref a_net_literals, .ref a_net_nextLiterals, .ref a_net_outputs, .int net_gateTotal, .int net_inputTotal, .int net_latchTotal, .int v5.2.2])), (a_net_outputs, .inl (cI, 6, .inl v5.2.1))] H := hP
      have hD : va_D A [(h_exp, .inr (4, [.ref h_net, .ref h_tab, .ref h_wlk, .ref h_par, .int (0 : Int32)])), (h_net, .inr (0, [.ref a_net_sorts, .ref a_net_ranks, .ref a_net_starts, .ref a_net_literals, .ref a_net_nextLiterals, .ref a_net_outputs, .int net_gateTotal, .int net_inputTotal, .int net_latchTotal, .int v5.2.2])), (a_net_outputs, .inl (cI, 6, .inl v5.2.1))] := hD
      have hw9 := hw.symm
      subst hw9
      obtain rfl := Sum.inr.inj (Option.some.inj hm)
      exact W.iret (v := v5.1) hx hb hr (fun t ht hW => ⟨⟨v5.1, (), rfl, rfl, sx_Wi (hP.sub (ws' := [(h_net, .inr (0, [.ref a_net_sorts, .ref a_net_ranks, .ref a_net_starts, .ref a_net_literals, .ref a_net_nextLiterals, .ref a_net_outputs, .int net_gateTotal, .int net_inputTotal, .int net_latchTotal, .int v5.2.2])), (h_exp, .inr (4, [.ref h_net, .ref h_tab, .ref h_wlk, .ref h_par, .int (0 : Int32)])), (a_net_outputs, .inl (cI, 6, .inl v5.2.1))]) [1, 0, 2] rfl) hK (hD.sub (ws' := [(h_net, .inr (0, [.ref a_net_sorts, .ref a_net_ranks, .ref a_net_starts, .ref a_net_literals, .ref a_net_nextLiterals, .ref a_net_outputs, .int net_gateTotal, .int net_inputTotal, .int net_latchTotal, .int v5.2.2])), (h_exp, .inr (4, [.ref h_net, .ref h_tab, .ref h_wlk, .ref h_par, .int (0 : Int32)])), (a_net_outputs, .inl (cI, 6, .inl v5.2.1))]) [1, 0, 2] (by decide) rfl) ht hW.alike⟩, hS.F ht⟩) hS.2.2 dExp_output_32
    · have hm := sx_neg c4 hm
      refine lv_iconst (v := (-1 : Int32)) hx hb dExp_output_17 (by decide) ?_
      obtain rfl := Sum.inr.inj (Option.some.inj hm)
      exact W.iret (v := (-1 : Int32)) hx hb hr (fun t ht hW => ⟨⟨(-1 : Int32), (), rfl, rfl, sx_Wi hP hK hD ht hW.alike⟩, hS.F ht⟩) hS.2.2 dExp_output_18
set_option maxHeartbeats 4000000 in
set_option maxRecDepth 100000 in
theorem kt_Exp_output (l : Launch) (hnt : l.stackTraces = false) (dC : Nat → ClassId) (dI : Nat → Nat → Nat) (cI cL cZ : ClassId) (t1 t2 : Nat) (h_net a_net_sorts a_net_ranks a_net_starts a_net_literals a_net_nextLiterals a_net_outputs h_exp h_tab h_wlk h_par : Nat) (net_outputs : Nat → Int32) (net_gateTotal net_inputTotal net_latchTotal net_outputTotal exp_explored : Int32) (sz : Nat) (p0 : Int32) (k : Nat) (hm : m_Exp_output net_outputs net_gateTotal net_outputTotal exp_explored p0 = some (.inl k)) : sx_Thr l yExp_output wsExp_output rmt_Exp_output (sx_Pc (dC, dI) [(cI, .int), (cL, .long), (cZ, .boolean)] t1 t2 [(h_net, .inr (0, [.ref a_net_sorts, .ref a_net_ranks, .ref a_net_starts, .ref a_net_literals, .ref a_net_nextLiterals, .ref a_net_outputs, .int net_gateTotal, .int net_inputTotal, .int net_latchTotal, .int net_outputTotal])), (h_exp, .inr (4, [.ref h_net, .ref h_tab, .ref h_wlk, .ref h_par, .int exp_explored])), (a_net_outputs, .inl (cI, 6, .inl net_outputs))] sz [.ref h_exp, .int p0]) (sx_E k) 1 6 := by
  refine sx_thrOf (cc := cExp_output) (maxL := 2) (ret := (some .int)) (by decide) rfl ?_
  intro p e s m args below meth c s₁ B hml hnx hv
  obtain ⟨rfl, hsz, hP, hK, hD0, hX⟩ := hv
  have hx := B.exec
  have hb := B.bytes
  have hr := B.returns
  have hts0 := atoms_spec (ws := wsExp_output) B.pre
  have hts : ∀ w ∈ tb, w.before _ s = true := fun w h => hts0 w (List.mem_cons_of_mem _ h)
  have hown : s.vm.findClass "StateExplorer" = some m.cls := findClass_of_methodNamed B.named
  have hlocks := B.notSynchronized
  subst hsz
  have hD := hD0.self (sz := s.heap.size)
  generalize hAe : va_A [(h_net, .inr (0, [.ref a_net_sorts, .ref a_net_ranks, .ref a_net_starts, .ref a_net_literals, .ref a_net_nextLiterals, .ref a_net_outputs, .int net_gateTotal, .int net_inputTotal, .int net_latchTotal, .int net_outputTotal])), (h_exp, .inr (4, [.ref h_net, .ref h_tab, .ref h_wlk, .ref h_par, .int exp_explored])), (a_net_outputs, .inl (cI, 6, .inl net_outputs))] s.heap.size = A at hD hX 
  have hA : ∀ q : Nat, s.heap.size ≤ q → A q := fun q h => by rw [← hAe]; exact Or.inr h
  have hS : va_S A s.heap s.heap [] := va_S.rf
  have hl := lv_entry ([.ref h_exp, .int p0]) (n := 2) (Nat.le_of_ble_eq_true rfl)
  rw [lg_entry_eq]
  generalize (lg_sl ([.ref h_exp, .int p0]) ++ List.replicate (2 - (lg_sl ([.ref h_exp, .int p0])).length) Slot.unset).toArray = ls at hl ⊢
  have hl : lv_has ls 2 [(0, .ref h_exp), (1, .int p0)] := hl
  have C0 : sx_C p s m _ meth c cExp_output 2 "StateExplorer" A (dC, dI) [(cI, .int), (cL, .long), (cZ, .boolean)] t1 t2 := ⟨hx, hb, hml, hown, hts, hA, hK, hlocks, hX⟩
  rw [m_Exp_output] at hm
  refine lv_aload_n hx hb dExp_output_0 rfl (lv_at hl 0 rfl) ?_
  refine lv_iload_n hx hb dExp_output_1 rfl (lv_at hl 1 rfl) ?_
  obtain ⟨v1, hv1, hm⟩ := sx_bind hm
  rcases v1 with k9 | u9
  · have hPc := hP.sub (ws' := [(h_net, .inr (0, [.ref a_net_sorts, .ref a_net_ranks, .ref a_net_starts, .ref a_net_literals, .ref a_net_nextLiterals, .ref a_net_outputs, .int net_gateTotal, .int net_inputTotal, .int net_latchTotal, .int net_outputTotal])), (h_exp, .inr (4, [.ref h_net, .ref h_tab, .ref h_wlk, .ref h_par, .int exp_explored]))]) [0, 1] rfl
    have hDc := hD.sub (ws' := [(h_net, .inr (0, [.ref a_net_sorts, .ref a_net_ranks, .ref a_net_starts, .ref a_net_literals, .ref a_net_nextLiterals, .ref a_net_outputs, .int net_gateTotal, .int net_inputTotal, .int net_latchTotal, .int net_outputTotal])), (h_exp, .inr (4, [.ref h_net, .ref h_tab, .ref h_wlk, .ref h_par, .int exp_explored]))]) [0, 1] (by decide) rfl
    have hFc := va_free (wc := [(h_net, .inr (0, [.ref a_net_sorts, .ref a_net_ranks, .ref a_net_starts, .ref a_net_literals, .ref a_net_nextLiterals, .ref a_net_outputs, .int net_gateTotal, .int net_inputTotal, .int net_latchTotal, .int net_outputTotal])), (h_exp, .inr (4, [.ref h_net, .ref h_tab, .ref h_wlk, .ref h_par, .int exp_explored]))]) hD hS hA [0, 1] rfl
    obtain rfl := Sum.inl.inj (Option.some.inj hm)
    refine sx_callT (As := [.int p0]) (rest := []) ⟨hx, hb, hml, hown, hts⟩ (kt_Exp_requireGate l hnt dC dI cI cL cZ t1 t2 h_net a_net_sorts a_net_ranks a_net_starts a_net_literals a_net_nextLiterals a_net_outputs h_exp h_tab h_wlk h_par net_gateTotal net_inputTotal net_latchTotal net_outputTotal exp_explored _ p0 _ hv1) (cwV 1 hts (sx_gV tw_454 tw_456 tw_16 tw_36 tcExp_requireGate) rfl rfl rfl (by decide +kernel) ⟨Nat.le_of_ble_eq_true rfl, Nat.le_of_ble_eq_true rfl⟩) (sx_pV hK hX hS hPc hDc hFc (va_recv hK hPc (ci := 4) (q0 := 1) rfl rfl)) rfl hl.1 rfl (lv_room (Nat.le_of_ble_eq_true rfl)) dExp_output_2 ⟨Nat.le_of_ble_eq_true rfl, Nat.le_of_ble_eq_true rfl⟩ (fun ce q H1 z1 z2 z3 z4 z5 => ?_)
    exact sx_out hnx hlocks z3 z4 z5 (Nat.le_of_ble_eq_true rfl) (Nat.le_of_ble_eq_true rfl)
  · have hPc := hP.sub (ws' := [(h_net, .inr (0, [.ref a_net_sorts, .ref a_net_ranks, .ref a_net_starts, .ref a_net_literals, .ref a_net_nextLiterals, .ref a_net_outputs, .int net_gateTotal, .int net_inputTotal, .int net_latchTotal, .int net_outputTotal])), (h_exp, .inr (4, [.ref h_net, .ref h_tab, .ref h_wlk, .ref h_par, .int exp_explored]))]) [0, 1] rfl
    have hDc := hD.sub (ws' := [(h_net, .inr (0, [.ref a_net_sorts, .ref a_net_ranks, .ref a_net_starts, .ref a_net_literals, .ref a_net_nextLiterals, .ref a_net_outputs, .int net_gateTotal, .int net_inputTotal, .int net_latchTotal, .int net_outputTotal])), (h_exp, .inr (4, [.ref h_net, .ref h_tab, .ref h_wlk, .ref h_par, .int exp_explored]))]) [0, 1] (by decide) rfl
    have hFc := va_free (wc := [(h_net, .inr (0, [.ref a_net_sorts, .ref a_net_ranks, .ref a_net_starts, .ref a_net_literals, .ref a_net_nextLiterals, .ref a_net_outputs, .int net_gateTotal, .int net_inputTotal, .int net_latchTotal, .int net_outputTotal])), (h_exp, .inr (4, [.ref h_net, .ref h_tab, .ref h_wlk, .ref h_par, .int exp_explored]))]) hD hS hA [0, 1] rfl
    refine sx_stV (va_runV (As := [.int p0]) (rest := []) ⟨hx, hb, hml, hown, hts⟩ (k_Exp_requireGate l dC dI cI cL cZ t1 t2 h_net a_net_sorts a_net_ranks a_net_starts a_net_literals a_net_nextLiterals a_net_outputs h_exp h_tab h_wlk h_par net_gateTotal net_inputTotal net_latchTotal net_outputTotal exp_explored _ p0 () hv1) (cwV 1 hts (sx_gV tw_454 tw_456 tw_16 tw_36 tcExp_requireGate) rfl rfl rfl (by decide +kernel) ⟨Nat.le_of_ble_eq_true rfl, Nat.le_of_ble_eq_true rfl⟩) (sx_pV hK hX hS hPc hDc hFc (va_recv hK hPc (ci := 4) (q0 := 1) rfl rfl)) rfl rfl hl.1 rfl (lv_room (Nat.le_of_ble_eq_true rfl)) dExp_output_2 ⟨Nat.le_of_ble_eq_true rfl, Nat.le_of_ble_eq_true rfl⟩) ?_
    refine lv_aload_n hx hb dExp_output_5 rfl (lv_at hl 0 rfl) ?_
    refine va_get (D := (dC, dI)) (ci := 4) (v := .ref h_net) (C := RExp) (T := TExp) (N := 5) hx hb hts inExp hown hK hP 1 rfl rfl 0 (by decide) (hts _ tw_193) (fun _ h9 => h9) rfl dExp_output_6 ?_
    refine va_get (D := (dC, dI)) (ci := 0) (v := .int net_outputTotal) (C := RNet) (T := TNet) (N := 10) hx hb hts inNet hown hK hP 0 rfl rfl 9 (by decide) (hts _ tw_84) (fun _ h9 => h9) rfl dExp_output_9 ?_
    refine lv_bipush (v := (6 : Int32)) hx hb dExp_output_12 (by decide) ?_
    refine lv_icmp_lt (tgt := 19) hx hb dExp_output_14 (by decide) (fun c4 => ?_) (fun c4 => ?_)
    · have hm := sx_pos c4 hm
      refine lv_aload_n hx hb dExp_output_19 rfl (lv_at hl 0 rfl) ?_
      refine lv_iconst (v := (0 : Int32)) hx hb dExp_output_20 (by decide) ?_
      refine va_put (D := (dC, dI)) (ci := 4) (v := .int (0 : Int32)) (ty := .boolean) (C := RExp) (T := TExp) (N := 5) hx hb hts inExp tyExp tyExp_ok nmExp hown hK hP hD hS 1 rfl rfl 4 (by decide) (hts _ tw_197) (fun _ h9 => h9) rfl (by decide +kernel) (by decide) (by decide) (Nat.le_of_ble_eq_true rfl) dExp_output_21 (fun H locs hP hD hS => ?_)
      have hP : va_P (dC, dI) vwCl [(h_net, .inr (0, [.ref a_net_sorts, .ref a_net_ranks, .ref a_net_starts, .ref a_net_literals, .ref a_net_nextLiterals, .ref a_net_outputs, .int net_gateTotal, .int net_inputTotal, .int net_latchTotal, .int net_outputTotal])), (h_exp, .inr (4, [.ref h_net, .ref h_tab, .ref h_wlk, .ref h_par, .int (0 : Int32)])), (a_net_outputs, .inl (cI, 6, .inl net_outputs))] H := hP
      have hD : va_D A [(h_net, .inr (0, [.ref a_net_sorts, .ref a_net_ranks, .ref a_net_starts, .ref a_net_literals, .ref a_net_nextLiterals, .ref a_net_outputs, .int net_gateTotal, .int net_inputTotal, .int net_latchTotal, .int net_outputTotal])), (h_exp, .inr (4, [.ref h_net, .ref h_tab, .ref h_wlk, .ref h_par, .int (0 : Int32)])), (a_net_outputs, .inl (cI, 6, .inl net_outputs))] := hD
      refine lv_aload_n hx hb dExp_output_24 rfl (lv_at hl 0 rfl) ?_
      refine va_get (D := (dC, dI)) (ci := 4) (v := .ref h_net) (C := RExp) (T := TExp) (N := 5) hx hb hts inExp hown hK hP 1 rfl rfl 0 (by decide) (hts _ tw_193) (fun _ h9 => h9) rfl dExp_output_25 ?_
      refine lv_iload_n hx hb dExp_output_28 rfl (lv_at hl 1 rfl) ?_
      obtain ⟨v5, hv5, hm⟩ := sx_bind hm
      have hPc := hP.sub (ws' := [(h_net, .inr (0, [.ref a_net_sorts, .ref a_net_ranks, .ref a_net_starts, .ref a_net_literals, .ref a_net_nextLiterals, .ref a_net_outputs, .int net_gateTotal, .int net_inputTotal, .int net_latchTotal, .int net_outputTotal])), (a_net_outputs, .inl (cI, 6, .inl net_outputs))]) [0, 2] rfl
      have hDc := hD.sub (ws' := [(h_net, .inr (0, [.ref a_net_sorts, .ref a_net_ranks, .ref a_net_starts, .ref a_net_literals, .ref a_net_nextLiterals, .ref a_net_outputs, .int net_gateTotal, .int net_inputTotal, .int net_latchTotal, .int net_outputTotal])), (a_net_outputs, .inl (cI, 6, .inl net_outputs))]) [0, 2] (by decide) rfl
      have hFc := va_free (wc := [(h_net, .inr (0, [.ref a_net_sorts, .ref a_net_ranks, .ref a_net_starts, .ref a_net_literals, .ref a_net_nextLiterals, .ref a_net_outputs, .int net_gateTotal, .int net_inputTotal, .int net_latchTotal, .int net_outputTotal])), (a_net_outputs, .inl (cI, 6, .inl net_outputs))]) hD hS hA [0, 2] rfl
      refine va_calli (va_runV (As := [.int p0]) (rest := []) ⟨hx, hb, hml, hown, hts⟩ (k_Net_addOutput l dC dI cI cL cZ t1 t2 h_net a_net_sorts a_net_ranks a_net_starts a_net_literals a_net_nextLiterals a_net_outputs net_outputs net_gateTotal net_inputTotal net_latchTotal net_outputTotal _ p0 v5 hv5) (cwV 1 hts (sx_gV tw_511 tw_512 tw_513 tw_37 tcNet_addOutput) rfl rfl rfl (by decide +kernel) ⟨Nat.le_of_ble_eq_true rfl, Nat.le_of_ble_eq_true rfl⟩) (sx_pV hK hX hS hPc hDc hFc (va_recv hK hPc (ci := 0) (q0 := 0) rfl rfl)) rfl rfl hl.1 rfl (lv_room (Nat.le_of_ble_eq_true rfl)) dExp_output_29 ⟨Nat.le_of_ble_eq_true rfl, Nat.le_of_ble_eq_true rfl⟩) hS (fun q _ h => hFc q h) hFc (fun r6 u_ t_ H locs ht hvm hw hB hz1 hk1 hS => ?_)
      obtain ⟨hP1, -, hD1⟩ := hB
      rw [ht] at hP1
      obtain ⟨hP, hD⟩ := va_join (wr := [(h_exp, .inr (4, [.ref h_net, .ref h_tab, .ref h_wlk, .ref h_par, .int (0 : Int32)]))]) (w1 := [(h_net, .inr (0, [.ref a_net_sorts, .ref a_net_ranks, .ref a_net_starts, .ref a_net_literals, .ref a_net_nextLiterals, .ref a_net_outputs, .int net_gateTotal, .int net_inputTotal, .int net_latchTotal, .int v5.2.2])), (a_net_outputs, .inl (cI, 6, .inl v5.2.1))]) hP hD [0, 2] [1] rfl rfl (by decide) (by decide) hk1 hFc hP1 hD1
      have hP : va_P (dC, dI) vwCl [(h_exp, .inr (4, [.ref h_net, .ref h_tab, .ref h_wlk, .ref h_par, .int (0 : Int32)])), (h_net, .inr (0, [.ref a_net_sorts, .ref a_net_ranks, .ref a_net_starts, .ref a_net_literals, .ref a_net_nextLiterals, .ref a_net_outputs, .int net_gateTotal, .int net_inputTotal, .int net_latchTotal, .int v5.2.2])), (a_net_outputs, .inl (cI, 6, .inl v5.2.1))] H := hP
      have hD : va_D A [(h_exp, .inr (4, [.ref h_net, .ref h_tab, .ref h_wlk, .ref h_par, .int (0 : Int32)])), (h_net, .inr (0, [.ref a_net_sorts, .ref a_net_ranks, .ref a_net_starts, .ref a_net_literals, .ref a_net_nextLiterals, .ref a_net_outputs, .int net_gateTotal, .int net_inputTotal, .int net_latchTotal, .int v5.2.2])), (a_net_outputs, .inl (cI, 6, .inl v5.2.1))] := hD
      have hw9 := hw.symm
      subst hw9
      cases hm
    · have hm := sx_neg c4 hm
      refine lv_iconst (v := (-1 : Int32)) hx hb dExp_output_17 (by decide) ?_
      cases hm
noncomputable def m_Exp_clear (net_gateTotal net_inputTotal net_latchTotal net_outputTotal exp_explored : Int32)  : Option (Int32 × Int32 × Int32 × Int32 × Int32 × Int32) := (m_Net_empty net_gateTotal net_inputTotal net_latchTotal net_outputTotal).bind (fun v1 => some (net_gateTotal, v1.1, v1.2.1, v1.2.2.1, v1.2.2.2, (0 : Int32)))
def rm_Exp_clear : Room := { frames := 1, cells := 0, slots := 0, locals := 20 }
set_option maxHeartbeats 4000000 in
set_option maxRecDepth 100000 in
theorem k_Exp_clear (l : Launch) (dC : Nat → ClassId) (dI : Nat → Nat → Nat) (cI cL cZ : ClassId) (t1 t2 : Nat) (h_net a_net_sorts a_net_ranks a_net_starts a_net_literals a_net_nextLiterals a_net_outputs h_exp h_tab h_wlk h_par : Nat) (net_gateTotal net_inputTotal net_latchTotal net_outputTotal exp_explored : Int32) (sz : Nat)  (v : Int32 × Int32 × Int32 × Int32 × Int32 × Int32) (hm : m_Exp_clear net_gateTotal net_inputTotal net_latchTotal net_outputTotal exp_explored = some v) : Met l yExp_clear wsExp_clear rm_Exp_clear (sx_Pc (dC, dI) [(cI, .int), (cL, .long), (cZ, .boolean)] t1 t2 [(h_net, .inr (0, [.ref a_net_sorts, .ref a_net_ranks, .ref a_net_starts, .ref a_net_literals, .ref a_net_nextLiterals, .ref a_net_outputs, .int net_gateTotal, .int net_inputTotal, .int net_latchTotal, .int net_outputTotal])), (h_exp, .inr (4, [.ref h_net, .ref h_tab, .ref h_wlk, .ref h_par, .int exp_explored]))] sz [.ref h_exp]) (va_Qi (fun (r : Int32) (_ : Unit) => r = v.1) (fun _ t => sx_W (dC, dI) [(cI, .int), (cL, .long), (cZ, .boolean)] (va_A [(h_net, .inr (0, [.ref a_net_sorts, .ref a_net_ranks, .ref a_net_starts, .ref a_net_literals, .ref a_net_nextLiterals, .ref a_net_outputs, .int net_gateTotal, .int net_inputTotal, .int net_latchTotal, .int net_outputTotal])), (h_exp, .inr (4, [.ref h_net, .ref h_tab, .ref h_wlk, .ref h_par, .int exp_explored]))] sz) [(h_net, .inr (0, [.ref a_net_sorts, .ref a_net_ranks, .ref a_net_starts, .ref a_net_literals, .ref a_net_nextLiterals, .ref a_net_outputs, .int v.2.1, .int v.2.2.1, .int v.2.2.2.1, .int v.2.2.2.2.1])), (h_exp, .inr (4, [.ref h_net, .ref h_tab, .ref h_wlk, .ref h_par, .int v.2.2.2.2.2]))] t) (va_A [(h_net, .inr (0, [.ref a_net_sorts, .ref a_net_ranks, .ref a_net_starts, .ref a_net_literals, .ref a_net_nextLiterals, .ref a_net_outputs, .int net_gateTotal, .int net_inputTotal, .int net_latchTotal, .int net_outputTotal])), (h_exp, .inr (4, [.ref h_net, .ref h_tab, .ref h_wlk, .ref h_par, .int exp_explored]))] sz)) 0 0 (va_A [(h_net, .inr (0, [.ref a_net_sorts, .ref a_net_ranks, .ref a_net_starts, .ref a_net_literals, .ref a_net_nextLiterals, .ref a_net_outputs, .int net_gateTotal, .int net_inputTotal, .int net_latchTotal, .int net_outputTotal])), (h_exp, .inr (4, [.ref h_net, .ref h_tab, .ref h_wlk, .ref h_par, .int exp_explored]))] sz) := by
  refine Met.ofW (cc := cExp_clear) (maxL := 2) (ret := (some .int)) (by decide) rfl ?_
  intro p e s m args below meth c s₁ B hml hv
  obtain ⟨rfl, hsz, hP, hK, hD0, hX⟩ := hv
  have hx := B.exec
  have hb := B.bytes
  have hr := B.returns
  have hts0 := atoms_spec (ws := wsExp_clear) B.pre
  have hts : ∀ w ∈ tb, w.before _ s = true := fun w h => hts0 w (List.mem_cons_of_mem _ h)
  have hown : s.vm.findClass "StateExplorer" = some m.cls := findClass_of_methodNamed B.named
  have hlocks := B.notSynchronized
  subst hsz
  have hD := hD0.self (sz := s.heap.size)
  generalize hAe : va_A [(h_net, .inr (0, [.ref a_net_sorts, .ref a_net_ranks, .ref a_net_starts, .ref a_net_literals, .ref a_net_nextLiterals, .ref a_net_outputs, .int net_gateTotal, .int net_inputTotal, .int net_latchTotal, .int net_outputTotal])), (h_exp, .inr (4, [.ref h_net, .ref h_tab, .ref h_wlk, .ref h_par, .int exp_explored]))] s.heap.size = A at hD hX ⊢
  have hA : ∀ q : Nat, s.heap.size ≤ q → A q := fun q h => by rw [← hAe]; exact Or.inr h
  have hS : va_S A s.heap s.heap [] := va_S.rf
  have hl := lv_entry ([.ref h_exp]) (n := 2) (Nat.le_of_ble_eq_true rfl)
  rw [lg_entry_eq]
  generalize (lg_sl ([.ref h_exp]) ++ List.replicate (2 - (lg_sl ([.ref h_exp])).length) Slot.unset).toArray = ls at hl ⊢
  have hl : lv_has ls 2 [(0, .ref h_exp)] := hl
  have C0 : sx_C p s m _ meth c cExp_clear 2 "StateExplorer" A (dC, dI) [(cI, .int), (cL, .long), (cZ, .boolean)] t1 t2 := ⟨hx, hb, hml, hown, hts, hA, hK, hlocks, hX⟩
  rw [m_Exp_clear] at hm
  refine lv_aload_n hx hb dExp_clear_0 rfl (lv_at hl 0 rfl) ?_
  refine va_get (D := (dC, dI)) (ci := 4) (v := .ref h_net) (C := RExp) (T := TExp) (N := 5) hx hb hts inExp hown hK hP 1 rfl rfl 0 (by decide) (hts _ tw_193) (fun _ h9 => h9) rfl dExp_clear_1 ?_
  refine va_get (D := (dC, dI)) (ci := 0) (v := .int net_gateTotal) (C := RNet) (T := TNet) (N := 10) hx hb hts inNet hown hK hP 0 rfl rfl 6 (by decide) (hts _ tw_77) (fun _ h9 => h9) rfl dExp_clear_4 ?_
  refine lv_istore_n (lv' := [(1, .int net_gateTotal), (0, .ref h_exp)]) hx hb dExp_clear_7 rfl hl (by decide) rfl (fun ls hl => ?_)
  refine lv_aload_n hx hb dExp_clear_8 rfl (lv_at hl 1 rfl) ?_
  refine va_get (D := (dC, dI)) (ci := 4) (v := .ref h_net) (C := RExp) (T := TExp) (N := 5) hx hb hts inExp hown hK hP 1 rfl rfl 0 (by decide) (hts _ tw_193) (fun _ h9 => h9) rfl dExp_clear_9 ?_
  obtain ⟨v1, hv1, hm⟩ := sx_bind hm
  have hPc := hP.sub (ws' := [(h_net, .inr (0, [.ref a_net_sorts, .ref a_net_ranks, .ref a_net_starts, .ref a_net_literals, .ref a_net_nextLiterals, .ref a_net_outputs, .int net_gateTotal, .int net_inputTotal, .int net_latchTotal, .int net_outputTotal]))]) [0] rfl
  have hDc := hD.sub (ws' := [(h_net, .inr (0, [.ref a_net_sorts, .ref a_net_ranks, .ref a_net_starts, .ref a_net_literals, .ref a_net_nextLiterals, .ref a_net_outputs, .int net_gateTotal, .int net_inputTotal, .int net_latchTotal, .int net_outputTotal]))]) [0] (by decide) rfl
  have hFc := va_free (wc := [(h_net, .inr (0, [.ref a_net_sorts, .ref a_net_ranks, .ref a_net_starts, .ref a_net_literals, .ref a_net_nextLiterals, .ref a_net_outputs, .int net_gateTotal, .int net_inputTotal, .int net_latchTotal, .int net_outputTotal]))]) hD hS hA [0] rfl
  refine va_callv (va_runV (As := []) (rest := []) ⟨hx, hb, hml, hown, hts⟩ (k_Net_empty l dC dI cI cL cZ t1 t2 h_net a_net_sorts a_net_ranks a_net_starts a_net_literals a_net_nextLiterals a_net_outputs net_gateTotal net_inputTotal net_latchTotal net_outputTotal _ v1 hv1) (cwV 0 hts (sx_gV tw_213 tw_214 tw_215 tw_37 tcNet_empty) rfl rfl rfl (by decide +kernel) ⟨Nat.le_of_ble_eq_true rfl, Nat.le_of_ble_eq_true rfl⟩) (sx_pV hK hX hS hPc hDc hFc (va_recv hK hPc (ci := 0) (q0 := 0) rfl rfl)) rfl rfl hl.1 rfl (lv_room (Nat.le_of_ble_eq_true rfl)) dExp_clear_12 ⟨Nat.le_of_ble_eq_true rfl, Nat.le_of_ble_eq_true rfl⟩) hS (fun q _ h => hFc q h) hFc (fun u_ t_ H locs ht hvm hw hB hz1 hk1 hS => ?_)
  obtain ⟨hP1, -, hD1⟩ := hB
  rw [ht] at hP1
  obtain ⟨hP, hD⟩ := va_join (wr := [(h_exp, .inr (4, [.ref h_net, .ref h_tab, .ref h_wlk, .ref h_par, .int exp_explored]))]) (w1 := [(h_net, .inr (0, [.ref a_net_sorts, .ref a_net_ranks, .ref a_net_starts, .ref a_net_literals, .ref a_net_nextLiterals, .ref a_net_outputs, .int v1.1, .int v1.2.1, .int v1.2.2.1, .int v1.2.2.2]))]) hP hD [0] [1] rfl rfl (by decide) (by decide) hk1 hFc hP1 hD1
  have hP : va_P (dC, dI) vwCl [(h_exp, .inr (4, [.ref h_net, .ref h_tab, .ref h_wlk, .ref h_par, .int exp_explored])), (h_net, .inr (0, [.ref a_net_sorts, .ref a_net_ranks, .ref a_net_starts, .ref a_net_literals, .ref a_net_nextLiterals, .ref a_net_outputs, .int v1.1, .int v1.2.1, .int v1.2.2.1, .int v1.2.2.2]))] H := hP
  have hD : va_D A [(h_exp, .inr (4, [.ref h_net, .ref h_tab, .ref h_wlk, .ref h_par, .int exp_explored])), (h_net, .inr (0, [.ref a_net_sorts, .ref a_net_ranks, .ref a_net_starts, .ref a_net_literals, .ref a_net_nextLiterals, .ref a_net_outputs, .int v1.1, .int v1.2.1, .int v1.2.2.1, .int v1.2.2.2]))] := hD
  refine lv_aload_n hx hb dExp_clear_15 rfl (lv_at hl 1 rfl) ?_
  refine lv_iconst (v := (0 : Int32)) hx hb dExp_clear_16 (by decide) ?_
  refine va_put (D := (dC, dI)) (ci := 4) (v := .int (0 : Int32)) (ty := .boolean) (C := RExp) (T := TExp) (N := 5) hx hb hts inExp tyExp tyExp_ok nmExp hown hK hP hD hS 0 rfl rfl 4 (by decide) (hts _ tw_197) (fun _ h9 => h9) rfl (by decide +kernel) (by decide) (by decide) (Nat.le_of_ble_eq_true rfl) dExp_clear_17 (fun H locs hP hD hS => ?_)
  have hP : va_P (dC, dI) vwCl [(h_exp, .inr (4, [.ref h_net, .ref h_tab, .ref h_wlk, .ref h_par, .int (0 : Int32)])), (h_net, .inr (0, [.ref a_net_sorts, .ref a_net_ranks, .ref a_net_starts, .ref a_net_literals, .ref a_net_nextLiterals, .ref a_net_outputs, .int v1.1, .int v1.2.1, .int v1.2.2.1, .int v1.2.2.2]))] H := hP
  have hD : va_D A [(h_exp, .inr (4, [.ref h_net, .ref h_tab, .ref h_wlk, .ref h_par, .int (0 : Int32)])), (h_net, .inr (0, [.ref a_net_sorts, .ref a_net_ranks, .ref a_net_starts, .ref a_net_literals, .ref a_net_nextLiterals, .ref a_net_outputs, .int v1.1, .int v1.2.1, .int v1.2.2.1, .int v1.2.2.2]))] := hD
  refine lv_iload_n hx hb dExp_clear_20 rfl (lv_at hl 0 rfl) ?_
  obtain rfl := Option.some.inj hm
  exact W.iret (v := net_gateTotal) hx hb hr (fun t ht hW => ⟨⟨net_gateTotal, (), rfl, rfl, sx_Wi (hP.sub (ws' := [(h_net, .inr (0, [.ref a_net_sorts, .ref a_net_ranks, .ref a_net_starts, .ref a_net_literals, .ref a_net_nextLiterals, .ref a_net_outputs, .int v1.1, .int v1.2.1, .int v1.2.2.1, .int v1.2.2.2])), (h_exp, .inr (4, [.ref h_net, .ref h_tab, .ref h_wlk, .ref h_par, .int (0 : Int32)]))]) [1, 0] rfl) hK (hD.sub (ws' := [(h_net, .inr (0, [.ref a_net_sorts, .ref a_net_ranks, .ref a_net_starts, .ref a_net_literals, .ref a_net_nextLiterals, .ref a_net_outputs, .int v1.1, .int v1.2.1, .int v1.2.2.1, .int v1.2.2.2])), (h_exp, .inr (4, [.ref h_net, .ref h_tab, .ref h_wlk, .ref h_par, .int (0 : Int32)]))]) [1, 0] (by decide) rfl) ht hW.alike⟩, hS.F ht⟩) hS.2.2 dExp_clear_21
noncomputable def m_Exp_explore (net_sorts net_ranks net_starts net_literals net_nextLiterals net_outputs : Nat → Int32) (net_gateTotal net_inputTotal net_latchTotal net_outputTotal : Int32) (par_names par_finer par_behind : Nat → Int32) (par_total : Int32) (tab_known tab_settled tab_values : Nat → Int64) (tab_nextStates wlk_distances wlk_order wlk_parents wlk_steps : Nat → Int32) (wlk_settledPairs : Nat → Int64) (wlk_words wlk_reached wlk_doubts wlk_doubtState wlk_doubtChoice exp_explored : Int32)  : Option (Int32 × (Nat → Int32) × (Nat → Int32) × (Nat → Int32) × Int32 × (Nat → Int64) × (Nat → Int64) × (Nat → Int64) × (Nat → Int32) × (Nat → Int32) × (Nat → Int32) × (Nat → Int32) × (Nat → Int32) × (Nat → Int64) × Int32 × Int32 × Int32 × Int32 × Int32 × Int32) := (if exp_explored = (0 : Int32) then (m_Tab_fill net_sorts net_ranks net_starts net_literals net_nextLiterals net_gateTotal net_inputTotal net_latchTotal tab_known tab_settled tab_values tab_nextStates).bind (fun v2 => (m_Wlk_run net_inputTotal net_latchTotal v2.2.1 v2.2.2.2 wlk_distances wlk_order wlk_parents wlk_steps wlk_settledPairs wlk_words wlk_reached wlk_doubts wlk_doubtState wlk_doubtChoice).bind (fun v4 => (m_Par_split net_outputs net_inputTotal net_latchTotal net_outputTotal par_names par_finer par_behind par_total v2.2.1 v2.2.2.1 v2.2.2.2 v4.1).bind (fun v6 => some (v4.2.2.2.2.2.2.1, v6.1, v6.2.1, v6.2.2.1, v6.2.2.2, v2.1, v2.2.1, v2.2.2.1, v2.2.2.2, v4.1, v4.2.1, v4.2.2.1, v4.2.2.2.1, v4.2.2.2.2.1, v4.2.2.2.2.2.1, v4.2.2.2.2.2.2.1, v4.2.2.2.2.2.2.2.1, v4.2.2.2.2.2.2.2.2.1, v4.2.2.2.2.2.2.2.2.2, (1 : Int32))))) else some (wlk_reached, par_names, par_finer, par_behind, par_total, tab_known, tab_settled, tab_values, tab_nextStates, wlk_distances, wlk_order, wlk_parents, wlk_steps, wlk_settledPairs, wlk_words, wlk_reached, wlk_doubts, wlk_doubtState, wlk_doubtChoice, exp_explored))
def rm_Exp_explore : Room := { frames := 6, cells := 0, slots := 0, locals := 150 }
set_option maxHeartbeats 4000000 in
set_option maxRecDepth 100000 in
theorem k_Exp_explore (l : Launch) (dC : Nat → ClassId) (dI : Nat → Nat → Nat) (cI cL cZ : ClassId) (t1 t2 : Nat) (h_net a_net_sorts a_net_ranks a_net_starts a_net_literals a_net_nextLiterals a_net_outputs h_par a_par_names a_par_finer a_par_behind h_tab a_tab_known a_tab_settled a_tab_values a_tab_nextStates h_wlk a_wlk_distances a_wlk_order a_wlk_parents a_wlk_steps a_wlk_settledPairs h_exp : Nat) (net_sorts net_ranks net_starts net_literals net_nextLiterals net_outputs : Nat → Int32) (net_gateTotal net_inputTotal net_latchTotal net_outputTotal : Int32) (par_names par_finer par_behind : Nat → Int32) (par_total : Int32) (tab_known tab_settled tab_values : Nat → Int64) (tab_nextStates wlk_distances wlk_order wlk_parents wlk_steps : Nat → Int32) (wlk_settledPairs : Nat → Int64) (wlk_words wlk_reached wlk_doubts wlk_doubtState wlk_doubtChoice exp_explored : Int32) (sz : Nat)  (v : Int32 × (Nat → Int32) × (Nat → Int32) × (Nat → Int32) × Int32 × (Nat → Int64) × (Nat → Int64) × (Nat → Int64) × (Nat → Int32) × (Nat → Int32) × (Nat → Int32) × (Nat → Int32) × (Nat → Int32) × (Nat → Int64) × Int32 × Int32 × Int32 × Int32 × Int32 × Int32) (hm : m_Exp_explore net_sorts net_ranks net_starts net_literals net_nextLiterals net_outputs net_gateTotal net_inputTotal net_latchTotal net_outputTotal par_names par_finer par_behind par_total tab_known tab_settled tab_values tab_nextStates wlk_distances wlk_order wlk_parents wlk_steps wlk_settledPairs wlk_words wlk_reached wlk_doubts wlk_doubtState wlk_doubtChoice exp_explored = some v) : Met l yExp_explore wsExp_explore rm_Exp_explore (sx_Pc (dC, dI) [(cI, .int), (cL, .long), (cZ, .boolean)] t1 t2 [(h_net, .inr (0, [.ref a_net_sorts, .ref a_net_ranks, .ref a_net_starts, .ref a_net_literals, .ref a_net_nextLiterals, .ref a_net_outputs, .int net_gateTotal, .int net_inputTotal, .int net_latchTotal, .int net_outputTotal])), (h_par, .inr (1, [.ref a_par_names, .ref a_par_finer, .ref a_par_behind, .int par_total])), (h_tab, .inr (2, [.ref a_tab_known, .ref a_tab_settled, .ref a_tab_values, .ref a_tab_nextStates])), (h_wlk, .inr (3, [.ref a_wlk_distances, .ref a_wlk_order, .ref a_wlk_parents, .ref a_wlk_steps, .ref a_wlk_settledPairs, .int wlk_words, .int wlk_reached, .int wlk_doubts, .int wlk_doubtState, .int wlk_doubtChoice])), (h_exp, .inr (4, [.ref h_net, .ref h_tab, .ref h_wlk, .ref h_par, .int exp_explored])), (a_net_sorts, .inl (cI, 60, .inl net_sorts)), (a_net_ranks, .inl (cI, 60, .inl net_ranks)), (a_net_starts, .inl (cI, 61, .inl net_starts)), (a_net_literals, .inl (cI, 240, .inl net_literals)), (a_net_nextLiterals, .inl (cI, 8, .inl net_nextLiterals)), (a_net_outputs, .inl (cI, 6, .inl net_outputs)), (a_par_names, .inl (cI, 256, .inl par_names)), (a_par_finer, .inl (cI, 256, .inl par_finer)), (a_par_behind, .inl (cI, 256, .inl par_behind)), (a_tab_known, .inl (cL, 120, .inr (.inl tab_known))), (a_tab_settled, .inl (cL, 64, .inr (.inl tab_settled))), (a_tab_values, .inl (cL, 3840, .inr (.inl tab_values))), (a_tab_nextStates, .inl (cI, 4096, .inl tab_nextStates)), (a_wlk_distances, .inl (cI, 256, .inl wlk_distances)), (a_wlk_order, .inl (cI, 256, .inl wlk_order)), (a_wlk_parents, .inl (cI, 256, .inl wlk_parents)), (a_wlk_steps, .inl (cI, 256, .inl wlk_steps)), (a_wlk_settledPairs, .inl (cL, 64, .inr (.inl wlk_settledPairs)))] sz [.ref h_exp]) (va_Qi (fun (r : Int32) (_ : Unit) => r = v.1) (fun _ t => sx_W (dC, dI) [(cI, .int), (cL, .long), (cZ, .boolean)] (va_A [(h_net, .inr (0, [.ref a_net_sorts, .ref a_net_ranks, .ref a_net_starts, .ref a_net_literals, .ref a_net_nextLiterals, .ref a_net_outputs, .int net_gateTotal, .int net_inputTotal, .int net_latchTotal, .int net_outputTotal])), (h_par, .inr (1, [.ref a_par_names, .ref a_par_finer, .ref a_par_behind, .int par_total])), (h_tab, .inr (2, [.ref a_tab_known, .ref a_tab_settled, .ref a_tab_values, .ref a_tab_nextStates])), (h_wlk, .inr (3, [.ref a_wlk_distances, .ref a_wlk_order, .ref a_wlk_parents, .ref a_wlk_steps, .ref a_wlk_settledPairs, .int wlk_words, .int wlk_reached, .int wlk_doubts, .int wlk_doubtState, .int wlk_doubtChoice])), (h_exp, .inr (4, [.ref h_net, .ref h_tab, .ref h_wlk, .ref h_par, .int exp_explored])), (a_net_sorts, .inl (cI, 60, .inl net_sorts)), (a_net_ranks, .inl (cI, 60, .inl net_ranks)), (a_net_starts, .inl (cI, 61, .inl net_starts)), (a_net_literals, .inl (cI, 240, .inl net_literals)), (a_net_nextLiterals, .inl (cI, 8, .inl net_nextLiterals)), (a_net_outputs, .inl (cI, 6, .inl net_outputs)), (a_par_names, .inl (cI, 256, .inl par_names)), (a_par_finer, .inl (cI, 256, .inl par_finer)), (a_par_behind, .inl (cI, 256, .inl par_behind)), (a_tab_known, .inl (cL, 120, .inr (.inl tab_known))), (a_tab_settled, .inl (cL, 64, .inr (.inl tab_settled))), (a_tab_values, .inl (cL, 3840, .inr (.inl tab_values))), (a_tab_nextStates, .inl (cI, 4096, .inl tab_nextStates)), (a_wlk_distances, .inl (cI, 256, .inl wlk_distances)), (a_wlk_order, .inl (cI, 256, .inl wlk_order)), (a_wlk_parents, .inl (cI, 256, .inl wlk_parents)), (a_wlk_steps, .inl (cI, 256, .inl wlk_steps)), (a_wlk_settledPairs, .inl (cL, 64, .inr (.inl wlk_settledPairs)))] sz) [(h_net, .inr (0, [.ref a_net_sorts, .ref a_net_ranks, .ref a_net_starts, .ref a_net_literals, .ref a_net_nextLiterals, .ref a_net_outputs, .int net_gateTotal, .int net_inputTotal, .int net_latchTotal, .int net_outputTotal])), (h_par, .inr (1, [.ref a_par_names, .ref a_par_finer, .ref a_par_behind, .int v.2.2.2.2.1])), (h_tab, .inr (2, [.ref a_tab_known, .ref a_tab_settled, .ref a_tab_values, .ref a_tab_nextStates])), (h_wlk, .inr (3, [.ref a_wlk_distances, .ref a_wlk_order, .ref a_wlk_parents, .ref a_wlk_steps, .ref a_wlk_settledPairs, .int v.2.2.2.2.2.2.2.2.2.2.2.2.2.2.1, .int v.2.2.2.2.2.2.2.2.2.2.2.2.2.2.2.1, .int v.2.2.2.2.2.2.2.2.2.2.2.2.2.2.2.2.1, .int v.2.2.2.2.2.2.2.2.2.2.2.2.2.2.2.2.2.1, .int v.2.2.2.2.2.2.2.2.2.2.2.2.2.2.2.2.2.2.1])), (h_exp, .inr (4, [.ref h_net, .ref h_tab, .ref h_wlk, .ref h_par, .int v.2.2.2.2.2.2.2.2.2.2.2.2.2.2.2.2.2.2.2])), (a_net_sorts, .inl (cI, 60, .inl net_sorts)), (a_net_ranks, .inl (cI, 60, .inl net_ranks)), (a_net_starts, .inl (cI, 61, .inl net_starts)), (a_net_literals, .inl (cI, 240, .inl net_literals)), (a_net_nextLiterals, .inl (cI, 8, .inl net_nextLiterals)), (a_net_outputs, .inl (cI, 6, .inl net_outputs)), (a_par_names, .inl (cI, 256, .inl v.2.1)), (a_par_finer, .inl (cI, 256, .inl v.2.2.1)), (a_par_behind, .inl (cI, 256, .inl v.2.2.2.1)), (a_tab_known, .inl (cL, 120, .inr (.inl v.2.2.2.2.2.1))), (a_tab_settled, .inl (cL, 64, .inr (.inl v.2.2.2.2.2.2.1))), (a_tab_values, .inl (cL, 3840, .inr (.inl v.2.2.2.2.2.2.2.1))), (a_tab_nextStates, .inl (cI, 4096, .inl v.2.2.2.2.2.2.2.2.1)), (a_wlk_distances, .inl (cI, 256, .inl v.2.2.2.2.2.2.2.2.2.1)), (a_wlk_order, .inl (cI, 256, .inl v.2.2.2.2.2.2.2.2.2.2.1)), (a_wlk_parents, .inl (cI, 256, .inl v.2.2.2.2.2.2.2.2.2.2.2.1)), (a_wlk_steps, .inl (cI, 256, .inl v.2.2.2.2.2.2.2.2.2.2.2.2.1)), (a_wlk_settledPairs, .inl (cL, 64, .inr (.inl v.2.2.2.2.2.2.2.2.2.2.2.2.2.1)))] t) (va_A [(h_net, .inr (0, [.ref a_net_sorts, .ref a_net_ranks, .ref a_net_starts, .ref a_net_literals, .ref a_net_nextLiterals, .ref a_net_outputs, .int net_gateTotal, .int net_inputTotal, .int net_latchTotal, .int net_outputTotal])), (h_par, .inr (1, [.ref a_par_names, .ref a_par_finer, .ref a_par_behind, .int par_total])), (h_tab, .inr (2, [.ref a_tab_known, .ref a_tab_settled, .ref a_tab_values, .ref a_tab_nextStates])), (h_wlk, .inr (3, [.ref a_wlk_distances, .ref a_wlk_order, .ref a_wlk_parents, .ref a_wlk_steps, .ref a_wlk_settledPairs, .int wlk_words, .int wlk_reached, .int wlk_doubts, .int wlk_doubtState, .int wlk_doubtChoice])), (h_exp, .inr (4, [.ref h_net, .ref h_tab, .ref h_wlk, .ref h_par, .int exp_explored])), (a_net_sorts, .inl (cI, 60, .inl net_sorts)), (a_net_ranks, .inl (cI, 60, .inl net_ranks)), (a_net_starts, .inl (cI, 61, .inl net_starts)), (a_net_literals, .inl (cI, 240, .inl net_literals)), (a_net_nextLiterals, .inl (cI, 8, .inl net_nextLiterals)), (a_net_outputs, .inl (cI, 6, .inl net_outputs)), (a_par_names, .inl (cI, 256, .inl par_names)), (a_par_finer, .inl (cI, 256, .inl par_finer)), (a_par_behind, .inl (cI, 256, .inl par_behind)), (a_tab_known, .inl (cL, 120, .inr (.inl tab_known))), (a_tab_settled, .inl (cL, 64, .inr (.inl tab_settled))), (a_tab_values, .inl (cL, 3840, .inr (.inl tab_values))), (a_tab_nextStates, .inl (cI, 4096, .inl tab_nextStates)), (a_wlk_distances, .inl (cI, 256, .inl wlk_distances)), (a_wlk_order, .inl (cI, 256, .inl wlk_order)), (a_wlk_parents, .inl (cI, 256, .inl wlk_parents)), (a_wlk_steps, .inl (cI, 256, .inl wlk_steps)), (a_wlk_settledPairs, .inl (cL, 64, .inr (.inl wlk_settledPairs)))] sz)) 0 0 (va_A [(h_net, .inr (0, [.ref a_net_sorts, .ref a_net_ranks, .ref a_net_starts, .ref a_net_literals, .ref a_net_nextLiterals, .ref a_net_outputs, .int net_gateTotal, .int net_inputTotal, .int net_latchTotal, .int net_outputTotal])), (h_par, .inr (1, [.ref a_par_names, .ref a_par_finer, .ref a_par_behind, .int par_total])), (h_tab, .inr (2, [.ref a_tab_known, .ref a_tab_settled, .ref a_tab_values, .ref a_tab_nextStates])), (h_wlk, .inr (3, [.ref a_wlk_distances, .ref a_wlk_order, .ref a_wlk_parents, .ref a_wlk_steps, .ref a_wlk_settledPairs, .int wlk_words, .int wlk_reached, .int wlk_doubts, .int wlk_doubtState, .int wlk_doubtChoice])), (h_exp, .inr (4, [.ref h_net, .ref h_tab, .ref h_wlk, .ref h_par, .int exp_explored])), (a_net_sorts, .inl (cI, 60, .inl net_sorts)), (a_net_ranks, .inl (cI, 60, .inl net_ranks)), (a_net_starts, .inl (cI, 61, .inl net_starts)), (a_net_literals, .inl (cI, 240, .inl net_literals)), (a_net_nextLiterals, .inl (cI, 8, .inl net_nextLiterals)), (a_net_outputs, .inl (cI, 6, .inl net_outputs)), (a_par_names, .inl (cI, 256, .inl par_names)), (a_par_finer, .inl (cI, 256, .inl par_finer)), (a_par_behind, .inl (cI, 256, .inl par_behind)), (a_tab_known, .inl (cL, 120, .inr (.inl tab_known))), (a_tab_settled, .inl (cL, 64, .inr (.inl tab_settled))), (a_tab_values, .inl (cL, 3840, .inr (.inl tab_values))), (a_tab_nextStates, .inl (cI, 4096, .inl tab_nextStates)), (a_wlk_distances, .inl (cI, 256, .inl wlk_distances)), (a_wlk_order, .inl (cI, 256, .inl wlk_order)), (a_wlk_parents, .inl (cI, 256, .inl wlk_parents)), (a_wlk_steps, .inl (cI, 256, .inl wlk_steps)), (a_wlk_settledPairs, .inl (cL, 64, .inr (.inl wlk_settledPairs)))] sz) := by
  refine Met.ofW (cc := cExp_explore) (maxL := 1) (ret := (some .int)) (by decide) rfl ?_
  intro p e s m args below meth c s₁ B hml hv
  obtain ⟨rfl, hsz, hP, hK, hD0, hX⟩ := hv
  have hx := B.exec
  have hb := B.bytes
  have hr := B.returns
  have hts0 := atoms_spec (ws := wsExp_explore) B.pre
  have hts : ∀ w ∈ tb, w.before _ s = true := fun w h => hts0 w (List.mem_cons_of_mem _ h)
  have hown : s.vm.findClass "StateExplorer" = some m.cls := findClass_of_methodNamed B.named
  have hlocks := B.notSynchronized
  subst hsz
  have hD := hD0.self (sz := s.heap.size)
  generalize hAe : va_A [(h_net, .inr (0, [.ref a_net_sorts, .ref a_net_ranks, .ref a_net_starts, .ref a_net_literals, .ref a_net_nextLiterals, .ref a_net_outputs, .int net_gateTotal, .int net_inputTotal, .int net_latchTotal, .int net_outputTotal])), (h_par, .inr (1, [.ref a_par_names, .ref a_par_finer, .ref a_par_behind, .int par_total])), (h_tab, .inr (2, [.ref a_tab_known, .ref a_tab_settled, .ref a_tab_values, .ref a_tab_nextStates])), (h_wlk, .inr (3, [.ref a_wlk_distances, .ref a_wlk_order, .ref a_wlk_parents, .ref a_wlk_steps, .ref a_wlk_settledPairs, .int wlk_words, .int wlk_reached, .int wlk_doubts, .int wlk_doubtState, .int wlk_doubtChoice])), (h_exp, .inr (4, [.ref h_net, .ref h_tab, .ref h_wlk, .ref h_par, .int exp_explored])), (a_net_sorts, .inl (cI, 60, .inl net_sorts)), (a_net_ranks, .inl (cI, 60, .inl net_ranks)), (a_net_starts, .inl (cI, 61, .inl net_starts)), (a_net_literals, .inl (cI, 240, .inl net_literals)), (a_net_nextLiterals, .inl (cI, 8, .inl net_nextLiterals)), (a_net_outputs, .inl (cI, 6, .inl net_outputs)), (a_par_names, .inl (cI, 256, .inl par_names)), (a_par_finer, .inl (cI, 256, .inl par_finer)), (a_par_behind, .inl (cI, 256, .inl par_behind)), (a_tab_known, .inl (cL, 120, .inr (.inl tab_known))), (a_tab_settled, .inl (cL, 64, .inr (.inl tab_settled))), (a_tab_values, .inl (cL, 3840, .inr (.inl tab_values))), (a_tab_nextStates, .inl (cI, 4096, .inl tab_nextStates)), (a_wlk_distances, .inl (cI, 256, .inl wlk_distances)), (a_wlk_order, .inl (cI, 256, .inl wlk_order)), (a_wlk_parents, .inl (cI, 256, .inl wlk_parents)), (a_wlk_steps, .inl (cI, 256, .inl wlk_steps)), (a_wlk_settledPairs, .inl (cL, 64, .inr (.inl wlk_settledPairs)))] s.heap.size = A at hD hX ⊢
  have hA : ∀ q : Nat, s.heap.size ≤ q → A q := fun q h => by rw [← hAe]; exact Or.inr h
  have hS : va_S A s.heap s.heap [] := va_S.rf
  have hl := lv_entry ([.ref h_exp]) (n := 1) (Nat.le_of_ble_eq_true rfl)
  rw [lg_entry_eq]
  generalize (lg_sl ([.ref h_exp]) ++ List.replicate (1 - (lg_sl ([.ref h_exp])).length) Slot.unset).toArray = ls at hl ⊢
  have hl : lv_has ls 1 [(0, .ref h_exp)] := hl
  have C0 : sx_C p s m _ meth c cExp_explore 1 "StateExplorer" A (dC, dI) [(cI, .int), (cL, .long), (cZ, .boolean)] t1 t2 := ⟨hx, hb, hml, hown, hts, hA, hK, hlocks, hX⟩
  rw [m_Exp_explore] at hm
  refine lv_aload_n hx hb dExp_explore_0 rfl (lv_at hl 0 rfl) ?_
  refine va_get (D := (dC, dI)) (ci := 4) (v := .int exp_explored) (C := RExp) (T := TExp) (N := 5) hx hb hts inExp hown hK hP 4 rfl rfl 4 (by decide) (hts _ tw_197) (fun _ h9 => h9) rfl dExp_explore_1 ?_
  refine lv_if_ne (tgt := 57) hx hb dExp_explore_4 (by decide) (fun c1 => ?_) (fun c1 => ?_)
  · have hm := sx_neg c1 hm
    refine lv_aload_n hx hb dExp_explore_57 rfl (lv_at hl 0 rfl) ?_
    refine va_get (D := (dC, dI)) (ci := 4) (v := .ref h_wlk) (C := RExp) (T := TExp) (N := 5) hx hb hts inExp hown hK hP 4 rfl rfl 2 (by decide) (hts _ tw_195) (fun _ h9 => h9) rfl dExp_explore_58 ?_
    refine va_get (D := (dC, dI)) (ci := 3) (v := .int wlk_reached) (C := RWlk) (T := TWlk) (N := 10) hx hb hts inWlk hown hK hP 3 rfl rfl 6 (by decide) (hts _ tw_144) (fun _ h9 => h9) rfl dExp_explore_61 ?_
    obtain rfl := Option.some.inj hm
    exact W.iret (v := wlk_reached) hx hb hr (fun t ht hW => ⟨⟨wlk_reached, (), rfl, rfl, sx_Wi hP hK hD ht hW.alike⟩, hS.F ht⟩) hS.2.2 dExp_explore_64
  · have hm := sx_pos c1 hm
    refine lv_aload_n hx hb dExp_explore_7 rfl (lv_at hl 0 rfl) ?_
    refine va_get (D := (dC, dI)) (ci := 4) (v := .ref h_tab) (C := RExp) (T := TExp) (N := 5) hx hb hts inExp hown hK hP 4 rfl rfl 1 (by decide) (hts _ tw_194) (fun _ h9 => h9) rfl dExp_explore_8 ?_
    refine lv_aload_n hx hb dExp_explore_11 rfl (lv_at hl 0 rfl) ?_
    refine va_get (D := (dC, dI)) (ci := 4) (v := .ref h_net) (C := RExp) (T := TExp) (N := 5) hx hb hts inExp hown hK hP 4 rfl rfl 0 (by decide) (hts _ tw_193) (fun _ h9 => h9) rfl dExp_explore_12 ?_
    obtain ⟨v2, hv2, hm⟩ := sx_bind hm
    have hPc := hP.sub (ws' := [(h_net, .inr (0, [.ref a_net_sorts, .ref a_net_ranks, .ref a_net_starts, .ref a_net_literals, .ref a_net_nextLiterals, .ref a_net_outputs, .int net_gateTotal, .int net_inputTotal, .int net_latchTotal, .int net_outputTotal])), (h_tab, .inr (2, [.ref a_tab_known, .ref a_tab_settled, .ref a_tab_values, .ref a_tab_nextStates])), (a_net_sorts, .inl (cI, 60, .inl net_sorts)), (a_net_ranks, .inl (cI, 60, .inl net_ranks)), (a_net_starts, .inl (cI, 61, .inl net_starts)), (a_net_literals, .inl (cI, 240, .inl net_literals)), (a_net_nextLiterals, .inl (cI, 8, .inl net_nextLiterals)), (a_tab_known, .inl (cL, 120, .inr (.inl tab_known))), (a_tab_settled, .inl (cL, 64, .inr (.inl tab_settled))), (a_tab_values, .inl (cL, 3840, .inr (.inl tab_values))), (a_tab_nextStates, .inl (cI, 4096, .inl tab_nextStates))]) [0, 2, 5, 6, 7, 8, 9, 14, 15, 16, 17] rfl
    have hDc := hD.sub (ws' := [(h_net, .inr (0, [.ref a_net_sorts, .ref a_net_ranks, .ref a_net_starts, .ref a_net_literals, .ref a_net_nextLiterals, .ref a_net_outputs, .int net_gateTotal, .int net_inputTotal, .int net_latchTotal, .int net_outputTotal])), (h_tab, .inr (2, [.ref a_tab_known, .ref a_tab_settled, .ref a_tab_values, .ref a_tab_nextStates])), (a_net_sorts, .inl (cI, 60, .inl net_sorts)), (a_net_ranks, .inl (cI, 60, .inl net_ranks)), (a_net_starts, .inl (cI, 61, .inl net_starts)), (a_net_literals, .inl (cI, 240, .inl net_literals)), (a_net_nextLiterals, .inl (cI, 8, .inl net_nextLiterals)), (a_tab_known, .inl (cL, 120, .inr (.inl tab_known))), (a_tab_settled, .inl (cL, 64, .inr (.inl tab_settled))), (a_tab_values, .inl (cL, 3840, .inr (.inl tab_values))), (a_tab_nextStates, .inl (cI, 4096, .inl tab_nextStates))]) [0, 2, 5, 6, 7, 8, 9, 14, 15, 16, 17] (by decide) rfl
    have hFc := va_free (wc := [(h_net, .inr (0, [.ref a_net_sorts, .ref a_net_ranks, .ref a_net_starts, .ref a_net_literals, .ref a_net_nextLiterals, .ref a_net_outputs, .int net_gateTotal, .int net_inputTotal, .int net_latchTotal, .int net_outputTotal])), (h_tab, .inr (2, [.ref a_tab_known, .ref a_tab_settled, .ref a_tab_values, .ref a_tab_nextStates])), (a_net_sorts, .inl (cI, 60, .inl net_sorts)), (a_net_ranks, .inl (cI, 60, .inl net_ranks)), (a_net_starts, .inl (cI, 61, .inl net_starts)), (a_net_literals, .inl (cI, 240, .inl net_literals)), (a_net_nextLiterals, .inl (cI, 8, .inl net_nextLiterals)), (a_tab_known, .inl (cL, 120, .inr (.inl tab_known))), (a_tab_settled, .inl (cL, 64, .inr (.inl tab_settled))), (a_tab_values, .inl (cL, 3840, .inr (.inl tab_values))), (a_tab_nextStates, .inl (cI, 4096, .inl tab_nextStates))]) hD hS hA [0, 2, 5, 6, 7, 8, 9, 14, 15, 16, 17] rfl
    refine va_callv (va_runV (As := [.ref h_net]) (rest := []) ⟨hx, hb, hml, hown, hts⟩ (k_Tab_fill l dC dI cI cL cZ t1 t2 h_net a_net_sorts a_net_ranks a_net_starts a_net_literals a_net_nextLiterals a_net_outputs h_tab a_tab_known a_tab_settled a_tab_values a_tab_nextStates net_sorts net_ranks net_starts net_literals net_nextLiterals net_gateTotal net_inputTotal net_latchTotal net_outputTotal tab_known tab_settled tab_values tab_nextStates _ v2 hv2) (cwV 1 hts (sx_gV tw_221 tw_222 tw_223 tw_38 tcTab_fill) rfl rfl rfl (by decide +kernel) ⟨Nat.le_of_ble_eq_true rfl, Nat.le_of_ble_eq_true rfl⟩) (sx_pV hK hX hS hPc hDc hFc (va_recv hK hPc (ci := 2) (q0 := 1) rfl rfl)) rfl rfl hl.1 rfl (lv_room (Nat.le_of_ble_eq_true rfl)) dExp_explore_15 ⟨Nat.le_of_ble_eq_true rfl, Nat.le_of_ble_eq_true rfl⟩) hS (fun q _ h => hFc q h) hFc (fun u_ t_ H locs ht hvm hw hB hz1 hk1 hS => ?_)
    obtain ⟨hP1, -, hD1⟩ := hB
    rw [ht] at hP1
    obtain ⟨hP, hD⟩ := va_join (wr := [(h_par, .inr (1, [.ref a_par_names, .ref a_par_finer, .ref a_par_behind, .int par_total])), (h_wlk, .inr (3, [.ref a_wlk_distances, .ref a_wlk_order, .ref a_wlk_parents, .ref a_wlk_steps, .ref a_wlk_settledPairs, .int wlk_words, .int wlk_reached, .int wlk_doubts, .int wlk_doubtState, .int wlk_doubtChoice])), (h_exp, .inr (4, [.ref h_net, .ref h_tab, .ref h_wlk, .ref h_par, .int exp_explored])), (a_net_outputs, .inl (cI, 6, .inl net_outputs)), (a_par_names, .inl (cI, 256, .inl par_names)), (a_par_finer, .inl (cI, 256, .inl par_finer)), (a_par_behind, .inl (cI, 256, .inl par_behind)), (a_wlk_distances, .inl (cI, 256, .inl wlk_distances)), (a_wlk_order, .inl (cI, 256, .inl wlk_order)), (a_wlk_parents, .inl (cI, 256, .inl wlk_parents)), (a_wlk_steps, .inl (cI, 256, .inl wlk_steps)), (a_wlk_settledPairs, .inl (cL, 64, .inr (.inl wlk_settledPairs)))]) (w1 := [(h_net, .inr (0, [.ref a_net_sorts, .ref a_net_ranks, .ref a_net_starts, .ref a_net_literals, .ref a_net_nextLiterals, .ref a_net_outputs, .int net_gateTotal, .int net_inputTotal, .int net_latchTotal, .int net_outputTotal])), (h_tab, .inr (2, [.ref a_tab_known, .ref a_tab_settled, .ref a_tab_values, .ref a_tab_nextStates])), (a_net_sorts, .inl (cI, 60, .inl net_sorts)), (a_net_ranks, .inl (cI, 60, .inl net_ranks)), (a_net_starts, .inl (cI, 61, .inl net_starts)), (a_net_literals, .inl (cI, 240, .inl net_literals)), (a_net_nextLiterals, .inl (cI, 8, .inl net_nextLiterals)), (a_tab_known, .inl (cL, 120, .inr (.inl v2.1))), (a_tab_settled, .inl (cL, 64, .inr (.inl v2.2.1))), (a_tab_values, .inl (cL, 3840, .inr (.inl v2.2.2.1))), (a_tab_nextStates, .inl (cI, 4096, .inl v2.2.2.2))]) hP hD [0, 2, 5, 6, 7, 8, 9, 14, 15, 16, 17] [1, 3, 4, 10, 11, 12, 13, 18, 19, 20, 21, 22] rfl rfl (by decide) (by decide) hk1 hFc hP1 hD1
    have hP : va_P (dC, dI) vwCl [(h_par, .inr (1, [.ref a_par_names, .ref a_par_finer, .ref a_par_behind, .int par_total])), (h_wlk, .inr (3, [.ref a_wlk_distances, .ref a_wlk_order, .ref a_wlk_parents, .ref a_wlk_steps, .ref a_wlk_settledPairs, .int wlk_words, .int wlk_reached, .int wlk_doubts, .int wlk_doubtState, .int wlk_doubtChoice])), (h_exp, .inr (4, [.ref h_net, .ref h_tab, .ref h_wlk, .ref h_par, .int exp_explored])), (a_net_outputs, .inl (cI, 6, .inl net_outputs)), (a_par_names, .inl (cI, 256, .inl par_names)), (a_par_finer, .inl (cI, 256, .inl par_finer)), (a_par_behind, .inl (cI, 256, .inl par_behind)), (a_wlk_distances, .inl (cI, 256, .inl wlk_distances)), (a_wlk_order, .inl (cI, 256, .inl wlk_order)), (a_wlk_parents, .inl (cI, 256, .inl wlk_parents)), (a_wlk_steps, .inl (cI, 256, .inl wlk_steps)), (a_wlk_settledPairs, .inl (cL, 64, .inr (.inl wlk_settledPairs))), (h_net, .inr (0, [.ref a_net_sorts, .ref a_net_ranks, .ref a_net_starts, .ref a_net_literals, .ref a_net_nextLiterals, .ref a_net_outputs, .int net_gateTotal, .int net_inputTotal, .int net_latchTotal, .int net_outputTotal])), (h_tab, .inr (2, [.ref a_tab_known, .ref a_tab_settled, .ref a_tab_values, .ref a_tab_nextStates])), (a_net_sorts, .inl (cI, 60, .inl net_sorts)), (a_net_ranks, .inl (cI, 60, .inl net_ranks)), (a_net_starts, .inl (cI, 61, .inl net_starts)), (a_net_literals, .inl (cI, 240, .inl net_literals)), (a_net_nextLiterals, .inl (cI, 8, .inl net_nextLiterals)), (a_tab_known, .inl (cL, 120, .inr (.inl v2.1))), (a_tab_settled, .inl (cL, 64, .inr (.inl v2.2.1))), (a_tab_values, .inl (cL, 3840, .inr (.inl v2.2.2.1))), (a_tab_nextStates, .inl (cI, 4096, .inl v2.2.2.2))] H := hP
    have hD : va_D A [(h_par, .inr (1, [.ref a_par_names, .ref a_par_finer, .ref a_par_behind, .int par_total])), (h_wlk, .inr (3, [.ref a_wlk_distances, .ref a_wlk_order, .ref a_wlk_parents, .ref a_wlk_steps, .ref a_wlk_settledPairs, .int wlk_words, .int wlk_reached, .int wlk_doubts, .int wlk_doubtState, .int wlk_doubtChoice])), (h_exp, .inr (4, [.ref h_net, .ref h_tab, .ref h_wlk, .ref h_par, .int exp_explored])), (a_net_outputs, .inl (cI, 6, .inl net_outputs)), (a_par_names, .inl (cI, 256, .inl par_names)), (a_par_finer, .inl (cI, 256, .inl par_finer)), (a_par_behind, .inl (cI, 256, .inl par_behind)), (a_wlk_distances, .inl (cI, 256, .inl wlk_distances)), (a_wlk_order, .inl (cI, 256, .inl wlk_order)), (a_wlk_parents, .inl (cI, 256, .inl wlk_parents)), (a_wlk_steps, .inl (cI, 256, .inl wlk_steps)), (a_wlk_settledPairs, .inl (cL, 64, .inr (.inl wlk_settledPairs))), (h_net, .inr (0, [.ref a_net_sorts, .ref a_net_ranks, .ref a_net_starts, .ref a_net_literals, .ref a_net_nextLiterals, .ref a_net_outputs, .int net_gateTotal, .int net_inputTotal, .int net_latchTotal, .int net_outputTotal])), (h_tab, .inr (2, [.ref a_tab_known, .ref a_tab_settled, .ref a_tab_values, .ref a_tab_nextStates])), (a_net_sorts, .inl (cI, 60, .inl net_sorts)), (a_net_ranks, .inl (cI, 60, .inl net_ranks)), (a_net_starts, .inl (cI, 61, .inl net_starts)), (a_net_literals, .inl (cI, 240, .inl net_literals)), (a_net_nextLiterals, .inl (cI, 8, .inl net_nextLiterals)), (a_tab_known, .inl (cL, 120, .inr (.inl v2.1))), (a_tab_settled, .inl (cL, 64, .inr (.inl v2.2.1))), (a_tab_values, .inl (cL, 3840, .inr (.inl v2.2.2.1))), (a_tab_nextStates, .inl (cI, 4096, .inl v2.2.2.2))] := hD
    refine lv_aload_n hx hb dExp_explore_18 rfl (lv_at hl 0 rfl) ?_
    refine va_get (D := (dC, dI)) (ci := 4) (v := .ref h_wlk) (C := RExp) (T := TExp) (N := 5) hx hb hts inExp hown hK hP 2 rfl rfl 2 (by decide) (hts _ tw_195) (fun _ h9 => h9) rfl dExp_explore_19 ?_
    refine lv_aload_n hx hb dExp_explore_22 rfl (lv_at hl 0 rfl) ?_
    refine va_get (D := (dC, dI)) (ci := 4) (v := .ref h_net) (C := RExp) (T := TExp) (N := 5) hx hb hts inExp hown hK hP 2 rfl rfl 0 (by decide) (hts _ tw_193) (fun _ h9 => h9) rfl dExp_explore_23 ?_
    refine lv_aload_n hx hb dExp_explore_26 rfl (lv_at hl 0 rfl) ?_
    refine va_get (D := (dC, dI)) (ci := 4) (v := .ref h_tab) (C := RExp) (T := TExp) (N := 5) hx hb hts inExp hown hK hP 2 rfl rfl 1 (by decide) (hts _ tw_194) (fun _ h9 => h9) rfl dExp_explore_27 ?_
    obtain ⟨v4, hv4, hm⟩ := sx_bind hm
    have hPc := hP.sub (ws' := [(h_net, .inr (0, [.ref a_net_sorts, .ref a_net_ranks, .ref a_net_starts, .ref a_net_literals, .ref a_net_nextLiterals, .ref a_net_outputs, .int net_gateTotal, .int net_inputTotal, .int net_latchTotal, .int net_outputTotal])), (h_tab, .inr (2, [.ref a_tab_known, .ref a_tab_settled, .ref a_tab_values, .ref a_tab_nextStates])), (h_wlk, .inr (3, [.ref a_wlk_distances, .ref a_wlk_order, .ref a_wlk_parents, .ref a_wlk_steps, .ref a_wlk_settledPairs, .int wlk_words, .int wlk_reached, .int wlk_doubts, .int wlk_doubtState, .int wlk_doubtChoice])), (a_tab_settled, .inl (cL, 64, .inr (.inl v2.2.1))), (a_tab_nextStates, .inl (cI, 4096, .inl v2.2.2.2)), (a_wlk_distances, .inl (cI, 256, .inl wlk_distances)), (a_wlk_order, .inl (cI, 256, .inl wlk_order)), (a_wlk_parents, .inl (cI, 256, .inl wlk_parents)), (a_wlk_steps, .inl (cI, 256, .inl wlk_steps)), (a_wlk_settledPairs, .inl (cL, 64, .inr (.inl wlk_settledPairs)))]) [12, 13, 1, 20, 22, 7, 8, 9, 10, 11] rfl
    have hDc := hD.sub (ws' := [(h_net, .inr (0, [.ref a_net_sorts, .ref a_net_ranks, .ref a_net_starts, .ref a_net_literals, .ref a_net_nextLiterals, .ref a_net_outputs, .int net_gateTotal, .int net_inputTotal, .int net_latchTotal, .int net_outputTotal])), (h_tab, .inr (2, [.ref a_tab_known, .ref a_tab_settled, .ref a_tab_values, .ref a_tab_nextStates])), (h_wlk, .inr (3, [.ref a_wlk_distances, .ref a_wlk_order, .ref a_wlk_parents, .ref a_wlk_steps, .ref a_wlk_settledPairs, .int wlk_words, .int wlk_reached, .int wlk_doubts, .int wlk_doubtState, .int wlk_doubtChoice])), (a_tab_settled, .inl (cL, 64, .inr (.inl v2.2.1))), (a_tab_nextStates, .inl (cI, 4096, .inl v2.2.2.2)), (a_wlk_distances, .inl (cI, 256, .inl wlk_distances)), (a_wlk_order, .inl (cI, 256, .inl wlk_order)), (a_wlk_parents, .inl (cI, 256, .inl wlk_parents)), (a_wlk_steps, .inl (cI, 256, .inl wlk_steps)), (a_wlk_settledPairs, .inl (cL, 64, .inr (.inl wlk_settledPairs)))]) [12, 13, 1, 20, 22, 7, 8, 9, 10, 11] (by decide) rfl
    have hFc := va_free (wc := [(h_net, .inr (0, [.ref a_net_sorts, .ref a_net_ranks, .ref a_net_starts, .ref a_net_literals, .ref a_net_nextLiterals, .ref a_net_outputs, .int net_gateTotal, .int net_inputTotal, .int net_latchTotal, .int net_outputTotal])), (h_tab, .inr (2, [.ref a_tab_known, .ref a_tab_settled, .ref a_tab_values, .ref a_tab_nextStates])), (h_wlk, .inr (3, [.ref a_wlk_distances, .ref a_wlk_order, .ref a_wlk_parents, .ref a_wlk_steps, .ref a_wlk_settledPairs, .int wlk_words, .int wlk_reached, .int wlk_doubts, .int wlk_doubtState, .int wlk_doubtChoice])), (a_tab_settled, .inl (cL, 64, .inr (.inl v2.2.1))), (a_tab_nextStates, .inl (cI, 4096, .inl v2.2.2.2)), (a_wlk_distances, .inl (cI, 256, .inl wlk_distances)), (a_wlk_order, .inl (cI, 256, .inl wlk_order)), (a_wlk_parents, .inl (cI, 256, .inl wlk_parents)), (a_wlk_steps, .inl (cI, 256, .inl wlk_steps)), (a_wlk_settledPairs, .inl (cL, 64, .inr (.inl wlk_settledPairs)))]) hD hS hA [12, 13, 1, 20, 22, 7, 8, 9, 10, 11] rfl
    refine va_callv (va_runV (As := [.ref h_net, .ref h_tab]) (rest := []) ⟨hx, hb, hml, hown, hts⟩ (k_Wlk_run l dC dI cI cL cZ t1 t2 h_net a_net_sorts a_net_ranks a_net_starts a_net_literals a_net_nextLiterals a_net_outputs h_tab a_tab_known a_tab_settled a_tab_values a_tab_nextStates h_wlk a_wlk_distances a_wlk_order a_wlk_parents a_wlk_steps a_wlk_settledPairs net_gateTotal net_inputTotal net_latchTotal net_outputTotal v2.2.1 v2.2.2.2 wlk_distances wlk_order wlk_parents wlk_steps wlk_settledPairs wlk_words wlk_reached wlk_doubts wlk_doubtState wlk_doubtChoice _ v4 hv4) (cwV 2 hts (sx_gV tw_281 tw_282 tw_283 tw_39 tcWlk_run) rfl rfl rfl (by decide +kernel) ⟨Nat.le_of_ble_eq_true rfl, Nat.le_of_ble_eq_true rfl⟩) (sx_pV hK hX hS hPc hDc hFc (va_recv hK hPc (ci := 3) (q0 := 2) rfl rfl)) rfl rfl hl.1 rfl (lv_room (Nat.le_of_ble_eq_true rfl)) dExp_explore_30 ⟨Nat.le_of_ble_eq_true rfl, Nat.le_of_ble_eq_true rfl⟩) hS (fun q _ h => hFc q h) hFc (fun u_ t_ H locs ht hvm hw hB hz1 hk1 hS => ?_)
    obtain ⟨hP1, -, hD1⟩ := hB
    rw [ht] at hP1
    obtain ⟨hP, hD⟩ := va_join (wr := [(h_par, .inr (1, [.ref a_par_names, .ref a_par_finer, .ref a_par_behind, .int par_total])), (h_exp, .inr (4, [.ref h_net, .ref h_tab, .ref h_wlk, .ref h_par, .int exp_explored])), (a_net_outputs, .inl (cI, 6, .inl net_outputs)), (a_par_names, .inl (cI, 256, .inl par_names)), (a_par_finer, .inl (cI, 256, .inl par_finer)), (a_par_behind, .inl (cI, 256, .inl par_behind)), (a_net_sorts, .inl (cI, 60, .inl net_sorts)), (a_net_ranks, .inl (cI, 60, .inl net_ranks)), (a_net_starts, .inl (cI, 61, .inl net_starts)), (a_net_literals, .inl (cI, 240, .inl net_literals)), (a_net_nextLiterals, .inl (cI, 8, .inl net_nextLiterals)), (a_tab_known, .inl (cL, 120, .inr (.inl v2.1))), (a_tab_values, .inl (cL, 3840, .inr (.inl v2.2.2.1)))]) (w1 := [(h_net, .inr (0, [.ref a_net_sorts, .ref a_net_ranks, .ref a_net_starts, .ref a_net_literals, .ref a_net_nextLiterals, .ref a_net_outputs, .int net_gateTotal, .int net_inputTotal, .int net_latchTotal, .int net_outputTotal])), (h_tab, .inr (2, [.ref a_tab_known, .ref a_tab_settled, .ref a_tab_values, .ref a_tab_nextStates])), (h_wlk, .inr (3, [.ref a_wlk_distances, .ref a_wlk_order, .ref a_wlk_parents, .ref a_wlk_steps, .ref a_wlk_settledPairs, .int v4.2.2.2.2.2.1, .int v4.2.2.2.2.2.2.1, .int v4.2.2.2.2.2.2.2.1, .int v4.2.2.2.2.2.2.2.2.1, .int v4.2.2.2.2.2.2.2.2.2])), (a_tab_settled, .inl (cL, 64, .inr (.inl v2.2.1))), (a_tab_nextStates, .inl (cI, 4096, .inl v2.2.2.2)), (a_wlk_distances, .inl (cI, 256, .inl v4.1)), (a_wlk_order, .inl (cI, 256, .inl v4.2.1)), (a_wlk_parents, .inl (cI, 256, .inl v4.2.2.1)), (a_wlk_steps, .inl (cI, 256, .inl v4.2.2.2.1)), (a_wlk_settledPairs, .inl (cL, 64, .inr (.inl v4.2.2.2.2.1)))]) hP hD [12, 13, 1, 20, 22, 7, 8, 9, 10, 11] [0, 2, 3, 4, 5, 6, 14, 15, 16, 17, 18, 19, 21] rfl rfl (by decide) (by decide) hk1 hFc hP1 hD1
    have hP : va_P (dC, dI) vwCl [(h_par, .inr (1, [.ref a_par_names, .ref a_par_finer, .ref a_par_behind, .int par_total])), (h_exp, .inr (4, [.ref h_net, .ref h_tab, .ref h_wlk, .ref h_par, .int exp_explored])), (a_net_outputs, .inl (cI, 6, .inl net_outputs)), (a_par_names, .inl (cI, 256, .inl par_names)), (a_par_finer, .inl (cI, 256, .inl par_finer)), (a_par_behind, .inl (cI, 256, .inl par_behind)), (a_net_sorts, .inl (cI, 60, .inl net_sorts)), (a_net_ranks, .inl (cI, 60, .inl net_ranks)), (a_net_starts, .inl (cI, 61, .inl net_starts)), (a_net_literals, .inl (cI, 240, .inl net_literals)), (a_net_nextLiterals, .inl (cI, 8, .inl net_nextLiterals)), (a_tab_known, .inl (cL, 120, .inr (.inl v2.1))), (a_tab_values, .inl (cL, 3840, .inr (.inl v2.2.2.1))), (h_net, .inr (0, [.ref a_net_sorts, .ref a_net_ranks, .ref a_net_starts, .ref a_net_literals, .ref a_net_nextLiterals, .ref a_net_outputs, .int net_gateTotal, .int net_inputTotal, .int net_latchTotal, .int net_outputTotal])), (h_tab, .inr (2, [.ref a_tab_known, .ref a_tab_settled, .ref a_tab_values, .ref a_tab_nextStates])), (h_wlk, .inr (3, [.ref a_wlk_distances, .ref a_wlk_order, .ref a_wlk_parents, .ref a_wlk_steps, .ref a_wlk_settledPairs, .int v4.2.2.2.2.2.1, .int v4.2.2.2.2.2.2.1, .int v4.2.2.2.2.2.2.2.1, .int v4.2.2.2.2.2.2.2.2.1, .int v4.2.2.2.2.2.2.2.2.2])), (a_tab_settled, .inl (cL, 64, .inr (.inl v2.2.1))), (a_tab_nextStates, .inl (cI, 4096, .inl v2.2.2.2)), (a_wlk_distances, .inl (cI, 256, .inl v4.1)), (a_wlk_order, .inl (cI, 256, .inl v4.2.1)), (a_wlk_parents, .inl (cI, 256, .inl v4.2.2.1)), (a_wlk_steps, .inl (cI, 256, .inl v4.2.2.2.1)), (a_wlk_settledPairs, .inl (cL, 64, .inr (.inl v4.2.2.2.2.1)))] H := hP
    have hD : va_D A [(h_par, .inr (1, [.ref a_par_names, .ref a_par_finer, .ref a_par_behind, .int par_total])), (h_exp, .inr (4, [.ref h_net, .ref h_tab, .ref h_wlk, .ref h_par, .int exp_explored])), (a_net_outputs, .inl (cI, 6, .inl net_outputs)), (a_par_names, .inl (cI, 256, .inl par_names)), (a_par_finer, .inl (cI, 256, .inl par_finer)), (a_par_behind, .inl (cI, 256, .inl par_behind)), (a_net_sorts, .inl (cI, 60, .inl net_sorts)), (a_net_ranks, .inl (cI, 60, .inl net_ranks)), (a_net_starts, .inl (cI, 61, .inl net_starts)), (a_net_literals, .inl (cI, 240, .inl net_literals)), (a_net_nextLiterals, .inl (cI, 8, .inl net_nextLiterals)), (a_tab_known, .inl (cL, 120, .inr (.inl v2.1))), (a_tab_values, .inl (cL, 3840, .inr (.inl v2.2.2.1))), (h_net, .inr (0, [.ref a_net_sorts, .ref a_net_ranks, .ref a_net_starts, .ref a_net_literals, .ref a_net_nextLiterals, .ref a_net_outputs, .int net_gateTotal, .int net_inputTotal, .int net_latchTotal, .int net_outputTotal])), (h_tab, .inr (2, [.ref a_tab_known, .ref a_tab_settled, .ref a_tab_values, .ref a_tab_nextStates])), (h_wlk, .inr (3, [.ref a_wlk_distances, .ref a_wlk_order, .ref a_wlk_parents, .ref a_wlk_steps, .ref a_wlk_settledPairs, .int v4.2.2.2.2.2.1, .int v4.2.2.2.2.2.2.1, .int v4.2.2.2.2.2.2.2.1, .int v4.2.2.2.2.2.2.2.2.1, .int v4.2.2.2.2.2.2.2.2.2])), (a_tab_settled, .inl (cL, 64, .inr (.inl v2.2.1))), (a_tab_nextStates, .inl (cI, 4096, .inl v2.2.2.2)), (a_wlk_distances, .inl (cI, 256, .inl v4.1)), (a_wlk_order, .inl (cI, 256, .inl v4.2.1)), (a_wlk_parents, .inl (cI, 256, .inl v4.2.2.1)), (a_wlk_steps, .inl (cI, 256, .inl v4.2.2.2.1)), (a_wlk_settledPairs, .inl (cL, 64, .inr (.inl v4.2.2.2.2.1)))] := hD
    refine lv_aload_n hx hb dExp_explore_33 rfl (lv_at hl 0 rfl) ?_
    refine va_get (D := (dC, dI)) (ci := 4) (v := .ref h_par) (C := RExp) (T := TExp) (N := 5) hx hb hts inExp hown hK hP 1 rfl rfl 3 (by decide) (hts _ tw_196) (fun _ h9 => h9) rfl dExp_explore_34 ?_
    refine lv_aload_n hx hb dExp_explore_37 rfl (lv_at hl 0 rfl) ?_
    refine va_get (D := (dC, dI)) (ci := 4) (v := .ref h_net) (C := RExp) (T := TExp) (N := 5) hx hb hts inExp hown hK hP 1 rfl rfl 0 (by decide) (hts _ tw_193) (fun _ h9 => h9) rfl dExp_explore_38 ?_
    refine lv_aload_n hx hb dExp_explore_41 rfl (lv_at hl 0 rfl) ?_
    refine va_get (D := (dC, dI)) (ci := 4) (v := .ref h_tab) (C := RExp) (T := TExp) (N := 5) hx hb hts inExp hown hK hP 1 rfl rfl 1 (by decide) (hts _ tw_194) (fun _ h9 => h9) rfl dExp_explore_42 ?_
    refine lv_aload_n hx hb dExp_explore_45 rfl (lv_at hl 0 rfl) ?_
    refine va_get (D := (dC, dI)) (ci := 4) (v := .ref h_wlk) (C := RExp) (T := TExp) (N := 5) hx hb hts inExp hown hK hP 1 rfl rfl 2 (by decide) (hts _ tw_195) (fun _ h9 => h9) rfl dExp_explore_46 ?_
    obtain ⟨v6, hv6, hm⟩ := sx_bind hm
    have hPc := hP.sub (ws' := [(h_net, .inr (0, [.ref a_net_sorts, .ref a_net_ranks, .ref a_net_starts, .ref a_net_literals, .ref a_net_nextLiterals, .ref a_net_outputs, .int net_gateTotal, .int net_inputTotal, .int net_latchTotal, .int net_outputTotal])), (h_par, .inr (1, [.ref a_par_names, .ref a_par_finer, .ref a_par_behind, .int par_total])), (h_tab, .inr (2, [.ref a_tab_known, .ref a_tab_settled, .ref a_tab_values, .ref a_tab_nextStates])), (h_wlk, .inr (3, [.ref a_wlk_distances, .ref a_wlk_order, .ref a_wlk_parents, .ref a_wlk_steps, .ref a_wlk_settledPairs, .int v4.2.2.2.2.2.1, .int v4.2.2.2.2.2.2.1, .int v4.2.2.2.2.2.2.2.1, .int v4.2.2.2.2.2.2.2.2.1, .int v4.2.2.2.2.2.2.2.2.2])), (a_net_outputs, .inl (cI, 6, .inl net_outputs)), (a_par_names, .inl (cI, 256, .inl par_names)), (a_par_finer, .inl (cI, 256, .inl par_finer)), (a_par_behind, .inl (cI, 256, .inl par_behind)), (a_tab_settled, .inl (cL, 64, .inr (.inl v2.2.1))), (a_tab_values, .inl (cL, 3840, .inr (.inl v2.2.2.1))), (a_tab_nextStates, .inl (cI, 4096, .inl v2.2.2.2)), (a_wlk_distances, .inl (cI, 256, .inl v4.1))]) [13, 0, 14, 15, 2, 3, 4, 5, 16, 12, 17, 18] rfl
    have hDc := hD.sub (ws' := [(h_net, .inr (0, [.ref a_net_sorts, .ref a_net_ranks, .ref a_net_starts, .ref a_net_literals, .ref a_net_nextLiterals, .ref a_net_outputs, .int net_gateTotal, .int net_inputTotal, .int net_latchTotal, .int net_outputTotal])), (h_par, .inr (1, [.ref a_par_names, .ref a_par_finer, .ref a_par_behind, .int par_total])), (h_tab, .inr (2, [.ref a_tab_known, .ref a_tab_settled, .ref a_tab_values, .ref a_tab_nextStates])), (h_wlk, .inr (3, [.ref a_wlk_distances, .ref a_wlk_order, .ref a_wlk_parents, .ref a_wlk_steps, .ref a_wlk_settledPairs, .int v4.2.2.2.2.2.1, .int v4.2.2.2.2.2.2.1, .int v4.2.2.2.2.2.2.2.1, .int v4.2.2.2.2.2.2.2.2.1, .int v4.2.2.2.2.2.2.2.2.2])), (a_net_outputs, .inl (cI, 6, .inl net_outputs)), (a_par_names, .inl (cI, 256, .inl par_names)), (a_par_finer, .inl (cI, 256, .inl par_finer)), (a_par_behind, .inl (cI, 256, .inl par_behind)), (a_tab_settled, .inl (cL, 64, .inr (.inl v2.2.1))), (a_tab_values, .inl (cL, 3840, .inr (.inl v2.2.2.1))), (a_tab_nextStates, .inl (cI, 4096, .inl v2.2.2.2)), (a_wlk_distances, .inl (cI, 256, .inl v4.1))]) [13, 0, 14, 15, 2, 3, 4, 5, 16, 12, 17, 18] (by decide) rfl
    have hFc := va_free (wc := [(h_net, .inr (0, [.ref a_net_sorts, .ref a_net_ranks, .ref a_net_starts, .ref a_net_literals, .ref a_net_nextLiterals, .ref a_net_outputs, .int net_gateTotal, .int net_inputTotal, .int net_latchTotal, .int net_outputTotal])), (h_par, .inr (1, [.ref a_par_names, .ref a_par_finer, .ref a_par_behind, .int par_total])), (h_tab, .inr (2, [.ref a_tab_known, .ref a_tab_settled, .ref a_tab_values, .ref a_tab_nextStates])), (h_wlk, .inr (3, [.ref a_wlk_distances, .ref a_wlk_order, .ref a_wlk_parents, .ref a_wlk_steps, .ref a_wlk_settledPairs, .int v4.2.2.2.2.2.1, .int v4.2.2.2.2.2.2.1, .int v4.2.2.2.2.2.2.2.1, .int v4.2.2.2.2.2.2.2.2.1, .int v4.2.2.2.2.2.2.2.2.2])), (a_net_outputs, .inl (cI, 6, .inl net_outputs)), (a_par_names, .inl (cI, 256, .inl par_names)), (a_par_finer, .inl (cI, 256, .inl par_finer)), (a_par_behind, .inl (cI, 256, .inl par_behind)), (a_tab_settled, .inl (cL, 64, .inr (.inl v2.2.1))), (a_tab_values, .inl (cL, 3840, .inr (.inl v2.2.2.1))), (a_tab_nextStates, .inl (cI, 4096, .inl v2.2.2.2)), (a_wlk_distances, .inl (cI, 256, .inl v4.1))]) hD hS hA [13, 0, 14, 15, 2, 3, 4, 5, 16, 12, 17, 18] rfl
    refine va_callv (va_runV (As := [.ref h_net, .ref h_tab, .ref h_wlk]) (rest := []) ⟨hx, hb, hml, hown, hts⟩ (k_Par_split l dC dI cI cL cZ t1 t2 h_net a_net_sorts a_net_ranks a_net_starts a_net_literals a_net_nextLiterals a_net_outputs h_par a_par_names a_par_finer a_par_behind h_tab a_tab_known a_tab_settled a_tab_values a_tab_nextStates h_wlk a_wlk_distances a_wlk_order a_wlk_parents a_wlk_steps a_wlk_settledPairs net_outputs net_gateTotal net_inputTotal net_latchTotal net_outputTotal par_names par_finer par_behind par_total v2.2.1 v2.2.2.1 v2.2.2.2 v4.1 v4.2.2.2.2.2.1 v4.2.2.2.2.2.2.1 v4.2.2.2.2.2.2.2.1 v4.2.2.2.2.2.2.2.2.1 v4.2.2.2.2.2.2.2.2.2 _ v6 hv6) (cwV 3 hts (sx_gV tw_315 tw_316 tw_317 tw_40 tcPar_split) rfl rfl rfl (by decide +kernel) ⟨Nat.le_of_ble_eq_true rfl, Nat.le_of_ble_eq_true rfl⟩) (sx_pV hK hX hS hPc hDc hFc (va_recv hK hPc (ci := 1) (q0 := 1) rfl rfl)) rfl rfl hl.1 rfl (lv_room (Nat.le_of_ble_eq_true rfl)) dExp_explore_49 ⟨Nat.le_of_ble_eq_true rfl, Nat.le_of_ble_eq_true rfl⟩) hS (fun q _ h => hFc q h) hFc (fun u_ t_ H locs ht hvm hw hB hz1 hk1 hS => ?_)
    obtain ⟨hP1, -, hD1⟩ := hB
    rw [ht] at hP1
    obtain ⟨hP, hD⟩ := va_join (wr := [(h_exp, .inr (4, [.ref h_net, .ref h_tab, .ref h_wlk, .ref h_par, .int exp_explored])), (a_net_sorts, .inl (cI, 60, .inl net_sorts)), (a_net_ranks, .inl (cI, 60, .inl net_ranks)), (a_net_starts, .inl (cI, 61, .inl net_starts)), (a_net_literals, .inl (cI, 240, .inl net_literals)), (a_net_nextLiterals, .inl (cI, 8, .inl net_nextLiterals)), (a_tab_known, .inl (cL, 120, .inr (.inl v2.1))), (a_wlk_order, .inl (cI, 256, .inl v4.2.1)), (a_wlk_parents, .inl (cI, 256, .inl v4.2.2.1)), (a_wlk_steps, .inl (cI, 256, .inl v4.2.2.2.1)), (a_wlk_settledPairs, .inl (cL, 64, .inr (.inl v4.2.2.2.2.1)))]) (w1 := [(h_net, .inr (0, [.ref a_net_sorts, .ref a_net_ranks, .ref a_net_starts, .ref a_net_literals, .ref a_net_nextLiterals, .ref a_net_outputs, .int net_gateTotal, .int net_inputTotal, .int net_latchTotal, .int net_outputTotal])), (h_par, .inr (1, [.ref a_par_names, .ref a_par_finer, .ref a_par_behind, .int v6.2.2.2])), (h_tab, .inr (2, [.ref a_tab_known, .ref a_tab_settled, .ref a_tab_values, .ref a_tab_nextStates])), (h_wlk, .inr (3, [.ref a_wlk_distances, .ref a_wlk_order, .ref a_wlk_parents, .ref a_wlk_steps, .ref a_wlk_settledPairs, .int v4.2.2.2.2.2.1, .int v4.2.2.2.2.2.2.1, .int v4.2.2.2.2.2.2.2.1, .int v4.2.2.2.2.2.2.2.2.1, .int v4.2.2.2.2.2.2.2.2.2])), (a_net_outputs, .inl (cI, 6, .inl net_outputs)), (a_par_names, .inl (cI, 256, .inl v6.1)), (a_par_finer, .inl (cI, 256, .inl v6.2.1)), (a_par_behind, .inl (cI, 256, .inl v6.2.2.1)), (a_tab_settled, .inl (cL, 64, .inr (.inl v2.2.1))), (a_tab_values, .inl (cL, 3840, .inr (.inl v2.2.2.1))), (a_tab_nextStates, .inl (cI, 4096, .inl v2.2.2.2)), (a_wlk_distances, .inl (cI, 256, .inl v4.1))]) hP hD [13, 0, 14, 15, 2, 3, 4, 5, 16, 12, 17, 18] [1, 6, 7, 8, 9, 10, 11, 19, 20, 21, 22] rfl rfl (by decide) (by decide) hk1 hFc hP1 hD1
    have hP : va_P (dC, dI) vwCl [(h_exp, .inr (4, [.ref h_net, .ref h_tab, .ref h_wlk, .ref h_par, .int exp_explored])), (a_net_sorts, .inl (cI, 60, .inl net_sorts)), (a_net_ranks, .inl (cI, 60, .inl net_ranks)), (a_net_starts, .inl (cI, 61, .inl net_starts)), (a_net_literals, .inl (cI, 240, .inl net_literals)), (a_net_nextLiterals, .inl (cI, 8, .inl net_nextLiterals)), (a_tab_known, .inl (cL, 120, .inr (.inl v2.1))), (a_wlk_order, .inl (cI, 256, .inl v4.2.1)), (a_wlk_parents, .inl (cI, 256, .inl v4.2.2.1)), (a_wlk_steps, .inl (cI, 256, .inl v4.2.2.2.1)), (a_wlk_settledPairs, .inl (cL, 64, .inr (.inl v4.2.2.2.2.1))), (h_net, .inr (0, [.ref a_net_sorts, .ref a_net_ranks, .ref a_net_starts, .ref a_net_literals, .ref a_net_nextLiterals, .ref a_net_outputs, .int net_gateTotal, .int net_inputTotal, .int net_latchTotal, .int net_outputTotal])), (h_par, .inr (1, [.ref a_par_names, .ref a_par_finer, .ref a_par_behind, .int v6.2.2.2])), (h_tab, .inr (2, [.ref a_tab_known, .ref a_tab_settled, .ref a_tab_values, .ref a_tab_nextStates])), (h_wlk, .inr (3, [.ref a_wlk_distances, .ref a_wlk_order, .ref a_wlk_parents, .ref a_wlk_steps, .ref a_wlk_settledPairs, .int v4.2.2.2.2.2.1, .int v4.2.2.2.2.2.2.1, .int v4.2.2.2.2.2.2.2.1, .int v4.2.2.2.2.2.2.2.2.1, .int v4.2.2.2.2.2.2.2.2.2])), (a_net_outputs, .inl (cI, 6, .inl net_outputs)), (a_par_names, .inl (cI, 256, .inl v6.1)), (a_par_finer, .inl (cI, 256, .inl v6.2.1)), (a_par_behind, .inl (cI, 256, .inl v6.2.2.1)), (a_tab_settled, .inl (cL, 64, .inr (.inl v2.2.1))), (a_tab_values, .inl (cL, 3840, .inr (.inl v2.2.2.1))), (a_tab_nextStates, .inl (cI, 4096, .inl v2.2.2.2)), (a_wlk_distances, .inl (cI, 256, .inl v4.1))] H := hP
    have hD : va_D A [(h_exp, .inr (4, [.ref h_net, .ref h_tab, .ref h_wlk, .ref h_par, .int exp_explored])), (a_net_sorts, .inl (cI, 60, .inl net_sorts)), (a_net_ranks, .inl (cI, 60, .inl net_ranks)), (a_net_starts, .inl (cI, 61, .inl net_starts)), (a_net_literals, .inl (cI, 240, .inl net_literals)), (a_net_nextLiterals, .inl (cI, 8, .inl net_nextLiterals)), (a_tab_known, .inl (cL, 120, .inr (.inl v2.1))), (a_wlk_order, .inl (cI, 256, .inl v4.2.1)), (a_wlk_parents, .inl (cI, 256, .inl v4.2.2.1)), (a_wlk_steps, .inl (cI, 256, .inl v4.2.2.2.1)), (a_wlk_settledPairs, .inl (cL, 64, .inr (.inl v4.2.2.2.2.1))), (h_net, .inr (0, [.ref a_net_sorts, .ref a_net_ranks, .ref a_net_starts, .ref a_net_literals, .ref a_net_nextLiterals, .ref a_net_outputs, .int net_gateTotal, .int net_inputTotal, .int net_latchTotal, .int net_outputTotal])), (h_par, .inr (1, [.ref a_par_names, .ref a_par_finer, .ref a_par_behind, .int v6.2.2.2])), (h_tab, .inr (2, [.ref a_tab_known, .ref a_tab_settled, .ref a_tab_values, .ref a_tab_nextStates])), (h_wlk, .inr (3, [.ref a_wlk_distances, .ref a_wlk_order, .ref a_wlk_parents, .ref a_wlk_steps, .ref a_wlk_settledPairs, .int v4.2.2.2.2.2.1, .int v4.2.2.2.2.2.2.1, .int v4.2.2.2.2.2.2.2.1, .int v4.2.2.2.2.2.2.2.2.1, .int v4.2.2.2.2.2.2.2.2.2])), (a_net_outputs, .inl (cI, 6, .inl net_outputs)), (a_par_names, .inl (cI, 256, .inl v6.1)), (a_par_finer, .inl (cI, 256, .inl v6.2.1)), (a_par_behind, .inl (cI, 256, .inl v6.2.2.1)), (a_tab_settled, .inl (cL, 64, .inr (.inl v2.2.1))), (a_tab_values, .inl (cL, 3840, .inr (.inl v2.2.2.1))), (a_tab_nextStates, .inl (cI, 4096, .inl v2.2.2.2)), (a_wlk_distances, .inl (cI, 256, .inl v4.1))] := hD
    refine lv_aload_n hx hb dExp_explore_52 rfl (lv_at hl 0 rfl) ?_
    refine lv_iconst (v := (1 : Int32)) hx hb dExp_explore_53 (by decide) ?_
    refine va_put (D := (dC, dI)) (ci := 4) (v := .int (1 : Int32)) (ty := .boolean) (C := RExp) (T := TExp) (N := 5) hx hb hts inExp tyExp tyExp_ok nmExp hown hK hP hD hS 0 rfl rfl 4 (by decide) (hts _ tw_197) (fun _ h9 => h9) rfl (by decide +kernel) (by decide) (by decide) (Nat.le_of_ble_eq_true rfl) dExp_explore_54 (fun H locs hP hD hS => ?_)
    have hP : va_P (dC, dI) vwCl [(h_exp, .inr (4, [.ref h_net, .ref h_tab, .ref h_wlk, .ref h_par, .int (1 : Int32)])), (a_net_sorts, .inl (cI, 60, .inl net_sorts)), (a_net_ranks, .inl (cI, 60, .inl net_ranks)), (a_net_starts, .inl (cI, 61, .inl net_starts)), (a_net_literals, .inl (cI, 240, .inl net_literals)), (a_net_nextLiterals, .inl (cI, 8, .inl net_nextLiterals)), (a_tab_known, .inl (cL, 120, .inr (.inl v2.1))), (a_wlk_order, .inl (cI, 256, .inl v4.2.1)), (a_wlk_parents, .inl (cI, 256, .inl v4.2.2.1)), (a_wlk_steps, .inl (cI, 256, .inl v4.2.2.2.1)), (a_wlk_settledPairs, .inl (cL, 64, .inr (.inl v4.2.2.2.2.1))), (h_net, .inr (0, [.ref a_net_sorts, .ref a_net_ranks, .ref a_net_starts, .ref a_net_literals, .ref a_net_nextLiterals, .ref a_net_outputs, .int net_gateTotal, .int net_inputTotal, .int net_latchTotal, .int net_outputTotal])), (h_par, .inr (1, [.ref a_par_names, .ref a_par_finer, .ref a_par_behind, .int v6.2.2.2])), (h_tab, .inr (2, [.ref a_tab_known, .ref a_tab_settled, .ref a_tab_values, .ref a_tab_nextStates])), (h_wlk, .inr (3, [.ref a_wlk_distances, .ref a_wlk_order, .ref a_wlk_parents, .ref a_wlk_steps, .ref a_wlk_settledPairs, .int v4.2.2.2.2.2.1, .int v4.2.2.2.2.2.2.1, .int v4.2.2.2.2.2.2.2.1, .int v4.2.2.2.2.2.2.2.2.1, .int v4.2.2.2.2.2.2.2.2.2])), (a_net_outputs, .inl (cI, 6, .inl net_outputs)), (a_par_names, .inl (cI, 256, .inl v6.1)), (a_par_finer, .inl (cI, 256, .inl v6.2.1)), (a_par_behind, .inl (cI, 256, .inl v6.2.2.1)), (a_tab_settled, .inl (cL, 64, .inr (.inl v2.2.1))), (a_tab_values, .inl (cL, 3840, .inr (.inl v2.2.2.1))), (a_tab_nextStates, .inl (cI, 4096, .inl v2.2.2.2)), (a_wlk_distances, .inl (cI, 256, .inl v4.1))] H := hP
    have hD : va_D A [(h_exp, .inr (4, [.ref h_net, .ref h_tab, .ref h_wlk, .ref h_par, .int (1 : Int32)])), (a_net_sorts, .inl (cI, 60, .inl net_sorts)), (a_net_ranks, .inl (cI, 60, .inl net_ranks)), (a_net_starts, .inl (cI, 61, .inl net_starts)), (a_net_literals, .inl (cI, 240, .inl net_literals)), (a_net_nextLiterals, .inl (cI, 8, .inl net_nextLiterals)), (a_tab_known, .inl (cL, 120, .inr (.inl v2.1))), (a_wlk_order, .inl (cI, 256, .inl v4.2.1)), (a_wlk_parents, .inl (cI, 256, .inl v4.2.2.1)), (a_wlk_steps, .inl (cI, 256, .inl v4.2.2.2.1)), (a_wlk_settledPairs, .inl (cL, 64, .inr (.inl v4.2.2.2.2.1))), (h_net, .inr (0, [.ref a_net_sorts, .ref a_net_ranks, .ref a_net_starts, .ref a_net_literals, .ref a_net_nextLiterals, .ref a_net_outputs, .int net_gateTotal, .int net_inputTotal, .int net_latchTotal, .int net_outputTotal])), (h_par, .inr (1, [.ref a_par_names, .ref a_par_finer, .ref a_par_behind, .int v6.2.2.2])), (h_tab, .inr (2, [.ref a_tab_known, .ref a_tab_settled, .ref a_tab_values, .ref a_tab_nextStates])), (h_wlk, .inr (3, [.ref a_wlk_distances, .ref a_wlk_order, .ref a_wlk_parents, .ref a_wlk_steps, .ref a_wlk_settledPairs, .int v4.2.2.2.2.2.1, .int v4.2.2.2.2.2.2.1, .int v4.2.2.2.2.2.2.2.1, .int v4.2.2.2.2.2.2.2.2.1, .int v4.2.2.2.2.2.2.2.2.2])), (a_net_outputs, .inl (cI, 6, .inl net_outputs)), (a_par_names, .inl (cI, 256, .inl v6.1)), (a_par_finer, .inl (cI, 256, .inl v6.2.1)), (a_par_behind, .inl (cI, 256, .inl v6.2.2.1)), (a_tab_settled, .inl (cL, 64, .inr (.inl v2.2.1))), (a_tab_values, .inl (cL, 3840, .inr (.inl v2.2.2.1))), (a_tab_nextStates, .inl (cI, 4096, .inl v2.2.2.2)), (a_wlk_distances, .inl (cI, 256, .inl v4.1))] := hD
    refine lv_aload_n hx hb dExp_explore_57 rfl (lv_at hl 0 rfl) ?_
    refine va_get (D := (dC, dI)) (ci := 4) (v := .ref h_wlk) (C := RExp) (T := TExp) (N := 5) hx hb hts inExp hown hK hP 0 rfl rfl 2 (by decide) (hts _ tw_195) (fun _ h9 => h9) rfl dExp_explore_58 ?_
    refine va_get (D := (dC, dI)) (ci := 3) (v := .int v4.2.2.2.2.2.2.1) (C := RWlk) (T := TWlk) (N := 10) hx hb hts inWlk hown hK hP 14 rfl rfl 6 (by decide) (hts _ tw_144) (fun _ h9 => h9) rfl dExp_explore_61 ?_
    obtain rfl := Option.some.inj hm
    exact W.iret (v := v4.2.2.2.2.2.2.1) hx hb hr (fun t ht hW => ⟨⟨v4.2.2.2.2.2.2.1, (), rfl, rfl, sx_Wi (hP.sub (ws' := [(h_net, .inr (0, [.ref a_net_sorts, .ref a_net_ranks, .ref a_net_starts, .ref a_net_literals, .ref a_net_nextLiterals, .ref a_net_outputs, .int net_gateTotal, .int net_inputTotal, .int net_latchTotal, .int net_outputTotal])), (h_par, .inr (1, [.ref a_par_names, .ref a_par_finer, .ref a_par_behind, .int v6.2.2.2])), (h_tab, .inr (2, [.ref a_tab_known, .ref a_tab_settled, .ref a_tab_values, .ref a_tab_nextStates])), (h_wlk, .inr (3, [.ref a_wlk_distances, .ref a_wlk_order, .ref a_wlk_parents, .ref a_wlk_steps, .ref a_wlk_settledPairs, .int v4.2.2.2.2.2.1, .int v4.2.2.2.2.2.2.1, .int v4.2.2.2.2.2.2.2.1, .int v4.2.2.2.2.2.2.2.2.1, .int v4.2.2.2.2.2.2.2.2.2])), (h_exp, .inr (4, [.ref h_net, .ref h_tab, .ref h_wlk, .ref h_par, .int (1 : Int32)])), (a_net_sorts, .inl (cI, 60, .inl net_sorts)), (a_net_ranks, .inl (cI, 60, .inl net_ranks)), (a_net_starts, .inl (cI, 61, .inl net_starts)), (a_net_literals, .inl (cI, 240, .inl net_literals)), (a_net_nextLiterals, .inl (cI, 8, .inl net_nextLiterals)), (a_net_outputs, .inl (cI, 6, .inl net_outputs)), (a_par_names, .inl (cI, 256, .inl v6.1)), (a_par_finer, .inl (cI, 256, .inl v6.2.1)), (a_par_behind, .inl (cI, 256, .inl v6.2.2.1)), (a_tab_known, .inl (cL, 120, .inr (.inl v2.1))), (a_tab_settled, .inl (cL, 64, .inr (.inl v2.2.1))), (a_tab_values, .inl (cL, 3840, .inr (.inl v2.2.2.1))), (a_tab_nextStates, .inl (cI, 4096, .inl v2.2.2.2)), (a_wlk_distances, .inl (cI, 256, .inl v4.1)), (a_wlk_order, .inl (cI, 256, .inl v4.2.1)), (a_wlk_parents, .inl (cI, 256, .inl v4.2.2.1)), (a_wlk_steps, .inl (cI, 256, .inl v4.2.2.2.1)), (a_wlk_settledPairs, .inl (cL, 64, .inr (.inl v4.2.2.2.2.1)))]) [11, 12, 13, 14, 0, 1, 2, 3, 4, 5, 15, 16, 17, 18, 6, 19, 20, 21, 22, 7, 8, 9, 10] rfl) hK (hD.sub (ws' := [(h_net, .inr (0, [.ref a_net_sorts, .ref a_net_ranks, .ref a_net_starts, .ref a_net_literals, .ref a_net_nextLiterals, .ref a_net_outputs, .int net_gateTotal, .int net_inputTotal, .int net_latchTotal, .int net_outputTotal])), (h_par, .inr (1, [.ref a_par_names, .ref a_par_finer, .ref a_par_behind, .int v6.2.2.2])), (h_tab, .inr (2, [.ref a_tab_known, .ref a_tab_settled, .ref a_tab_values, .ref a_tab_nextStates])), (h_wlk, .inr (3, [.ref a_wlk_distances, .ref a_wlk_order, .ref a_wlk_parents, .ref a_wlk_steps, .ref a_wlk_settledPairs, .int v4.2.2.2.2.2.1, .int v4.2.2.2.2.2.2.1, .int v4.2.2.2.2.2.2.2.1, .int v4.2.2.2.2.2.2.2.2.1, .int v4.2.2.2.2.2.2.2.2.2])), (h_exp, .inr (4, [.ref h_net, .ref h_tab, .ref h_wlk, .ref h_par, .int (1 : Int32)])), (a_net_sorts, .inl (cI, 60, .inl net_sorts)), (a_net_ranks, .inl (cI, 60, .inl net_ranks)), (a_net_starts, .inl (cI, 61, .inl net_starts)), (a_net_literals, .inl (cI, 240, .inl net_literals)), (a_net_nextLiterals, .inl (cI, 8, .inl net_nextLiterals)), (a_net_outputs, .inl (cI, 6, .inl net_outputs)), (a_par_names, .inl (cI, 256, .inl v6.1)), (a_par_finer, .inl (cI, 256, .inl v6.2.1)), (a_par_behind, .inl (cI, 256, .inl v6.2.2.1)), (a_tab_known, .inl (cL, 120, .inr (.inl v2.1))), (a_tab_settled, .inl (cL, 64, .inr (.inl v2.2.1))), (a_tab_values, .inl (cL, 3840, .inr (.inl v2.2.2.1))), (a_tab_nextStates, .inl (cI, 4096, .inl v2.2.2.2)), (a_wlk_distances, .inl (cI, 256, .inl v4.1)), (a_wlk_order, .inl (cI, 256, .inl v4.2.1)), (a_wlk_parents, .inl (cI, 256, .inl v4.2.2.1)), (a_wlk_steps, .inl (cI, 256, .inl v4.2.2.2.1)), (a_wlk_settledPairs, .inl (cL, 64, .inr (.inl v4.2.2.2.2.1)))]) [11, 12, 13, 14, 0, 1, 2, 3, 4, 5, 15, 16, 17, 18, 6, 19, 20, 21, 22, 7, 8, 9, 10] (by decide) rfl) ht hW.alike⟩, hS.F ht⟩) hS.2.2 dExp_explore_64
noncomputable def m_Exp_distance (net_latchTotal : Int32) (wlk_distances : Nat → Int32) (exp_explored : Int32) (p0 : Int32) : Option (Nat ⊕ (Int32)) := (m_Exp_requireExplored exp_explored).bind (Sum.elim (fun k => some (.inl k)) (fun _ => (m_Exp_requireState net_latchTotal p0).bind (Sum.elim (fun k => some (.inl k)) (fun _ => gd (vp_in p0 256) (some (.inr (wlk_distances p0.toNatClampNeg)))))))
def rm_Exp_distance : Room := { frames := 2, cells := 0, slots := 0, locals := 41 }
def rmt_Exp_distance : Room := { frames := 7, cells := 1, slots := 6, locals := 121 }
set_option maxHeartbeats 4000000 in
set_option maxRecDepth 100000 in
theorem k_Exp_distance (l : Launch) (dC : Nat → ClassId) (dI : Nat → Nat → Nat) (cI cL cZ : ClassId) (t1 t2 : Nat) (h_net a_net_sorts a_net_ranks a_net_starts a_net_literals a_net_nextLiterals a_net_outputs h_wlk a_wlk_distances a_wlk_order a_wlk_parents a_wlk_steps a_wlk_settledPairs h_exp h_tab h_par : Nat) (net_gateTotal net_inputTotal net_latchTotal net_outputTotal : Int32) (wlk_distances : Nat → Int32) (wlk_words wlk_reached wlk_doubts wlk_doubtState wlk_doubtChoice exp_explored : Int32) (sz : Nat) (p0 : Int32) (v : Int32) (hm : m_Exp_distance net_latchTotal wlk_distances exp_explored p0 = some (.inr v)) : Met l yExp_distance wsExp_distance rm_Exp_distance (sx_Pc (dC, dI) [(cI, .int), (cL, .long), (cZ, .boolean)] t1 t2 [(h_net, .inr (0, [.ref a_net_sorts, .ref a_net_ranks, .ref a_net_starts, .ref a_net_literals, .ref a_net_nextLiterals, .ref a_net_outputs, .int net_gateTotal, .int net_inputTotal, .int net_latchTotal, .int net_outputTotal])), (h_wlk, .inr (3, [.ref a_wlk_distances, .ref a_wlk_order, .ref a_wlk_parents, .ref a_wlk_steps, .ref a_wlk_settledPairs, .int wlk_words, .int wlk_reached, .int wlk_doubts, .int wlk_doubtState, .int wlk_doubtChoice])), (h_exp, .inr (4, [.ref h_net, .ref h_tab, .ref h_wlk, .ref h_par, .int exp_explored])), (a_wlk_distances, .inl (cI, 256, .inl wlk_distances))] sz [.ref h_exp, .int p0]) (sx_Si v) 0 0 (fun _ => False) := by
  refine Met.ofW (cc := cExp_distance) (maxL := 2) (ret := (some .int)) (by decide) rfl ?_
  intro p e s m args below meth c s₁ B hml hv
  obtain ⟨rfl, hsz, hP, hK, hD0, hX⟩ := hv
  have hx := B.exec
  have hb := B.bytes
  have hr := B.returns
  have hts0 := atoms_spec (ws := wsExp_distance) B.pre
  have hts : ∀ w ∈ tb, w.before _ s = true := fun w h => hts0 w (List.mem_cons_of_mem _ h)
  have hown : s.vm.findClass "StateExplorer" = some m.cls := findClass_of_methodNamed B.named
  have hlocks := B.notSynchronized
  subst hsz
  have hD := hD0.self (sz := s.heap.size)
  generalize hAe : va_A [(h_net, .inr (0, [.ref a_net_sorts, .ref a_net_ranks, .ref a_net_starts, .ref a_net_literals, .ref a_net_nextLiterals, .ref a_net_outputs, .int net_gateTotal, .int net_inputTotal, .int net_latchTotal, .int net_outputTotal])), (h_wlk, .inr (3, [.ref a_wlk_distances, .ref a_wlk_order, .ref a_wlk_parents, .ref a_wlk_steps, .ref a_wlk_settledPairs, .int wlk_words, .int wlk_reached, .int wlk_doubts, .int wlk_doubtState, .int wlk_doubtChoice])), (h_exp, .inr (4, [.ref h_net, .ref h_tab, .ref h_wlk, .ref h_par, .int exp_explored])), (a_wlk_distances, .inl (cI, 256, .inl wlk_distances))] s.heap.size = A at hD hX 
  have hA : ∀ q : Nat, s.heap.size ≤ q → A q := fun q h => by rw [← hAe]; exact Or.inr h
  have hS : va_S A s.heap s.heap [] := va_S.rf
  have hl := lv_entry ([.ref h_exp, .int p0]) (n := 2) (Nat.le_of_ble_eq_true rfl)
  rw [lg_entry_eq]
  generalize (lg_sl ([.ref h_exp, .int p0]) ++ List.replicate (2 - (lg_sl ([.ref h_exp, .int p0])).length) Slot.unset).toArray = ls at hl ⊢
  have hl : lv_has ls 2 [(0, .ref h_exp), (1, .int p0)] := hl
  have C0 : sx_C p s m _ meth c cExp_distance 2 "StateExplorer" A (dC, dI) [(cI, .int), (cL, .long), (cZ, .boolean)] t1 t2 := ⟨hx, hb, hml, hown, hts, hA, hK, hlocks, hX⟩
  rw [m_Exp_distance] at hm
  refine lv_aload_n hx hb dExp_distance_0 rfl (lv_at hl 0 rfl) ?_
  obtain ⟨v1, hv1, hm⟩ := sx_bind hm
  rcases v1 with k9 | u9
  · cases hm
  · have hPc := hP.sub (ws' := [(h_exp, .inr (4, [.ref h_net, .ref h_tab, .ref h_wlk, .ref h_par, .int exp_explored]))]) [2] rfl
    have hDc := hD.sub (ws' := [(h_exp, .inr (4, [.ref h_net, .ref h_tab, .ref h_wlk, .ref h_par, .int exp_explored]))]) [2] (by decide) rfl
    have hFc := va_free (wc := [(h_exp, .inr (4, [.ref h_net, .ref h_tab, .ref h_wlk, .ref h_par, .int exp_explored]))]) hD hS hA [2] rfl
    refine sx_stV (va_runV (As := []) (rest := []) ⟨hx, hb, hml, hown, hts⟩ (k_Exp_requireExplored l dC dI cI cL cZ t1 t2 h_exp h_net h_tab h_wlk h_par exp_explored _ () hv1) (cwV 0 hts (sx_gV tw_522 tw_524 tw_17 tw_36 tcExp_requireExplored) rfl rfl rfl (by decide +kernel) ⟨Nat.le_of_ble_eq_true rfl, Nat.le_of_ble_eq_true rfl⟩) (sx_pV hK hX hS hPc hDc hFc (va_recv hK hPc (ci := 4) (q0 := 0) rfl rfl)) rfl rfl hl.1 rfl (lv_room (Nat.le_of_ble_eq_true rfl)) dExp_distance_1 ⟨Nat.le_of_ble_eq_true rfl, Nat.le_of_ble_eq_true rfl⟩) ?_
    refine lv_aload_n hx hb dExp_distance_4 rfl (lv_at hl 0 rfl) ?_
    refine lv_iload_n hx hb dExp_distance_5 rfl (lv_at hl 1 rfl) ?_
    obtain ⟨v4, hv4, hm⟩ := sx_bind hm
    rcases v4 with k9 | u9
    · cases hm
    · have hPc := hP.sub (ws' := [(h_net, .inr (0, [.ref a_net_sorts, .ref a_net_ranks, .ref a_net_starts, .ref a_net_literals, .ref a_net_nextLiterals, .ref a_net_outputs, .int net_gateTotal, .int net_inputTotal, .int net_latchTotal, .int net_outputTotal])), (h_exp, .inr (4, [.ref h_net, .ref h_tab, .ref h_wlk, .ref h_par, .int exp_explored]))]) [0, 2] rfl
      have hDc := hD.sub (ws' := [(h_net, .inr (0, [.ref a_net_sorts, .ref a_net_ranks, .ref a_net_starts, .ref a_net_literals, .ref a_net_nextLiterals, .ref a_net_outputs, .int net_gateTotal, .int net_inputTotal, .int net_latchTotal, .int net_outputTotal])), (h_exp, .inr (4, [.ref h_net, .ref h_tab, .ref h_wlk, .ref h_par, .int exp_explored]))]) [0, 2] (by decide) rfl
      have hFc := va_free (wc := [(h_net, .inr (0, [.ref a_net_sorts, .ref a_net_ranks, .ref a_net_starts, .ref a_net_literals, .ref a_net_nextLiterals, .ref a_net_outputs, .int net_gateTotal, .int net_inputTotal, .int net_latchTotal, .int net_outputTotal])), (h_exp, .inr (4, [.ref h_net, .ref h_tab, .ref h_wlk, .ref h_par, .int exp_explored]))]) hD hS hA [0, 2] rfl
      refine sx_stV (va_runV (As := [.int p0]) (rest := []) ⟨hx, hb, hml, hown, hts⟩ (k_Exp_requireState l dC dI cI cL cZ t1 t2 h_net a_net_sorts a_net_ranks a_net_starts a_net_literals a_net_nextLiterals a_net_outputs h_exp h_tab h_wlk h_par net_gateTotal net_inputTotal net_latchTotal net_outputTotal exp_explored _ p0 () hv4) (cwV 1 hts (sx_gV tw_527 tw_529 tw_18 tw_36 tcExp_requireState) rfl rfl rfl (by decide +kernel) ⟨Nat.le_of_ble_eq_true rfl, Nat.le_of_ble_eq_true rfl⟩) (sx_pV hK hX hS hPc hDc hFc (va_recv hK hPc (ci := 4) (q0 := 1) rfl rfl)) rfl rfl hl.1 rfl (lv_room (Nat.le_of_ble_eq_true rfl)) dExp_distance_6 ⟨Nat.le_of_ble_eq_true rfl, Nat.le_of_ble_eq_true rfl⟩) ?_
      refine lv_aload_n hx hb dExp_distance_9 rfl (lv_at hl 0 rfl) ?_
      refine va_get (D := (dC, dI)) (ci := 4) (v := .ref h_wlk) (C := RExp) (T := TExp) (N := 5) hx hb hts inExp hown hK hP 2 rfl rfl 2 (by decide) (hts _ tw_195) (fun _ h9 => h9) rfl dExp_distance_10 ?_
      refine va_get (D := (dC, dI)) (ci := 3) (v := .ref a_wlk_distances) (C := RWlk) (T := TWlk) (N := 10) hx hb hts inWlk hown hK hP 1 rfl rfl 0 (by decide) (hts _ tw_137) (fun _ h9 => h9) rfl dExp_distance_13 ?_
      refine lv_iload_n hx hb dExp_distance_16 rfl (lv_at hl 1 rfl) ?_
      obtain ⟨g7, hm⟩ := gd_el hm
      refine va_iald hx hb hK hP 3 0 rfl rfl g7 dExp_distance_17 ?_
      obtain rfl := Sum.inr.inj (Option.some.inj hm)
      exact W.iret (v := wlk_distances p0.toNatClampNeg) hx hb hr (fun t ht hW => ⟨rfl, ht⟩) (fun q hq => nomatch hq) dExp_distance_18
set_option maxHeartbeats 4000000 in
set_option maxRecDepth 100000 in
theorem kt_Exp_distance (l : Launch) (hnt : l.stackTraces = false) (dC : Nat → ClassId) (dI : Nat → Nat → Nat) (cI cL cZ : ClassId) (t1 t2 : Nat) (h_net a_net_sorts a_net_ranks a_net_starts a_net_literals a_net_nextLiterals a_net_outputs h_wlk a_wlk_distances a_wlk_order a_wlk_parents a_wlk_steps a_wlk_settledPairs h_exp h_tab h_par : Nat) (net_gateTotal net_inputTotal net_latchTotal net_outputTotal : Int32) (wlk_distances : Nat → Int32) (wlk_words wlk_reached wlk_doubts wlk_doubtState wlk_doubtChoice exp_explored : Int32) (sz : Nat) (p0 : Int32) (k : Nat) (hm : m_Exp_distance net_latchTotal wlk_distances exp_explored p0 = some (.inl k)) : sx_Thr l yExp_distance wsExp_distance rmt_Exp_distance (sx_Pc (dC, dI) [(cI, .int), (cL, .long), (cZ, .boolean)] t1 t2 [(h_net, .inr (0, [.ref a_net_sorts, .ref a_net_ranks, .ref a_net_starts, .ref a_net_literals, .ref a_net_nextLiterals, .ref a_net_outputs, .int net_gateTotal, .int net_inputTotal, .int net_latchTotal, .int net_outputTotal])), (h_wlk, .inr (3, [.ref a_wlk_distances, .ref a_wlk_order, .ref a_wlk_parents, .ref a_wlk_steps, .ref a_wlk_settledPairs, .int wlk_words, .int wlk_reached, .int wlk_doubts, .int wlk_doubtState, .int wlk_doubtChoice])), (h_exp, .inr (4, [.ref h_net, .ref h_tab, .ref h_wlk, .ref h_par, .int exp_explored])), (a_wlk_distances, .inl (cI, 256, .inl wlk_distances))] sz [.ref h_exp, .int p0]) (sx_E k) 1 6 := by
  refine sx_thrOf (cc := cExp_distance) (maxL := 2) (ret := (some .int)) (by decide) rfl ?_
  intro p e s m args below meth c s₁ B hml hnx hv
  obtain ⟨rfl, hsz, hP, hK, hD0, hX⟩ := hv
  have hx := B.exec
  have hb := B.bytes
  have hr := B.returns
  have hts0 := atoms_spec (ws := wsExp_distance) B.pre
  have hts : ∀ w ∈ tb, w.before _ s = true := fun w h => hts0 w (List.mem_cons_of_mem _ h)
  have hown : s.vm.findClass "StateExplorer" = some m.cls := findClass_of_methodNamed B.named
  have hlocks := B.notSynchronized
  subst hsz
  have hD := hD0.self (sz := s.heap.size)
  generalize hAe : va_A [(h_net, .inr (0, [.ref a_net_sorts, .ref a_net_ranks, .ref a_net_starts, .ref a_net_literals, .ref a_net_nextLiterals, .ref a_net_outputs, .int net_gateTotal, .int net_inputTotal, .int net_latchTotal, .int net_outputTotal])), (h_wlk, .inr (3, [.ref a_wlk_distances, .ref a_wlk_order, .ref a_wlk_parents, .ref a_wlk_steps, .ref a_wlk_settledPairs, .int wlk_words, .int wlk_reached, .int wlk_doubts, .int wlk_doubtState, .int wlk_doubtChoice])), (h_exp, .inr (4, [.ref h_net, .ref h_tab, .ref h_wlk, .ref h_par, .int exp_explored])), (a_wlk_distances, .inl (cI, 256, .inl wlk_distances))] s.heap.size = A at hD hX 
  have hA : ∀ q : Nat, s.heap.size ≤ q → A q := fun q h => by rw [← hAe]; exact Or.inr h
  have hS : va_S A s.heap s.heap [] := va_S.rf
  have hl := lv_entry ([.ref h_exp, .int p0]) (n := 2) (Nat.le_of_ble_eq_true rfl)
  rw [lg_entry_eq]
  generalize (lg_sl ([.ref h_exp, .int p0]) ++ List.replicate (2 - (lg_sl ([.ref h_exp, .int p0])).length) Slot.unset).toArray = ls at hl ⊢
  have hl : lv_has ls 2 [(0, .ref h_exp), (1, .int p0)] := hl
  have C0 : sx_C p s m _ meth c cExp_distance 2 "StateExplorer" A (dC, dI) [(cI, .int), (cL, .long), (cZ, .boolean)] t1 t2 := ⟨hx, hb, hml, hown, hts, hA, hK, hlocks, hX⟩
  rw [m_Exp_distance] at hm
  refine lv_aload_n hx hb dExp_distance_0 rfl (lv_at hl 0 rfl) ?_
  obtain ⟨v1, hv1, hm⟩ := sx_bind hm
  rcases v1 with k9 | u9
  · have hPc := hP.sub (ws' := [(h_exp, .inr (4, [.ref h_net, .ref h_tab, .ref h_wlk, .ref h_par, .int exp_explored]))]) [2] rfl
    have hDc := hD.sub (ws' := [(h_exp, .inr (4, [.ref h_net, .ref h_tab, .ref h_wlk, .ref h_par, .int exp_explored]))]) [2] (by decide) rfl
    have hFc := va_free (wc := [(h_exp, .inr (4, [.ref h_net, .ref h_tab, .ref h_wlk, .ref h_par, .int exp_explored]))]) hD hS hA [2] rfl
    obtain rfl := Sum.inl.inj (Option.some.inj hm)
    refine sx_callT (As := []) (rest := []) ⟨hx, hb, hml, hown, hts⟩ (kt_Exp_requireExplored l hnt dC dI cI cL cZ t1 t2 h_exp h_net h_tab h_wlk h_par exp_explored _ _ hv1) (cwV 0 hts (sx_gV tw_522 tw_524 tw_17 tw_36 tcExp_requireExplored) rfl rfl rfl (by decide +kernel) ⟨Nat.le_of_ble_eq_true rfl, Nat.le_of_ble_eq_true rfl⟩) (sx_pV hK hX hS hPc hDc hFc (va_recv hK hPc (ci := 4) (q0 := 0) rfl rfl)) rfl hl.1 rfl (lv_room (Nat.le_of_ble_eq_true rfl)) dExp_distance_1 ⟨Nat.le_of_ble_eq_true rfl, Nat.le_of_ble_eq_true rfl⟩ (fun ce q H1 z1 z2 z3 z4 z5 => ?_)
    exact sx_out hnx hlocks z3 z4 z5 (Nat.le_of_ble_eq_true rfl) (Nat.le_of_ble_eq_true rfl)
  · have hPc := hP.sub (ws' := [(h_exp, .inr (4, [.ref h_net, .ref h_tab, .ref h_wlk, .ref h_par, .int exp_explored]))]) [2] rfl
    have hDc := hD.sub (ws' := [(h_exp, .inr (4, [.ref h_net, .ref h_tab, .ref h_wlk, .ref h_par, .int exp_explored]))]) [2] (by decide) rfl
    have hFc := va_free (wc := [(h_exp, .inr (4, [.ref h_net, .ref h_tab, .ref h_wlk, .ref h_par, .int exp_explored]))]) hD hS hA [2] rfl
    refine sx_stV (va_runV (As := []) (rest := []) ⟨hx, hb, hml, hown, hts⟩ (k_Exp_requireExplored l dC dI cI cL cZ t1 t2 h_exp h_net h_tab h_wlk h_par exp_explored _ () hv1) (cwV 0 hts (sx_gV tw_522 tw_524 tw_17 tw_36 tcExp_requireExplored) rfl rfl rfl (by decide +kernel) ⟨Nat.le_of_ble_eq_true rfl, Nat.le_of_ble_eq_true rfl⟩) (sx_pV hK hX hS hPc hDc hFc (va_recv hK hPc (ci := 4) (q0 := 0) rfl rfl)) rfl rfl hl.1 rfl (lv_room (Nat.le_of_ble_eq_true rfl)) dExp_distance_1 ⟨Nat.le_of_ble_eq_true rfl, Nat.le_of_ble_eq_true rfl⟩) ?_
    refine lv_aload_n hx hb dExp_distance_4 rfl (lv_at hl 0 rfl) ?_
    refine lv_iload_n hx hb dExp_distance_5 rfl (lv_at hl 1 rfl) ?_
    obtain ⟨v4, hv4, hm⟩ := sx_bind hm
    rcases v4 with k9 | u9
    · have hPc := hP.sub (ws' := [(h_net, .inr (0, [.ref a_net_sorts, .ref a_net_ranks, .ref a_net_starts, .ref a_net_literals, .ref a_net_nextLiterals, .ref a_net_outputs, .int net_gateTotal, .int net_inputTotal, .int net_latchTotal, .int net_outputTotal])), (h_exp, .inr (4, [.ref h_net, .ref h_tab, .ref h_wlk, .ref h_par, .int exp_explored]))]) [0, 2] rfl
      have hDc := hD.sub (ws' := [(h_net, .inr (0, [.ref a_net_sorts, .ref a_net_ranks, .ref a_net_starts, .ref a_net_literals, .ref a_net_nextLiterals, .ref a_net_outputs, .int net_gateTotal, .int net_inputTotal, .int net_latchTotal, .int net_outputTotal])), (h_exp, .inr (4, [.ref h_net, .ref h_tab, .ref h_wlk, .ref h_par, .int exp_explored]))]) [0, 2] (by decide) rfl
      have hFc := va_free (wc := [(h_net, .inr (0, [.ref a_net_sorts, .ref a_net_ranks, .ref a_net_starts, .ref a_net_literals, .ref a_net_nextLiterals, .ref a_net_outputs, .int net_gateTotal, .int net_inputTotal, .int net_latchTotal, .int net_outputTotal])), (h_exp, .inr (4, [.ref h_net, .ref h_tab, .ref h_wlk, .ref h_par, .int exp_explored]))]) hD hS hA [0, 2] rfl
      obtain rfl := Sum.inl.inj (Option.some.inj hm)
      refine sx_callT (As := [.int p0]) (rest := []) ⟨hx, hb, hml, hown, hts⟩ (kt_Exp_requireState l hnt dC dI cI cL cZ t1 t2 h_net a_net_sorts a_net_ranks a_net_starts a_net_literals a_net_nextLiterals a_net_outputs h_exp h_tab h_wlk h_par net_gateTotal net_inputTotal net_latchTotal net_outputTotal exp_explored _ p0 _ hv4) (cwV 1 hts (sx_gV tw_527 tw_529 tw_18 tw_36 tcExp_requireState) rfl rfl rfl (by decide +kernel) ⟨Nat.le_of_ble_eq_true rfl, Nat.le_of_ble_eq_true rfl⟩) (sx_pV hK hX hS hPc hDc hFc (va_recv hK hPc (ci := 4) (q0 := 1) rfl rfl)) rfl hl.1 rfl (lv_room (Nat.le_of_ble_eq_true rfl)) dExp_distance_6 ⟨Nat.le_of_ble_eq_true rfl, Nat.le_of_ble_eq_true rfl⟩ (fun ce q H1 z1 z2 z3 z4 z5 => ?_)
      exact sx_out hnx hlocks z3 z4 z5 (Nat.le_of_ble_eq_true rfl) (Nat.le_of_ble_eq_true rfl)
    · have hPc := hP.sub (ws' := [(h_net, .inr (0, [.ref a_net_sorts, .ref a_net_ranks, .ref a_net_starts, .ref a_net_literals, .ref a_net_nextLiterals, .ref a_net_outputs, .int net_gateTotal, .int net_inputTotal, .int net_latchTotal, .int net_outputTotal])), (h_exp, .inr (4, [.ref h_net, .ref h_tab, .ref h_wlk, .ref h_par, .int exp_explored]))]) [0, 2] rfl
      have hDc := hD.sub (ws' := [(h_net, .inr (0, [.ref a_net_sorts, .ref a_net_ranks, .ref a_net_starts, .ref a_net_literals, .ref a_net_nextLiterals, .ref a_net_outputs, .int net_gateTotal, .int net_inputTotal, .int net_latchTotal, .int net_outputTotal])), (h_exp, .inr (4, [.ref h_net, .ref h_tab, .ref h_wlk, .ref h_par, .int exp_explored]))]) [0, 2] (by decide) rfl
      have hFc := va_free (wc := [(h_net, .inr (0, [.ref a_net_sorts, .ref a_net_ranks, .ref a_net_starts, .ref a_net_literals, .ref a_net_nextLiterals, .ref a_net_outputs, .int net_gateTotal, .int net_inputTotal, .int net_latchTotal, .int net_outputTotal])), (h_exp, .inr (4, [.ref h_net, .ref h_tab, .ref h_wlk, .ref h_par, .int exp_explored]))]) hD hS hA [0, 2] rfl
      refine sx_stV (va_runV (As := [.int p0]) (rest := []) ⟨hx, hb, hml, hown, hts⟩ (k_Exp_requireState l dC dI cI cL cZ t1 t2 h_net a_net_sorts a_net_ranks a_net_starts a_net_literals a_net_nextLiterals a_net_outputs h_exp h_tab h_wlk h_par net_gateTotal net_inputTotal net_latchTotal net_outputTotal exp_explored _ p0 () hv4) (cwV 1 hts (sx_gV tw_527 tw_529 tw_18 tw_36 tcExp_requireState) rfl rfl rfl (by decide +kernel) ⟨Nat.le_of_ble_eq_true rfl, Nat.le_of_ble_eq_true rfl⟩) (sx_pV hK hX hS hPc hDc hFc (va_recv hK hPc (ci := 4) (q0 := 1) rfl rfl)) rfl rfl hl.1 rfl (lv_room (Nat.le_of_ble_eq_true rfl)) dExp_distance_6 ⟨Nat.le_of_ble_eq_true rfl, Nat.le_of_ble_eq_true rfl⟩) ?_
      refine lv_aload_n hx hb dExp_distance_9 rfl (lv_at hl 0 rfl) ?_
      refine va_get (D := (dC, dI)) (ci := 4) (v := .ref h_wlk) (C := RExp) (T := TExp) (N := 5) hx hb hts inExp hown hK hP 2 rfl rfl 2 (by decide) (hts _ tw_195) (fun _ h9 => h9) rfl dExp_distance_10 ?_
      refine va_get (D := (dC, dI)) (ci := 3) (v := .ref a_wlk_distances) (C := RWlk) (T := TWlk) (N := 10) hx hb hts inWlk hown hK hP 1 rfl rfl 0 (by decide) (hts _ tw_137) (fun _ h9 => h9) rfl dExp_distance_13 ?_
      refine lv_iload_n hx hb dExp_distance_16 rfl (lv_at hl 1 rfl) ?_
      obtain ⟨g7, hm⟩ := gd_el hm
      refine va_iald hx hb hK hP 3 0 rfl rfl g7 dExp_distance_17 ?_
      cases hm
noncomputable def m_Exp_way (net_latchTotal : Int32) (wlk_distances wlk_parents wlk_steps : Nat → Int32) (exp_explored : Int32) (p0 : Int32) (p1 : Int32) : Option (Nat ⊕ (Int32)) := (m_Exp_requireExplored exp_explored).bind (Sum.elim (fun k => some (.inl k)) (fun _ => (m_Exp_requireState net_latchTotal p0).bind (Sum.elim (fun k => some (.inl k)) (fun _ => (if (0 : Int32) ≤ p1 then (m_Wlk_stepOfWay wlk_distances wlk_parents wlk_steps p0 p1).bind (fun v8 => some (.inr v8)) else some (.inl 2))))))
def rm_Exp_way : Room := { frames := 2, cells := 0, slots := 0, locals := 41 }
def rmt_Exp_way : Room := { frames := 7, cells := 1, slots := 6, locals := 121 }
set_option maxHeartbeats 4000000 in
set_option maxRecDepth 100000 in
theorem k_Exp_way (l : Launch) (dC : Nat → ClassId) (dI : Nat → Nat → Nat) (cI cL cZ : ClassId) (t1 t2 : Nat) (h_net a_net_sorts a_net_ranks a_net_starts a_net_literals a_net_nextLiterals a_net_outputs h_wlk a_wlk_distances a_wlk_order a_wlk_parents a_wlk_steps a_wlk_settledPairs h_exp h_tab h_par : Nat) (net_gateTotal net_inputTotal net_latchTotal net_outputTotal : Int32) (wlk_distances wlk_parents wlk_steps : Nat → Int32) (wlk_words wlk_reached wlk_doubts wlk_doubtState wlk_doubtChoice exp_explored : Int32) (sz : Nat) (p0 : Int32) (p1 : Int32) (v : Int32) (hm : m_Exp_way net_latchTotal wlk_distances wlk_parents wlk_steps exp_explored p0 p1 = some (.inr v)) : Met l yExp_way wsExp_way rm_Exp_way (sx_Pc (dC, dI) [(cI, .int), (cL, .long), (cZ, .boolean)] t1 t2 [(h_net, .inr (0, [.ref a_net_sorts, .ref a_net_ranks, .ref a_net_starts, .ref a_net_literals, .ref a_net_nextLiterals, .ref a_net_outputs, .int net_gateTotal, .int net_inputTotal, .int net_latchTotal, .int net_outputTotal])), (h_wlk, .inr (3, [.ref a_wlk_distances, .ref a_wlk_order, .ref a_wlk_parents, .ref a_wlk_steps, .ref a_wlk_settledPairs, .int wlk_words, .int wlk_reached, .int wlk_doubts, .int wlk_doubtState, .int wlk_doubtChoice])), (h_exp, .inr (4, [.ref h_net, .ref h_tab, .ref h_wlk, .ref h_par, .int exp_explored])), (a_wlk_distances, .inl (cI, 256, .inl wlk_distances)), (a_wlk_parents, .inl (cI, 256, .inl wlk_parents)), (a_wlk_steps, .inl (cI, 256, .inl wlk_steps))] sz [.ref h_exp, .int p0, .int p1]) (sx_Si v) 0 0 (fun _ => False) := by
  refine Met.ofW (cc := cExp_way) (maxL := 3) (ret := (some .int)) (by decide) rfl ?_
  intro p e s m args below meth c s₁ B hml hv
  obtain ⟨rfl, hsz, hP, hK, hD0, hX⟩ := hv
  have hx := B.exec
  have hb := B.bytes
  have hr := B.returns
  have hts0 := atoms_spec (ws := wsExp_way) B.pre
  have hts : ∀ w ∈ tb, w.before _ s = true := fun w h => hts0 w (List.mem_cons_of_mem _ h)
  have hown : s.vm.findClass "StateExplorer" = some m.cls := findClass_of_methodNamed B.named
  have hlocks := B.notSynchronized
  subst hsz
  have hD := hD0.self (sz := s.heap.size)
  generalize hAe : va_A [(h_net, .inr (0, [.ref a_net_sorts, .ref a_net_ranks, .ref a_net_starts, .ref a_net_literals, .ref a_net_nextLiterals, .ref a_net_outputs, .int net_gateTotal, .int net_inputTotal, .int net_latchTotal, .int net_outputTotal])), (h_wlk, .inr (3, [.ref a_wlk_distances, .ref a_wlk_order, .ref a_wlk_parents, .ref a_wlk_steps, .ref a_wlk_settledPairs, .int wlk_words, .int wlk_reached, .int wlk_doubts, .int wlk_doubtState, .int wlk_doubtChoice])), (h_exp, .inr (4, [.ref h_net, .ref h_tab, .ref h_wlk, .ref h_par, .int exp_explored])), (a_wlk_distances, .inl (cI, 256, .inl wlk_distances)), (a_wlk_parents, .inl (cI, 256, .inl wlk_parents)), (a_wlk_steps, .inl (cI, 256, .inl wlk_steps))] s.heap.size = A at hD hX 
  have hA : ∀ q : Nat, s.heap.size ≤ q → A q := fun q h => by rw [← hAe]; exact Or.inr h
  have hS : va_S A s.heap s.heap [] := va_S.rf
  have hl := lv_entry ([.ref h_exp, .int p0, .int p1]) (n := 3) (Nat.le_of_ble_eq_true rfl)
  rw [lg_entry_eq]
  generalize (lg_sl ([.ref h_exp, .int p0, .int p1]) ++ List.replicate (3 - (lg_sl ([.ref h_exp, .int p0, .int p1])).length) Slot.unset).toArray = ls at hl ⊢
  have hl : lv_has ls 3 [(0, .ref h_exp), (1, .int p0), (2, .int p1)] := hl
  have C0 : sx_C p s m _ meth c cExp_way 3 "StateExplorer" A (dC, dI) [(cI, .int), (cL, .long), (cZ, .boolean)] t1 t2 := ⟨hx, hb, hml, hown, hts, hA, hK, hlocks, hX⟩
  rw [m_Exp_way] at hm
  refine lv_aload_n hx hb dExp_way_0 rfl (lv_at hl 0 rfl) ?_
  obtain ⟨v1, hv1, hm⟩ := sx_bind hm
  rcases v1 with k9 | u9
  · cases hm
  · have hPc := hP.sub (ws' := [(h_exp, .inr (4, [.ref h_net, .ref h_tab, .ref h_wlk, .ref h_par, .int exp_explored]))]) [2] rfl
    have hDc := hD.sub (ws' := [(h_exp, .inr (4, [.ref h_net, .ref h_tab, .ref h_wlk, .ref h_par, .int exp_explored]))]) [2] (by decide) rfl
    have hFc := va_free (wc := [(h_exp, .inr (4, [.ref h_net, .ref h_tab, .ref h_wlk, .ref h_par, .int exp_explored]))]) hD hS hA [2] rfl
    refine sx_stV (va_runV (As := []) (rest := []) ⟨hx, hb, hml, hown, hts⟩ (k_Exp_requireExplored l dC dI cI cL cZ t1 t2 h_exp h_net h_tab h_wlk h_par exp_explored _ () hv1) (cwV 0 hts (sx_gV tw_522 tw_524 tw_17 tw_36 tcExp_requireExplored) rfl rfl rfl (by decide +kernel) ⟨Nat.le_of_ble_eq_true rfl, Nat.le_of_ble_eq_true rfl⟩) (sx_pV hK hX hS hPc hDc hFc (va_recv hK hPc (ci := 4) (q0 := 0) rfl rfl)) rfl rfl hl.1 rfl (lv_room (Nat.le_of_ble_eq_true rfl)) dExp_way_1 ⟨Nat.le_of_ble_eq_true rfl, Nat.le_of_ble_eq_true rfl⟩) ?_
    refine lv_aload_n hx hb dExp_way_4 rfl (lv_at hl 0 rfl) ?_
    refine lv_iload_n hx hb dExp_way_5 rfl (lv_at hl 1 rfl) ?_
    obtain ⟨v4, hv4, hm⟩ := sx_bind hm
    rcases v4 with k9 | u9
    · cases hm
    · have hPc := hP.sub (ws' := [(h_net, .inr (0, [.ref a_net_sorts, .ref a_net_ranks, .ref a_net_starts, .ref a_net_literals, .ref a_net_nextLiterals, .ref a_net_outputs, .int net_gateTotal, .int net_inputTotal, .int net_latchTotal, .int net_outputTotal])), (h_exp, .inr (4, [.ref h_net, .ref h_tab, .ref h_wlk, .ref h_par, .int exp_explored]))]) [0, 2] rfl
      have hDc := hD.sub (ws' := [(h_net, .inr (0, [.ref a_net_sorts, .ref a_net_ranks, .ref a_net_starts, .ref a_net_literals, .ref a_net_nextLiterals, .ref a_net_outputs, .int net_gateTotal, .int net_inputTotal, .int net_latchTotal, .int net_outputTotal])), (h_exp, .inr (4, [.ref h_net, .ref h_tab, .ref h_wlk, .ref h_par, .int exp_explored]))]) [0, 2] (by decide) rfl
      have hFc := va_free (wc := [(h_net, .inr (0, [.ref a_net_sorts, .ref a_net_ranks, .ref a_net_starts, .ref a_net_literals, .ref a_net_nextLiterals, .ref a_net_outputs, .int net_gateTotal, .int net_inputTotal, .int net_latchTotal, .int net_outputTotal])), (h_exp, .inr (4, [.ref h_net, .ref h_tab, .ref h_wlk, .ref h_par, .int exp_explored]))]) hD hS hA [0, 2] rfl
      refine sx_stV (va_runV (As := [.int p0]) (rest := []) ⟨hx, hb, hml, hown, hts⟩ (k_Exp_requireState l dC dI cI cL cZ t1 t2 h_net a_net_sorts a_net_ranks a_net_starts a_net_literals a_net_nextLiterals a_net_outputs h_exp h_tab h_wlk h_par net_gateTotal net_inputTotal net_latchTotal net_outputTotal exp_explored _ p0 () hv4) (cwV 1 hts (sx_gV tw_527 tw_529 tw_18 tw_36 tcExp_requireState) rfl rfl rfl (by decide +kernel) ⟨Nat.le_of_ble_eq_true rfl, Nat.le_of_ble_eq_true rfl⟩) (sx_pV hK hX hS hPc hDc hFc (va_recv hK hPc (ci := 4) (q0 := 1) rfl rfl)) rfl rfl hl.1 rfl (lv_room (Nat.le_of_ble_eq_true rfl)) dExp_way_6 ⟨Nat.le_of_ble_eq_true rfl, Nat.le_of_ble_eq_true rfl⟩) ?_
      refine lv_iload_n hx hb dExp_way_9 rfl (lv_at hl 2 rfl) ?_
      refine lv_if_ge (tgt := 23) hx hb dExp_way_10 (by decide) (fun c7 => ?_) (fun c7 => ?_)
      · have hm := sx_pos c7 hm
        refine lv_aload_n hx hb dExp_way_23 rfl (lv_at hl 0 rfl) ?_
        refine va_get (D := (dC, dI)) (ci := 4) (v := .ref h_wlk) (C := RExp) (T := TExp) (N := 5) hx hb hts inExp hown hK hP 2 rfl rfl 2 (by decide) (hts _ tw_195) (fun _ h9 => h9) rfl dExp_way_24 ?_
        refine lv_iload_n hx hb dExp_way_27 rfl (lv_at hl 1 rfl) ?_
        refine lv_iload_n hx hb dExp_way_28 rfl (lv_at hl 2 rfl) ?_
        obtain ⟨v8, hv8, hm⟩ := sx_bind hm
        have hPc := hP.sub (ws' := [(h_wlk, .inr (3, [.ref a_wlk_distances, .ref a_wlk_order, .ref a_wlk_parents, .ref a_wlk_steps, .ref a_wlk_settledPairs, .int wlk_words, .int wlk_reached, .int wlk_doubts, .int wlk_doubtState, .int wlk_doubtChoice])), (a_wlk_distances, .inl (cI, 256, .inl wlk_distances)), (a_wlk_parents, .inl (cI, 256, .inl wlk_parents)), (a_wlk_steps, .inl (cI, 256, .inl wlk_steps))]) [1, 3, 4, 5] rfl
        have hDc := hD.sub (ws' := [(h_wlk, .inr (3, [.ref a_wlk_distances, .ref a_wlk_order, .ref a_wlk_parents, .ref a_wlk_steps, .ref a_wlk_settledPairs, .int wlk_words, .int wlk_reached, .int wlk_doubts, .int wlk_doubtState, .int wlk_doubtChoice])), (a_wlk_distances, .inl (cI, 256, .inl wlk_distances)), (a_wlk_parents, .inl (cI, 256, .inl wlk_parents)), (a_wlk_steps, .inl (cI, 256, .inl wlk_steps))]) [1, 3, 4, 5] (by decide) rfl
        have hFc := va_free (wc := [(h_wlk, .inr (3, [.ref a_wlk_distances, .ref a_wlk_order, .ref a_wlk_parents, .ref a_wlk_steps, .ref a_wlk_settledPairs, .int wlk_words, .int wlk_reached, .int wlk_doubts, .int wlk_doubtState, .int wlk_doubtChoice])), (a_wlk_distances, .inl (cI, 256, .inl wlk_distances)), (a_wlk_parents, .inl (cI, 256, .inl wlk_parents)), (a_wlk_steps, .inl (cI, 256, .inl wlk_steps))]) hD hS hA [1, 3, 4, 5] rfl
        refine sx_stI (va_runV (As := [.int p0, .int p1]) (rest := []) ⟨hx, hb, hml, hown, hts⟩ (k_Wlk_stepOfWay l dC dI cI cL cZ t1 t2 h_wlk a_wlk_distances a_wlk_order a_wlk_parents a_wlk_steps a_wlk_settledPairs wlk_distances wlk_parents wlk_steps wlk_words wlk_reached wlk_doubts wlk_doubtState wlk_doubtChoice _ p0 p1 v8 hv8) (cwV 2 hts (sx_gV tw_541 tw_542 tw_543 tw_39 tcWlk_stepOfWay) rfl rfl rfl (by decide +kernel) ⟨Nat.le_of_ble_eq_true rfl, Nat.le_of_ble_eq_true rfl⟩) (sx_pV hK hX hS hPc hDc hFc (va_recv hK hPc (ci := 3) (q0 := 0) rfl rfl)) rfl rfl hl.1 rfl (lv_room (Nat.le_of_ble_eq_true rfl)) dExp_way_29 ⟨Nat.le_of_ble_eq_true rfl, Nat.le_of_ble_eq_true rfl⟩) ?_
        obtain rfl := Sum.inr.inj (Option.some.inj hm)
        exact W.iret (v := v8) hx hb hr (fun t ht hW => ⟨rfl, ht⟩) (fun q hq => nomatch hq) dExp_way_32
      · have hm := sx_neg c7 hm
        cases hm
set_option maxHeartbeats 4000000 in
set_option maxRecDepth 100000 in
theorem kt_Exp_way (l : Launch) (hnt : l.stackTraces = false) (dC : Nat → ClassId) (dI : Nat → Nat → Nat) (cI cL cZ : ClassId) (t1 t2 : Nat) (h_net a_net_sorts a_net_ranks a_net_starts a_net_literals a_net_nextLiterals a_net_outputs h_wlk a_wlk_distances a_wlk_order a_wlk_parents a_wlk_steps a_wlk_settledPairs h_exp h_tab h_par : Nat) (net_gateTotal net_inputTotal net_latchTotal net_outputTotal : Int32) (wlk_distances wlk_parents wlk_steps : Nat → Int32) (wlk_words wlk_reached wlk_doubts wlk_doubtState wlk_doubtChoice exp_explored : Int32) (sz : Nat) (p0 : Int32) (p1 : Int32) (k : Nat) (hm : m_Exp_way net_latchTotal wlk_distances wlk_parents wlk_steps exp_explored p0 p1 = some (.inl k)) : sx_Thr l yExp_way wsExp_way rmt_Exp_way (sx_Pc (dC, dI) [(cI, .int), (cL, .long), (cZ, .boolean)] t1 t2 [(h_net, .inr (0, [.ref a_net_sorts, .ref a_net_ranks, .ref a_net_starts, .ref a_net_literals, .ref a_net_nextLiterals, .ref a_net_outputs, .int net_gateTotal, .int net_inputTotal, .int net_latchTotal, .int net_outputTotal])), (h_wlk, .inr (3, [.ref a_wlk_distances, .ref a_wlk_order, .ref a_wlk_parents, .ref a_wlk_steps, .ref a_wlk_settledPairs, .int wlk_words, .int wlk_reached, .int wlk_doubts, .int wlk_doubtState, .int wlk_doubtChoice])), (h_exp, .inr (4, [.ref h_net, .ref h_tab, .ref h_wlk, .ref h_par, .int exp_explored])), (a_wlk_distances, .inl (cI, 256, .inl wlk_distances)), (a_wlk_parents, .inl (cI, 256, .inl wlk_parents)), (a_wlk_steps, .inl (cI, 256, .inl wlk_steps))] sz [.ref h_exp, .int p0, .int p1]) (sx_E k) 1 6 := by
  refine sx_thrOf (cc := cExp_way) (maxL := 3) (ret := (some .int)) (by decide) rfl ?_
  intro p e s m args below meth c s₁ B hml hnx hv
  obtain ⟨rfl, hsz, hP, hK, hD0, hX⟩ := hv
  have hx := B.exec
  have hb := B.bytes
  have hr := B.returns
  have hts0 := atoms_spec (ws := wsExp_way) B.pre
  have hts : ∀ w ∈ tb, w.before _ s = true := fun w h => hts0 w (List.mem_cons_of_mem _ h)
  have hown : s.vm.findClass "StateExplorer" = some m.cls := findClass_of_methodNamed B.named
  have hlocks := B.notSynchronized
  subst hsz
  have hD := hD0.self (sz := s.heap.size)
  generalize hAe : va_A [(h_net, .inr (0, [.ref a_net_sorts, .ref a_net_ranks, .ref a_net_starts, .ref a_net_literals, .ref a_net_nextLiterals, .ref a_net_outputs, .int net_gateTotal, .int net_inputTotal, .int net_latchTotal, .int net_outputTotal])), (h_wlk, .inr (3, [.ref a_wlk_distances, .ref a_wlk_order, .ref a_wlk_parents, .ref a_wlk_steps, .ref a_wlk_settledPairs, .int wlk_words, .int wlk_reached, .int wlk_doubts, .int wlk_doubtState, .int wlk_doubtChoice])), (h_exp, .inr (4, [.ref h_net, .ref h_tab, .ref h_wlk, .ref h_par, .int exp_explored])), (a_wlk_distances, .inl (cI, 256, .inl wlk_distances)), (a_wlk_parents, .inl (cI, 256, .inl wlk_parents)), (a_wlk_steps, .inl (cI, 256, .inl wlk_steps))] s.heap.size = A at hD hX 
  have hA : ∀ q : Nat, s.heap.size ≤ q → A q := fun q h => by rw [← hAe]; exact Or.inr h
  have hS : va_S A s.heap s.heap [] := va_S.rf
  have hl := lv_entry ([.ref h_exp, .int p0, .int p1]) (n := 3) (Nat.le_of_ble_eq_true rfl)
  rw [lg_entry_eq]
  generalize (lg_sl ([.ref h_exp, .int p0, .int p1]) ++ List.replicate (3 - (lg_sl ([.ref h_exp, .int p0, .int p1])).length) Slot.unset).toArray = ls at hl ⊢
  have hl : lv_has ls 3 [(0, .ref h_exp), (1, .int p0), (2, .int p1)] := hl
  have C0 : sx_C p s m _ meth c cExp_way 3 "StateExplorer" A (dC, dI) [(cI, .int), (cL, .long), (cZ, .boolean)] t1 t2 := ⟨hx, hb, hml, hown, hts, hA, hK, hlocks, hX⟩
  rw [m_Exp_way] at hm
  refine lv_aload_n hx hb dExp_way_0 rfl (lv_at hl 0 rfl) ?_
  obtain ⟨v1, hv1, hm⟩ := sx_bind hm
  rcases v1 with k9 | u9
  · have hPc := hP.sub (ws' := [(h_exp, .inr (4, [.ref h_net, .ref h_tab, .ref h_wlk, .ref h_par, .int exp_explored]))]) [2] rfl
    have hDc := hD.sub (ws' := [(h_exp, .inr (4, [.ref h_net, .ref h_tab, .ref h_wlk, .ref h_par, .int exp_explored]))]) [2] (by decide) rfl
    have hFc := va_free (wc := [(h_exp, .inr (4, [.ref h_net, .ref h_tab, .ref h_wlk, .ref h_par, .int exp_explored]))]) hD hS hA [2] rfl
    obtain rfl := Sum.inl.inj (Option.some.inj hm)
    refine sx_callT (As := []) (rest := []) ⟨hx, hb, hml, hown, hts⟩ (kt_Exp_requireExplored l hnt dC dI cI cL cZ t1 t2 h_exp h_net h_tab h_wlk h_par exp_explored _ _ hv1) (cwV 0 hts (sx_gV tw_522 tw_524 tw_17 tw_36 tcExp_requireExplored) rfl rfl rfl (by decide +kernel) ⟨Nat.le_of_ble_eq_true rfl, Nat.le_of_ble_eq_true rfl⟩) (sx_pV hK hX hS hPc hDc hFc (va_recv hK hPc (ci := 4) (q0 := 0) rfl rfl)) rfl hl.1 rfl (lv_room (Nat.le_of_ble_eq_true rfl)) dExp_way_1 ⟨Nat.le_of_ble_eq_true rfl, Nat.le_of_ble_eq_true rfl⟩ (fun ce q H1 z1 z2 z3 z4 z5 => ?_)
    exact sx_out hnx hlocks z3 z4 z5 (Nat.le_of_ble_eq_true rfl) (Nat.le_of_ble_eq_true rfl)
  · have hPc := hP.sub (ws' := [(h_exp, .inr (4, [.ref h_net, .ref h_tab, .ref h_wlk, .ref h_par, .int exp_explored]))]) [2] rfl
    have hDc := hD.sub (ws' := [(h_exp, .inr (4, [.ref h_net, .ref h_tab, .ref h_wlk, .ref h_par, .int exp_explored]))]) [2] (by decide) rfl
    have hFc := va_free (wc := [(h_exp, .inr (4, [.ref h_net, .ref h_tab, .ref h_wlk, .ref h_par, .int exp_explored]))]) hD hS hA [2] rfl
    refine sx_stV (va_runV (As := []) (rest := []) ⟨hx, hb, hml, hown, hts⟩ (k_Exp_requireExplored l dC dI cI cL cZ t1 t2 h_exp h_net h_tab h_wlk h_par exp_explored _ () hv1) (cwV 0 hts (sx_gV tw_522 tw_524 tw_17 tw_36 tcExp_requireExplored) rfl rfl rfl (by decide +kernel) ⟨Nat.le_of_ble_eq_true rfl, Nat.le_of_ble_eq_true rfl⟩) (sx_pV hK hX hS hPc hDc hFc (va_recv hK hPc (ci := 4) (q0 := 0) rfl rfl)) rfl rfl hl.1 rfl (lv_room (Nat.le_of_ble_eq_true rfl)) dExp_way_1 ⟨Nat.le_of_ble_eq_true rfl, Nat.le_of_ble_eq_true rfl⟩) ?_
    refine lv_aload_n hx hb dExp_way_4 rfl (lv_at hl 0 rfl) ?_
    refine lv_iload_n hx hb dExp_way_5 rfl (lv_at hl 1 rfl) ?_
    obtain ⟨v4, hv4, hm⟩ := sx_bind hm
    rcases v4 with k9 | u9
    · have hPc := hP.sub (ws' := [(h_net, .inr (0, [.ref a_net_sorts, .ref a_net_ranks, .ref a_net_starts, .ref a_net_literals, .ref a_net_nextLiterals, .ref a_net_outputs, .int net_gateTotal, .int net_inputTotal, .int net_latchTotal, .int net_outputTotal])), (h_exp, .inr (4, [.ref h_net, .ref h_tab, .ref h_wlk, .ref h_par, .int exp_explored]))]) [0, 2] rfl
      have hDc := hD.sub (ws' := [(h_net, .inr (0, [.ref a_net_sorts, .ref a_net_ranks, .ref a_net_starts, .ref a_net_literals, .ref a_net_nextLiterals, .ref a_net_outputs, .int net_gateTotal, .int net_inputTotal, .int net_latchTotal, .int net_outputTotal])), (h_exp, .inr (4, [.ref h_net, .ref h_tab, .ref h_wlk, .ref h_par, .int exp_explored]))]) [0, 2] (by decide) rfl
      have hFc := va_free (wc := [(h_net, .inr (0, [.ref a_net_sorts, .ref a_net_ranks, .ref a_net_starts, .ref a_net_literals, .ref a_net_nextLiterals, .ref a_net_outputs, .int net_gateTotal, .int net_inputTotal, .int net_latchTotal, .int net_outputTotal])), (h_exp, .inr (4, [.ref h_net, .ref h_tab, .ref h_wlk, .ref h_par, .int exp_explored]))]) hD hS hA [0, 2] rfl
      obtain rfl := Sum.inl.inj (Option.some.inj hm)
      refine sx_callT (As := [.int p0]) (rest := []) ⟨hx, hb, hml, hown, hts⟩ (kt_Exp_requireState l hnt dC dI cI cL cZ t1 t2 h_net a_net_sorts a_net_ranks a_net_starts a_net_literals a_net_nextLiterals a_net_outputs h_exp h_tab h_wlk h_par net_gateTotal net_inputTotal net_latchTotal net_outputTotal exp_explored _ p0 _ hv4) (cwV 1 hts (sx_gV tw_527 tw_529 tw_18 tw_36 tcExp_requireState) rfl rfl rfl (by decide +kernel) ⟨Nat.le_of_ble_eq_true rfl, Nat.le_of_ble_eq_true rfl⟩) (sx_pV hK hX hS hPc hDc hFc (va_recv hK hPc (ci := 4) (q0 := 1) rfl rfl)) rfl hl.1 rfl (lv_room (Nat.le_of_ble_eq_true rfl)) dExp_way_6 ⟨Nat.le_of_ble_eq_true rfl, Nat.le_of_ble_eq_true rfl⟩ (fun ce q H1 z1 z2 z3 z4 z5 => ?_)
      exact sx_out hnx hlocks z3 z4 z5 (Nat.le_of_ble_eq_true rfl) (Nat.le_of_ble_eq_true rfl)
    · have hPc := hP.sub (ws' := [(h_net, .inr (0, [.ref a_net_sorts, .ref a_net_ranks, .ref a_net_starts, .ref a_net_literals, .ref a_net_nextLiterals, .ref a_net_outputs, .int net_gateTotal, .int net_inputTotal, .int net_latchTotal, .int net_outputTotal])), (h_exp, .inr (4, [.ref h_net, .ref h_tab, .ref h_wlk, .ref h_par, .int exp_explored]))]) [0, 2] rfl
      have hDc := hD.sub (ws' := [(h_net, .inr (0, [.ref a_net_sorts, .ref a_net_ranks, .ref a_net_starts, .ref a_net_literals, .ref a_net_nextLiterals, .ref a_net_outputs, .int net_gateTotal, .int net_inputTotal, .int net_latchTotal, .int net_outputTotal])), (h_exp, .inr (4, [.ref h_net, .ref h_tab, .ref h_wlk, .ref h_par, .int exp_explored]))]) [0, 2] (by decide) rfl
      have hFc := va_free (wc := [(h_net, .inr (0, [.ref a_net_sorts, .ref a_net_ranks, .ref a_net_starts, .ref a_net_literals, .ref a_net_nextLiterals, .ref a_net_outputs, .int net_gateTotal, .int net_inputTotal, .int net_latchTotal, .int net_outputTotal])), (h_exp, .inr (4, [.ref h_net, .ref h_tab, .ref h_wlk, .ref h_par, .int exp_explored]))]) hD hS hA [0, 2] rfl
      refine sx_stV (va_runV (As := [.int p0]) (rest := []) ⟨hx, hb, hml, hown, hts⟩ (k_Exp_requireState l dC dI cI cL cZ t1 t2 h_net a_net_sorts a_net_ranks a_net_starts a_net_literals a_net_nextLiterals a_net_outputs h_exp h_tab h_wlk h_par net_gateTotal net_inputTotal net_latchTotal net_outputTotal exp_explored _ p0 () hv4) (cwV 1 hts (sx_gV tw_527 tw_529 tw_18 tw_36 tcExp_requireState) rfl rfl rfl (by decide +kernel) ⟨Nat.le_of_ble_eq_true rfl, Nat.le_of_ble_eq_true rfl⟩) (sx_pV hK hX hS hPc hDc hFc (va_recv hK hPc (ci := 4) (q0 := 1) rfl rfl)) rfl rfl hl.1 rfl (lv_room (Nat.le_of_ble_eq_true rfl)) dExp_way_6 ⟨Nat.le_of_ble_eq_true rfl, Nat.le_of_ble_eq_true rfl⟩) ?_
      refine lv_iload_n hx hb dExp_way_9 rfl (lv_at hl 2 rfl) ?_
      refine lv_if_ge (tgt := 23) hx hb dExp_way_10 (by decide) (fun c7 => ?_) (fun c7 => ?_)
      · have hm := sx_pos c7 hm
        refine lv_aload_n hx hb dExp_way_23 rfl (lv_at hl 0 rfl) ?_
        refine va_get (D := (dC, dI)) (ci := 4) (v := .ref h_wlk) (C := RExp) (T := TExp) (N := 5) hx hb hts inExp hown hK hP 2 rfl rfl 2 (by decide) (hts _ tw_195) (fun _ h9 => h9) rfl dExp_way_24 ?_
        refine lv_iload_n hx hb dExp_way_27 rfl (lv_at hl 1 rfl) ?_
        refine lv_iload_n hx hb dExp_way_28 rfl (lv_at hl 2 rfl) ?_
        obtain ⟨v8, hv8, hm⟩ := sx_bind hm
        have hPc := hP.sub (ws' := [(h_wlk, .inr (3, [.ref a_wlk_distances, .ref a_wlk_order, .ref a_wlk_parents, .ref a_wlk_steps, .ref a_wlk_settledPairs, .int wlk_words, .int wlk_reached, .int wlk_doubts, .int wlk_doubtState, .int wlk_doubtChoice])), (a_wlk_distances, .inl (cI, 256, .inl wlk_distances)), (a_wlk_parents, .inl (cI, 256, .inl wlk_parents)), (a_wlk_steps, .inl (cI, 256, .inl wlk_steps))]) [1, 3, 4, 5] rfl
        have hDc := hD.sub (ws' := [(h_wlk, .inr (3, [.ref a_wlk_distances, .ref a_wlk_order, .ref a_wlk_parents, .ref a_wlk_steps, .ref a_wlk_settledPairs, .int wlk_words, .int wlk_reached, .int wlk_doubts, .int wlk_doubtState, .int wlk_doubtChoice])), (a_wlk_distances, .inl (cI, 256, .inl wlk_distances)), (a_wlk_parents, .inl (cI, 256, .inl wlk_parents)), (a_wlk_steps, .inl (cI, 256, .inl wlk_steps))]) [1, 3, 4, 5] (by decide) rfl
        have hFc := va_free (wc := [(h_wlk, .inr (3, [.ref a_wlk_distances, .ref a_wlk_order, .ref a_wlk_parents, .ref a_wlk_steps, .ref a_wlk_settledPairs, .int wlk_words, .int wlk_reached, .int wlk_doubts, .int wlk_doubtState, .int wlk_doubtChoice])), (a_wlk_distances, .inl (cI, 256, .inl wlk_distances)), (a_wlk_parents, .inl (cI, 256, .inl wlk_parents)), (a_wlk_steps, .inl (cI, 256, .inl wlk_steps))]) hD hS hA [1, 3, 4, 5] rfl
        refine sx_stI (va_runV (As := [.int p0, .int p1]) (rest := []) ⟨hx, hb, hml, hown, hts⟩ (k_Wlk_stepOfWay l dC dI cI cL cZ t1 t2 h_wlk a_wlk_distances a_wlk_order a_wlk_parents a_wlk_steps a_wlk_settledPairs wlk_distances wlk_parents wlk_steps wlk_words wlk_reached wlk_doubts wlk_doubtState wlk_doubtChoice _ p0 p1 v8 hv8) (cwV 2 hts (sx_gV tw_541 tw_542 tw_543 tw_39 tcWlk_stepOfWay) rfl rfl rfl (by decide +kernel) ⟨Nat.le_of_ble_eq_true rfl, Nat.le_of_ble_eq_true rfl⟩) (sx_pV hK hX hS hPc hDc hFc (va_recv hK hPc (ci := 3) (q0 := 0) rfl rfl)) rfl rfl hl.1 rfl (lv_room (Nat.le_of_ble_eq_true rfl)) dExp_way_29 ⟨Nat.le_of_ble_eq_true rfl, Nat.le_of_ble_eq_true rfl⟩) ?_
        cases hm
      · have hm := sx_neg c7 hm
        obtain rfl := Sum.inl.inj (Option.some.inj hm)
        exact sx_throwS (cls := "java/lang/IndexOutOfBoundsException") (text := "steps are counted from 0 on") (names := ["java/lang/RuntimeException", "java/lang/Exception"]) hx hb hnt hown (by decide +kernel) (by decide +kernel) (hts _ tw_458) (hts _ tw_46) (hts _ tw_459) (hX.2.2.2.2.2.2.2.1 ("StateExplorer", 116, "steps are counted from 0 on") (by decide +kernel)) (sx_own hts hX sx_og_118 sx_on_118) (hl.1.trans hml.symm) dExp_way_13 dExp_way_16 dExp_way_17 dExp_way_19 dExp_way_22 hnx hlocks (Nat.le_of_ble_eq_true rfl) (Nat.le_of_ble_eq_true rfl) (Nat.le_of_ble_eq_true rfl) (Nat.le_of_ble_eq_true rfl) (Nat.le_of_ble_eq_true rfl) (Nat.le_of_ble_eq_true rfl)
noncomputable def m_Exp_many (wlk_distances wlk_order : Nat → Int32) (wlk_reached exp_explored : Int32) (p0 : Int32) : Option (Nat ⊕ (Int32)) := (m_Exp_requireExplored exp_explored).bind (Sum.elim (fun k => some (.inl k)) (fun _ => (m_Wlk_reachedAt wlk_distances wlk_order wlk_reached p0).bind (fun v4 => some (.inr v4))))
def rm_Exp_many : Room := { frames := 1, cells := 0, slots := 0, locals := 23 }
def rmt_Exp_many : Room := { frames := 7, cells := 1, slots := 6, locals := 120 }
set_option maxHeartbeats 4000000 in
set_option maxRecDepth 100000 in
theorem k_Exp_many (l : Launch) (dC : Nat → ClassId) (dI : Nat → Nat → Nat) (cI cL cZ : ClassId) (t1 t2 : Nat) (h_wlk a_wlk_distances a_wlk_order a_wlk_parents a_wlk_steps a_wlk_settledPairs h_exp h_net h_tab h_par : Nat) (wlk_distances wlk_order : Nat → Int32) (wlk_words wlk_reached wlk_doubts wlk_doubtState wlk_doubtChoice exp_explored : Int32) (sz : Nat) (p0 : Int32) (v : Int32) (hm : m_Exp_many wlk_distances wlk_order wlk_reached exp_explored p0 = some (.inr v)) : Met l yExp_many wsExp_many rm_Exp_many (sx_Pc (dC, dI) [(cI, .int), (cL, .long), (cZ, .boolean)] t1 t2 [(h_wlk, .inr (3, [.ref a_wlk_distances, .ref a_wlk_order, .ref a_wlk_parents, .ref a_wlk_steps, .ref a_wlk_settledPairs, .int wlk_words, .int wlk_reached, .int wlk_doubts, .int wlk_doubtState, .int wlk_doubtChoice])), (h_exp, .inr (4, [.ref h_net, .ref h_tab, .ref h_wlk, .ref h_par, .int exp_explored])), (a_wlk_distances, .inl (cI, 256, .inl wlk_distances)), (a_wlk_order, .inl (cI, 256, .inl wlk_order))] sz [.ref h_exp, .int p0]) (sx_Si v) 0 0 (fun _ => False) := by
  refine Met.ofW (cc := cExp_many) (maxL := 2) (ret := (some .int)) (by decide) rfl ?_
  intro p e s m args below meth c s₁ B hml hv
  obtain ⟨rfl, hsz, hP, hK, hD0, hX⟩ := hv
  have hx := B.exec
  have hb := B.bytes
  have hr := B.returns
  have hts0 := atoms_spec (ws := wsExp_many) B.pre
  have hts : ∀ w ∈ tb, w.before _ s = true := fun w h => hts0 w (List.mem_cons_of_mem _ h)
  have hown : s.vm.findClass "StateExplorer" = some m.cls := findClass_of_methodNamed B.named
  have hlocks := B.notSynchronized
  subst hsz
  have hD := hD0.self (sz := s.heap.size)
  generalize hAe : va_A [(h_wlk, .inr (3, [.ref a_wlk_distances, .ref a_wlk_order, .ref a_wlk_parents, .ref a_wlk_steps, .ref a_wlk_settledPairs, .int wlk_words, .int wlk_reached, .int wlk_doubts, .int wlk_doubtState, .int wlk_doubtChoice])), (h_exp, .inr (4, [.ref h_net, .ref h_tab, .ref h_wlk, .ref h_par, .int exp_explored])), (a_wlk_distances, .inl (cI, 256, .inl wlk_distances)), (a_wlk_order, .inl (cI, 256, .inl wlk_order))] s.heap.size = A at hD hX 
  have hA : ∀ q : Nat, s.heap.size ≤ q → A q := fun q h => by rw [← hAe]; exact Or.inr h
  have hS : va_S A s.heap s.heap [] := va_S.rf
  have hl := lv_entry ([.ref h_exp, .int p0]) (n := 2) (Nat.le_of_ble_eq_true rfl)
  rw [lg_entry_eq]
  generalize (lg_sl ([.ref h_exp, .int p0]) ++ List.replicate (2 - (lg_sl ([.ref h_exp, .int p0])).length) Slot.unset).toArray = ls at hl ⊢
  have hl : lv_has ls 2 [(0, .ref h_exp), (1, .int p0)] := hl
  have C0 : sx_C p s m _ meth c cExp_many 2 "StateExplorer" A (dC, dI) [(cI, .int), (cL, .long), (cZ, .boolean)] t1 t2 := ⟨hx, hb, hml, hown, hts, hA, hK, hlocks, hX⟩
  rw [m_Exp_many] at hm
  refine lv_aload_n hx hb dExp_many_0 rfl (lv_at hl 0 rfl) ?_
  obtain ⟨v1, hv1, hm⟩ := sx_bind hm
  rcases v1 with k9 | u9
  · cases hm
  · have hPc := hP.sub (ws' := [(h_exp, .inr (4, [.ref h_net, .ref h_tab, .ref h_wlk, .ref h_par, .int exp_explored]))]) [1] rfl
    have hDc := hD.sub (ws' := [(h_exp, .inr (4, [.ref h_net, .ref h_tab, .ref h_wlk, .ref h_par, .int exp_explored]))]) [1] (by decide) rfl
    have hFc := va_free (wc := [(h_exp, .inr (4, [.ref h_net, .ref h_tab, .ref h_wlk, .ref h_par, .int exp_explored]))]) hD hS hA [1] rfl
    refine sx_stV (va_runV (As := []) (rest := []) ⟨hx, hb, hml, hown, hts⟩ (k_Exp_requireExplored l dC dI cI cL cZ t1 t2 h_exp h_net h_tab h_wlk h_par exp_explored _ () hv1) (cwV 0 hts (sx_gV tw_522 tw_524 tw_17 tw_36 tcExp_requireExplored) rfl rfl rfl (by decide +kernel) ⟨Nat.le_of_ble_eq_true rfl, Nat.le_of_ble_eq_true rfl⟩) (sx_pV hK hX hS hPc hDc hFc (va_recv hK hPc (ci := 4) (q0 := 0) rfl rfl)) rfl rfl hl.1 rfl (lv_room (Nat.le_of_ble_eq_true rfl)) dExp_many_1 ⟨Nat.le_of_ble_eq_true rfl, Nat.le_of_ble_eq_true rfl⟩) ?_
    refine lv_aload_n hx hb dExp_many_4 rfl (lv_at hl 0 rfl) ?_
    refine va_get (D := (dC, dI)) (ci := 4) (v := .ref h_wlk) (C := RExp) (T := TExp) (N := 5) hx hb hts inExp hown hK hP 1 rfl rfl 2 (by decide) (hts _ tw_195) (fun _ h9 => h9) rfl dExp_many_5 ?_
    refine lv_iload_n hx hb dExp_many_8 rfl (lv_at hl 1 rfl) ?_
    obtain ⟨v4, hv4, hm⟩ := sx_bind hm
    have hPc := hP.sub (ws' := [(h_wlk, .inr (3, [.ref a_wlk_distances, .ref a_wlk_order, .ref a_wlk_parents, .ref a_wlk_steps, .ref a_wlk_settledPairs, .int wlk_words, .int wlk_reached, .int wlk_doubts, .int wlk_doubtState, .int wlk_doubtChoice])), (a_wlk_distances, .inl (cI, 256, .inl wlk_distances)), (a_wlk_order, .inl (cI, 256, .inl wlk_order))]) [0, 2, 3] rfl
    have hDc := hD.sub (ws' := [(h_wlk, .inr (3, [.ref a_wlk_distances, .ref a_wlk_order, .ref a_wlk_parents, .ref a_wlk_steps, .ref a_wlk_settledPairs, .int wlk_words, .int wlk_reached, .int wlk_doubts, .int wlk_doubtState, .int wlk_doubtChoice])), (a_wlk_distances, .inl (cI, 256, .inl wlk_distances)), (a_wlk_order, .inl (cI, 256, .inl wlk_order))]) [0, 2, 3] (by decide) rfl
    have hFc := va_free (wc := [(h_wlk, .inr (3, [.ref a_wlk_distances, .ref a_wlk_order, .ref a_wlk_parents, .ref a_wlk_steps, .ref a_wlk_settledPairs, .int wlk_words, .int wlk_reached, .int wlk_doubts, .int wlk_doubtState, .int wlk_doubtChoice])), (a_wlk_distances, .inl (cI, 256, .inl wlk_distances)), (a_wlk_order, .inl (cI, 256, .inl wlk_order))]) hD hS hA [0, 2, 3] rfl
    refine sx_stI (va_runV (As := [.int p0]) (rest := []) ⟨hx, hb, hml, hown, hts⟩ (k_Wlk_reachedAt l dC dI cI cL cZ t1 t2 h_wlk a_wlk_distances a_wlk_order a_wlk_parents a_wlk_steps a_wlk_settledPairs wlk_distances wlk_order wlk_words wlk_reached wlk_doubts wlk_doubtState wlk_doubtChoice _ p0 v4 hv4) (cwV 1 hts (sx_gV tw_552 tw_553 tw_554 tw_39 tcWlk_reachedAt) rfl rfl rfl (by decide +kernel) ⟨Nat.le_of_ble_eq_true rfl, Nat.le_of_ble_eq_true rfl⟩) (sx_pV hK hX hS hPc hDc hFc (va_recv hK hPc (ci := 3) (q0 := 0) rfl rfl)) rfl rfl hl.1 rfl (lv_room (Nat.le_of_ble_eq_true rfl)) dExp_many_9 ⟨Nat.le_of_ble_eq_true rfl, Nat.le_of_ble_eq_true rfl⟩) ?_
    obtain rfl := Sum.inr.inj (Option.some.inj hm)
    exact W.iret (v := v4) hx hb hr (fun t ht hW => ⟨rfl, ht⟩) (fun q hq => nomatch hq) dExp_many_12
set_option maxHeartbeats 4000000 in
set_option maxRecDepth 100000 in
theorem kt_Exp_many (l : Launch) (hnt : l.stackTraces = false) (dC : Nat → ClassId) (dI : Nat → Nat → Nat) (cI cL cZ : ClassId) (t1 t2 : Nat) (h_wlk a_wlk_distances a_wlk_order a_wlk_parents a_wlk_steps a_wlk_settledPairs h_exp h_net h_tab h_par : Nat) (wlk_distances wlk_order : Nat → Int32) (wlk_words wlk_reached wlk_doubts wlk_doubtState wlk_doubtChoice exp_explored : Int32) (sz : Nat) (p0 : Int32) (k : Nat) (hm : m_Exp_many wlk_distances wlk_order wlk_reached exp_explored p0 = some (.inl k)) : sx_Thr l yExp_many wsExp_many rmt_Exp_many (sx_Pc (dC, dI) [(cI, .int), (cL, .long), (cZ, .boolean)] t1 t2 [(h_wlk, .inr (3, [.ref a_wlk_distances, .ref a_wlk_order, .ref a_wlk_parents, .ref a_wlk_steps, .ref a_wlk_settledPairs, .int wlk_words, .int wlk_reached, .int wlk_doubts, .int wlk_doubtState, .int wlk_doubtChoice])), (h_exp, .inr (4, [.ref h_net, .ref h_tab, .ref h_wlk, .ref h_par, .int exp_explored])), (a_wlk_distances, .inl (cI, 256, .inl wlk_distances)), (a_wlk_order, .inl (cI, 256, .inl wlk_order))] sz [.ref h_exp, .int p0]) (sx_E k) 1 6 := by
  refine sx_thrOf (cc := cExp_many) (maxL := 2) (ret := (some .int)) (by decide) rfl ?_
  intro p e s m args below meth c s₁ B hml hnx hv
  obtain ⟨rfl, hsz, hP, hK, hD0, hX⟩ := hv
  have hx := B.exec
  have hb := B.bytes
  have hr := B.returns
  have hts0 := atoms_spec (ws := wsExp_many) B.pre
  have hts : ∀ w ∈ tb, w.before _ s = true := fun w h => hts0 w (List.mem_cons_of_mem _ h)
  have hown : s.vm.findClass "StateExplorer" = some m.cls := findClass_of_methodNamed B.named
  have hlocks := B.notSynchronized
  subst hsz
  have hD := hD0.self (sz := s.heap.size)
  generalize hAe : va_A [(h_wlk, .inr (3, [.ref a_wlk_distances, .ref a_wlk_order, .ref a_wlk_parents, .ref a_wlk_steps, .ref a_wlk_settledPairs, .int wlk_words, .int wlk_reached, .int wlk_doubts, .int wlk_doubtState, .int wlk_doubtChoice])), (h_exp, .inr (4, [.ref h_net, .ref h_tab, .ref h_wlk, .ref h_par, .int exp_explored])), (a_wlk_distances, .inl (cI, 256, .inl wlk_distances)), (a_wlk_order, .inl (cI, 256, .inl wlk_order))] s.heap.size = A at hD hX 
  have hA : ∀ q : Nat, s.heap.size ≤ q → A q := fun q h => by rw [← hAe]; exact Or.inr h
  have hS : va_S A s.heap s.heap [] := va_S.rf
  have hl := lv_entry ([.ref h_exp, .int p0]) (n := 2) (Nat.le_of_ble_eq_true rfl)
  rw [lg_entry_eq]
  generalize (lg_sl ([.ref h_exp, .int p0]) ++ List.replicate (2 - (lg_sl ([.ref h_exp, .int p0])).length) Slot.unset).toArray = ls at hl ⊢
  have hl : lv_has ls 2 [(0, .ref h_exp), (1, .int p0)] := hl
  have C0 : sx_C p s m _ meth c cExp_many 2 "StateExplorer" A (dC, dI) [(cI, .int), (cL, .long), (cZ, .boolean)] t1 t2 := ⟨hx, hb, hml, hown, hts, hA, hK, hlocks, hX⟩
  rw [m_Exp_many] at hm
  refine lv_aload_n hx hb dExp_many_0 rfl (lv_at hl 0 rfl) ?_
  obtain ⟨v1, hv1, hm⟩ := sx_bind hm
  rcases v1 with k9 | u9
  · have hPc := hP.sub (ws' := [(h_exp, .inr (4, [.ref h_net, .ref h_tab, .ref h_wlk, .ref h_par, .int exp_explored]))]) [1] rfl
    have hDc := hD.sub (ws' := [(h_exp, .inr (4, [.ref h_net, .ref h_tab, .ref h_wlk, .ref h_par, .int exp_explored]))]) [1] (by decide) rfl
    have hFc := va_free (wc := [(h_exp, .inr (4, [.ref h_net, .ref h_tab, .ref h_wlk, .ref h_par, .int exp_explored]))]) hD hS hA [1] rfl
    obtain rfl := Sum.inl.inj (Option.some.inj hm)
    refine sx_callT (As := []) (rest := []) ⟨hx, hb, hml, hown, hts⟩ (kt_Exp_requireExplored l hnt dC dI cI cL cZ t1 t2 h_exp h_net h_tab h_wlk h_par exp_explored _ _ hv1) (cwV 0 hts (sx_gV tw_522 tw_524 tw_17 tw_36 tcExp_requireExplored) rfl rfl rfl (by decide +kernel) ⟨Nat.le_of_ble_eq_true rfl, Nat.le_of_ble_eq_true rfl⟩) (sx_pV hK hX hS hPc hDc hFc (va_recv hK hPc (ci := 4) (q0 := 0) rfl rfl)) rfl hl.1 rfl (lv_room (Nat.le_of_ble_eq_true rfl)) dExp_many_1 ⟨Nat.le_of_ble_eq_true rfl, Nat.le_of_ble_eq_true rfl⟩ (fun ce q H1 z1 z2 z3 z4 z5 => ?_)
    exact sx_out hnx hlocks z3 z4 z5 (Nat.le_of_ble_eq_true rfl) (Nat.le_of_ble_eq_true rfl)
  · have hPc := hP.sub (ws' := [(h_exp, .inr (4, [.ref h_net, .ref h_tab, .ref h_wlk, .ref h_par, .int exp_explored]))]) [1] rfl
    have hDc := hD.sub (ws' := [(h_exp, .inr (4, [.ref h_net, .ref h_tab, .ref h_wlk, .ref h_par, .int exp_explored]))]) [1] (by decide) rfl
    have hFc := va_free (wc := [(h_exp, .inr (4, [.ref h_net, .ref h_tab, .ref h_wlk, .ref h_par, .int exp_explored]))]) hD hS hA [1] rfl
    refine sx_stV (va_runV (As := []) (rest := []) ⟨hx, hb, hml, hown, hts⟩ (k_Exp_requireExplored l dC dI cI cL cZ t1 t2 h_exp h_net h_tab h_wlk h_par exp_explored _ () hv1) (cwV 0 hts (sx_gV tw_522 tw_524 tw_17 tw_36 tcExp_requireExplored) rfl rfl rfl (by decide +kernel) ⟨Nat.le_of_ble_eq_true rfl, Nat.le_of_ble_eq_true rfl⟩) (sx_pV hK hX hS hPc hDc hFc (va_recv hK hPc (ci := 4) (q0 := 0) rfl rfl)) rfl rfl hl.1 rfl (lv_room (Nat.le_of_ble_eq_true rfl)) dExp_many_1 ⟨Nat.le_of_ble_eq_true rfl, Nat.le_of_ble_eq_true rfl⟩) ?_
    refine lv_aload_n hx hb dExp_many_4 rfl (lv_at hl 0 rfl) ?_
    refine va_get (D := (dC, dI)) (ci := 4) (v := .ref h_wlk) (C := RExp) (T := TExp) (N := 5) hx hb hts inExp hown hK hP 1 rfl rfl 2 (by decide) (hts _ tw_195) (fun _ h9 => h9) rfl dExp_many_5 ?_
    refine lv_iload_n hx hb dExp_many_8 rfl (lv_at hl 1 rfl) ?_
    obtain ⟨v4, hv4, hm⟩ := sx_bind hm
    have hPc := hP.sub (ws' := [(h_wlk, .inr (3, [.ref a_wlk_distances, .ref a_wlk_order, .ref a_wlk_parents, .ref a_wlk_steps, .ref a_wlk_settledPairs, .int wlk_words, .int wlk_reached, .int wlk_doubts, .int wlk_doubtState, .int wlk_doubtChoice])), (a_wlk_distances, .inl (cI, 256, .inl wlk_distances)), (a_wlk_order, .inl (cI, 256, .inl wlk_order))]) [0, 2, 3] rfl
    have hDc := hD.sub (ws' := [(h_wlk, .inr (3, [.ref a_wlk_distances, .ref a_wlk_order, .ref a_wlk_parents, .ref a_wlk_steps, .ref a_wlk_settledPairs, .int wlk_words, .int wlk_reached, .int wlk_doubts, .int wlk_doubtState, .int wlk_doubtChoice])), (a_wlk_distances, .inl (cI, 256, .inl wlk_distances)), (a_wlk_order, .inl (cI, 256, .inl wlk_order))]) [0, 2, 3] (by decide) rfl
    have hFc := va_free (wc := [(h_wlk, .inr (3, [.ref a_wlk_distances, .ref a_wlk_order, .ref a_wlk_parents, .ref a_wlk_steps, .ref a_wlk_settledPairs, .int wlk_words, .int wlk_reached, .int wlk_doubts, .int wlk_doubtState, .int wlk_doubtChoice])), (a_wlk_distances, .inl (cI, 256, .inl wlk_distances)), (a_wlk_order, .inl (cI, 256, .inl wlk_order))]) hD hS hA [0, 2, 3] rfl
    refine sx_stI (va_runV (As := [.int p0]) (rest := []) ⟨hx, hb, hml, hown, hts⟩ (k_Wlk_reachedAt l dC dI cI cL cZ t1 t2 h_wlk a_wlk_distances a_wlk_order a_wlk_parents a_wlk_steps a_wlk_settledPairs wlk_distances wlk_order wlk_words wlk_reached wlk_doubts wlk_doubtState wlk_doubtChoice _ p0 v4 hv4) (cwV 1 hts (sx_gV tw_552 tw_553 tw_554 tw_39 tcWlk_reachedAt) rfl rfl rfl (by decide +kernel) ⟨Nat.le_of_ble_eq_true rfl, Nat.le_of_ble_eq_true rfl⟩) (sx_pV hK hX hS hPc hDc hFc (va_recv hK hPc (ci := 3) (q0 := 0) rfl rfl)) rfl rfl hl.1 rfl (lv_room (Nat.le_of_ble_eq_true rfl)) dExp_many_9 ⟨Nat.le_of_ble_eq_true rfl, Nat.le_of_ble_eq_true rfl⟩) ?_
    cases hm
noncomputable def m_Exp_next (net_inputTotal net_latchTotal : Int32) (tab_nextStates : Nat → Int32) (exp_explored : Int32) (p0 : Int32) (p1 : Int32) : Option (Nat ⊕ (Int32)) := (m_Exp_requireExplored exp_explored).bind (Sum.elim (fun k => some (.inl k)) (fun _ => (m_Exp_requireState net_latchTotal p0).bind (Sum.elim (fun k => some (.inl k)) (fun _ => (if p1 < (0 : Int32) then some (.inl 2) else (if p1 < (16 : Int32) then (m_Net_choiceTotal net_inputTotal).bind (fun v9 => (m_Tab_nextOf tab_nextStates p0 (p1 &&& (v9 - (1 : Int32)))).bind (fun v11 => some (.inr v11))) else some (.inl 2)))))))
def rm_Exp_next : Room := { frames := 2, cells := 0, slots := 0, locals := 41 }
def rmt_Exp_next : Room := { frames := 7, cells := 1, slots := 6, locals := 121 }
set_option maxHeartbeats 4000000 in
set_option maxRecDepth 100000 in
theorem k_Exp_next (l : Launch) (dC : Nat → ClassId) (dI : Nat → Nat → Nat) (cI cL cZ : ClassId) (t1 t2 : Nat) (h_net a_net_sorts a_net_ranks a_net_starts a_net_literals a_net_nextLiterals a_net_outputs h_tab a_tab_known a_tab_settled a_tab_values a_tab_nextStates h_exp h_wlk h_par : Nat) (net_gateTotal net_inputTotal net_latchTotal net_outputTotal : Int32) (tab_nextStates : Nat → Int32) (exp_explored : Int32) (sz : Nat) (p0 : Int32) (p1 : Int32) (v : Int32) (hm : m_Exp_next net_inputTotal net_latchTotal tab_nextStates exp_explored p0 p1 = some (.inr v)) : Met l yExp_next wsExp_next rm_Exp_next (sx_Pc (dC, dI) [(cI, .int), (cL, .long), (cZ, .boolean)] t1 t2 [(h_net, .inr (0, [.ref a_net_sorts, .ref a_net_ranks, .ref a_net_starts, .ref a_net_literals, .ref a_net_nextLiterals, .ref a_net_outputs, .int net_gateTotal, .int net_inputTotal, .int net_latchTotal, .int net_outputTotal])), (h_tab, .inr (2, [.ref a_tab_known, .ref a_tab_settled, .ref a_tab_values, .ref a_tab_nextStates])), (h_exp, .inr (4, [.ref h_net, .ref h_tab, .ref h_wlk, .ref h_par, .int exp_explored])), (a_tab_nextStates, .inl (cI, 4096, .inl tab_nextStates))] sz [.ref h_exp, .int p0, .int p1]) (sx_Si v) 0 0 (fun _ => False) := by
  refine Met.ofW (cc := cExp_next) (maxL := 3) (ret := (some .int)) (by decide) rfl ?_
  intro p e s m args below meth c s₁ B hml hv
  obtain ⟨rfl, hsz, hP, hK, hD0, hX⟩ := hv
  have hx := B.exec
  have hb := B.bytes
  have hr := B.returns
  have hts0 := atoms_spec (ws := wsExp_next) B.pre
  have hts : ∀ w ∈ tb, w.before _ s = true := fun w h => hts0 w (List.mem_cons_of_mem _ h)
  have hown : s.vm.findClass "StateExplorer" = some m.cls := findClass_of_methodNamed B.named
  have hlocks := B.notSynchronized
  subst hsz
  have hD := hD0.self (sz := s.heap.size)
  generalize hAe : va_A [(h_net, .inr (0, [.ref a_net_sorts, .ref a_net_ranks, .ref a_net_starts, .ref a_net_literals, .ref a_net_nextLiterals, .ref a_net_outputs, .int net_gateTotal, .int net_inputTotal, .int net_latchTotal, .int net_outputTotal])), (h_tab, .inr (2, [.ref a_tab_known, .ref a_tab_settled, .ref a_tab_values, .ref a_tab_nextStates])), (h_exp, .inr (4, [.ref h_net, .ref h_tab, .ref h_wlk, .ref h_par, .int exp_explored])), (a_tab_nextStates, .inl (cI, 4096, .inl tab_nextStates))] s.heap.size = A at hD hX 
  have hA : ∀ q : Nat, s.heap.size ≤ q → A q := fun q h => by rw [← hAe]; exact Or.inr h
  have hS : va_S A s.heap s.heap [] := va_S.rf
  have hl := lv_entry ([.ref h_exp, .int p0, .int p1]) (n := 3) (Nat.le_of_ble_eq_true rfl)
  rw [lg_entry_eq]
  generalize (lg_sl ([.ref h_exp, .int p0, .int p1]) ++ List.replicate (3 - (lg_sl ([.ref h_exp, .int p0, .int p1])).length) Slot.unset).toArray = ls at hl ⊢
  have hl : lv_has ls 3 [(0, .ref h_exp), (1, .int p0), (2, .int p1)] := hl
  have C0 : sx_C p s m _ meth c cExp_next 3 "StateExplorer" A (dC, dI) [(cI, .int), (cL, .long), (cZ, .boolean)] t1 t2 := ⟨hx, hb, hml, hown, hts, hA, hK, hlocks, hX⟩
  rw [m_Exp_next] at hm
  refine lv_aload_n hx hb dExp_next_0 rfl (lv_at hl 0 rfl) ?_
  obtain ⟨v1, hv1, hm⟩ := sx_bind hm
  rcases v1 with k9 | u9
  · cases hm
  · have hPc := hP.sub (ws' := [(h_exp, .inr (4, [.ref h_net, .ref h_tab, .ref h_wlk, .ref h_par, .int exp_explored]))]) [2] rfl
    have hDc := hD.sub (ws' := [(h_exp, .inr (4, [.ref h_net, .ref h_tab, .ref h_wlk, .ref h_par, .int exp_explored]))]) [2] (by decide) rfl
    have hFc := va_free (wc := [(h_exp, .inr (4, [.ref h_net, .ref h_tab, .ref h_wlk, .ref h_par, .int exp_explored]))]) hD hS hA [2] rfl
    refine sx_stV (va_runV (As := []) (rest := []) ⟨hx, hb, hml, hown, hts⟩ (k_Exp_requireExplored l dC dI cI cL cZ t1 t2 h_exp h_net h_tab h_wlk h_par exp_explored _ () hv1) (cwV 0 hts (sx_gV tw_522 tw_524 tw_17 tw_36 tcExp_requireExplored) rfl rfl rfl (by decide +kernel) ⟨Nat.le_of_ble_eq_true rfl, Nat.le_of_ble_eq_true rfl⟩) (sx_pV hK hX hS hPc hDc hFc (va_recv hK hPc (ci := 4) (q0 := 0) rfl rfl)) rfl rfl hl.1 rfl (lv_room (Nat.le_of_ble_eq_true rfl)) dExp_next_1 ⟨Nat.le_of_ble_eq_true rfl, Nat.le_of_ble_eq_true rfl⟩) ?_
    refine lv_aload_n hx hb dExp_next_4 rfl (lv_at hl 0 rfl) ?_
    refine lv_iload_n hx hb dExp_next_5 rfl (lv_at hl 1 rfl) ?_
    obtain ⟨v4, hv4, hm⟩ := sx_bind hm
    rcases v4 with k9 | u9
    · cases hm
    · have hPc := hP.sub (ws' := [(h_net, .inr (0, [.ref a_net_sorts, .ref a_net_ranks, .ref a_net_starts, .ref a_net_literals, .ref a_net_nextLiterals, .ref a_net_outputs, .int net_gateTotal, .int net_inputTotal, .int net_latchTotal, .int net_outputTotal])), (h_exp, .inr (4, [.ref h_net, .ref h_tab, .ref h_wlk, .ref h_par, .int exp_explored]))]) [0, 2] rfl
      have hDc := hD.sub (ws' := [(h_net, .inr (0, [.ref a_net_sorts, .ref a_net_ranks, .ref a_net_starts, .ref a_net_literals, .ref a_net_nextLiterals, .ref a_net_outputs, .int net_gateTotal, .int net_inputTotal, .int net_latchTotal, .int net_outputTotal])), (h_exp, .inr (4, [.ref h_net, .ref h_tab, .ref h_wlk, .ref h_par, .int exp_explored]))]) [0, 2] (by decide) rfl
      have hFc := va_free (wc := [(h_net, .inr (0, [.ref a_net_sorts, .ref a_net_ranks, .ref a_net_starts, .ref a_net_literals, .ref a_net_nextLiterals, .ref a_net_outputs, .int net_gateTotal, .int net_inputTotal, .int net_latchTotal, .int net_outputTotal])), (h_exp, .inr (4, [.ref h_net, .ref h_tab, .ref h_wlk, .ref h_par, .int exp_explored]))]) hD hS hA [0, 2] rfl
      refine sx_stV (va_runV (As := [.int p0]) (rest := []) ⟨hx, hb, hml, hown, hts⟩ (k_Exp_requireState l dC dI cI cL cZ t1 t2 h_net a_net_sorts a_net_ranks a_net_starts a_net_literals a_net_nextLiterals a_net_outputs h_exp h_tab h_wlk h_par net_gateTotal net_inputTotal net_latchTotal net_outputTotal exp_explored _ p0 () hv4) (cwV 1 hts (sx_gV tw_527 tw_529 tw_18 tw_36 tcExp_requireState) rfl rfl rfl (by decide +kernel) ⟨Nat.le_of_ble_eq_true rfl, Nat.le_of_ble_eq_true rfl⟩) (sx_pV hK hX hS hPc hDc hFc (va_recv hK hPc (ci := 4) (q0 := 1) rfl rfl)) rfl rfl hl.1 rfl (lv_room (Nat.le_of_ble_eq_true rfl)) dExp_next_6 ⟨Nat.le_of_ble_eq_true rfl, Nat.le_of_ble_eq_true rfl⟩) ?_
      refine lv_iload_n hx hb dExp_next_9 rfl (lv_at hl 2 rfl) ?_
      refine lv_if_lt (tgt := 19) hx hb dExp_next_10 (by decide) (fun c7 => ?_) (fun c7 => ?_)
      · have hm := sx_pos c7 hm
        cases hm
      · have hm := sx_neg c7 hm
        refine lv_iload_n hx hb dExp_next_13 rfl (lv_at hl 2 rfl) ?_
        refine lv_bipush (v := (16 : Int32)) hx hb dExp_next_14 (by decide) ?_
        refine lv_icmp_lt (tgt := 29) hx hb dExp_next_16 (by decide) (fun c8 => ?_) (fun c8 => ?_)
        · have hm := sx_pos c8 hm
          refine lv_aload_n hx hb dExp_next_29 rfl (lv_at hl 0 rfl) ?_
          refine va_get (D := (dC, dI)) (ci := 4) (v := .ref h_tab) (C := RExp) (T := TExp) (N := 5) hx hb hts inExp hown hK hP 2 rfl rfl 1 (by decide) (hts _ tw_194) (fun _ h9 => h9) rfl dExp_next_30 ?_
          refine lv_iload_n hx hb dExp_next_33 rfl (lv_at hl 1 rfl) ?_
          refine lv_iload_n hx hb dExp_next_34 rfl (lv_at hl 2 rfl) ?_
          refine lv_aload_n hx hb dExp_next_35 rfl (lv_at hl 0 rfl) ?_
          refine va_get (D := (dC, dI)) (ci := 4) (v := .ref h_net) (C := RExp) (T := TExp) (N := 5) hx hb hts inExp hown hK hP 2 rfl rfl 0 (by decide) (hts _ tw_193) (fun _ h9 => h9) rfl dExp_next_36 ?_
          obtain ⟨v9, hv9, hm⟩ := sx_bind hm
          have hPc := hP.sub (ws' := [(h_net, .inr (0, [.ref a_net_sorts, .ref a_net_ranks, .ref a_net_starts, .ref a_net_literals, .ref a_net_nextLiterals, .ref a_net_outputs, .int net_gateTotal, .int net_inputTotal, .int net_latchTotal, .int net_outputTotal]))]) [0] rfl
          have hDc := hD.sub (ws' := [(h_net, .inr (0, [.ref a_net_sorts, .ref a_net_ranks, .ref a_net_starts, .ref a_net_literals, .ref a_net_nextLiterals, .ref a_net_outputs, .int net_gateTotal, .int net_inputTotal, .int net_latchTotal, .int net_outputTotal]))]) [0] (by decide) rfl
          have hFc := va_free (wc := [(h_net, .inr (0, [.ref a_net_sorts, .ref a_net_ranks, .ref a_net_starts, .ref a_net_literals, .ref a_net_nextLiterals, .ref a_net_outputs, .int net_gateTotal, .int net_inputTotal, .int net_latchTotal, .int net_outputTotal]))]) hD hS hA [0] rfl
          refine sx_stI (va_runV (As := []) (rest := [.int p1, .int p0, .ref h_tab]) ⟨hx, hb, hml, hown, hts⟩ (k_Net_choiceTotal l dC dI cI cL cZ t1 t2 h_net a_net_sorts a_net_ranks a_net_starts a_net_literals a_net_nextLiterals a_net_outputs net_gateTotal net_inputTotal net_latchTotal net_outputTotal _ v9 hv9) (cwV 0 hts (sx_gV tw_564 tw_270 tw_271 tw_37 tcNet_choiceTotal) rfl rfl rfl (by decide +kernel) ⟨Nat.le_of_ble_eq_true rfl, Nat.le_of_ble_eq_true rfl⟩) (sx_pV hK hX hS hPc hDc hFc (va_recv hK hPc (ci := 0) (q0 := 0) rfl rfl)) rfl rfl hl.1 rfl (lv_room (Nat.le_of_ble_eq_true rfl)) dExp_next_39 ⟨Nat.le_of_ble_eq_true rfl, Nat.le_of_ble_eq_true rfl⟩) ?_
          refine lv_iconst (v := (1 : Int32)) hx hb dExp_next_42 (by decide) ?_
          refine lv_isub hx hb dExp_next_43 ?_
          refine lv_iand hx hb dExp_next_44 ?_
          obtain ⟨v11, hv11, hm⟩ := sx_bind hm
          have hPc := hP.sub (ws' := [(h_tab, .inr (2, [.ref a_tab_known, .ref a_tab_settled, .ref a_tab_values, .ref a_tab_nextStates])), (a_tab_nextStates, .inl (cI, 4096, .inl tab_nextStates))]) [1, 3] rfl
          have hDc := hD.sub (ws' := [(h_tab, .inr (2, [.ref a_tab_known, .ref a_tab_settled, .ref a_tab_values, .ref a_tab_nextStates])), (a_tab_nextStates, .inl (cI, 4096, .inl tab_nextStates))]) [1, 3] (by decide) rfl
          have hFc := va_free (wc := [(h_tab, .inr (2, [.ref a_tab_known, .ref a_tab_settled, .ref a_tab_values, .ref a_tab_nextStates])), (a_tab_nextStates, .inl (cI, 4096, .inl tab_nextStates))]) hD hS hA [1, 3] rfl
          refine sx_stI (va_runV (As := [.int p0, .int (p1 &&& (v9 - (1 : Int32)))]) (rest := []) ⟨hx, hb, hml, hown, hts⟩ (k_Tab_nextOf l dC dI cI cL cZ t1 t2 h_tab a_tab_known a_tab_settled a_tab_values a_tab_nextStates tab_nextStates _ p0 (p1 &&& (v9 - (1 : Int32))) v11 hv11) (cwV 2 hts (sx_gV tw_565 tw_308 tw_309 tw_38 tcTab_nextOf) rfl rfl rfl (by decide +kernel) ⟨Nat.le_of_ble_eq_true rfl, Nat.le_of_ble_eq_true rfl⟩) (sx_pV hK hX hS hPc hDc hFc (va_recv hK hPc (ci := 2) (q0 := 0) rfl rfl)) rfl rfl hl.1 rfl (lv_room (Nat.le_of_ble_eq_true rfl)) dExp_next_45 ⟨Nat.le_of_ble_eq_true rfl, Nat.le_of_ble_eq_true rfl⟩) ?_
          obtain rfl := Sum.inr.inj (Option.some.inj hm)
          exact W.iret (v := v11) hx hb hr (fun t ht hW => ⟨rfl, ht⟩) (fun q hq => nomatch hq) dExp_next_48
        · have hm := sx_neg c8 hm
          cases hm
set_option maxHeartbeats 4000000 in
set_option maxRecDepth 100000 in
theorem kt_Exp_next (l : Launch) (hnt : l.stackTraces = false) (dC : Nat → ClassId) (dI : Nat → Nat → Nat) (cI cL cZ : ClassId) (t1 t2 : Nat) (h_net a_net_sorts a_net_ranks a_net_starts a_net_literals a_net_nextLiterals a_net_outputs h_tab a_tab_known a_tab_settled a_tab_values a_tab_nextStates h_exp h_wlk h_par : Nat) (net_gateTotal net_inputTotal net_latchTotal net_outputTotal : Int32) (tab_nextStates : Nat → Int32) (exp_explored : Int32) (sz : Nat) (p0 : Int32) (p1 : Int32) (k : Nat) (hm : m_Exp_next net_inputTotal net_latchTotal tab_nextStates exp_explored p0 p1 = some (.inl k)) : sx_Thr l yExp_next wsExp_next rmt_Exp_next (sx_Pc (dC, dI) [(cI, .int), (cL, .long), (cZ, .boolean)] t1 t2 [(h_net, .inr (0, [.ref a_net_sorts, .ref a_net_ranks, .ref a_net_starts, .ref a_net_literals, .ref a_net_nextLiterals, .ref a_net_outputs, .int net_gateTotal, .int net_inputTotal, .int net_latchTotal, .int net_outputTotal])), (h_tab, .inr (2, [.ref a_tab_known, .ref a_tab_settled, .ref a_tab_values, .ref a_tab_nextStates])), (h_exp, .inr (4, [.ref h_net, .ref h_tab, .ref h_wlk, .ref h_par, .int exp_explored])), (a_tab_nextStates, .inl (cI, 4096, .inl tab_nextStates))] sz [.ref h_exp, .int p0, .int p1]) (sx_E k) 1 6 := by
  refine sx_thrOf (cc := cExp_next) (maxL := 3) (ret := (some .int)) (by decide) rfl ?_
  intro p e s m args below meth c s₁ B hml hnx hv
  obtain ⟨rfl, hsz, hP, hK, hD0, hX⟩ := hv
  have hx := B.exec
  have hb := B.bytes
  have hr := B.returns
  have hts0 := atoms_spec (ws := wsExp_next) B.pre
  have hts : ∀ w ∈ tb, w.before _ s = true := fun w h => hts0 w (List.mem_cons_of_mem _ h)
  have hown : s.vm.findClass "StateExplorer" = some m.cls := findClass_of_methodNamed B.named
  have hlocks := B.notSynchronized
  subst hsz
  have hD := hD0.self (sz := s.heap.size)
  generalize hAe : va_A [(h_net, .inr (0, [.ref a_net_sorts, .ref a_net_ranks, .ref a_net_starts, .ref a_net_literals, .ref a_net_nextLiterals, .ref a_net_outputs, .int net_gateTotal, .int net_inputTotal, .int net_latchTotal, .int net_outputTotal])), (h_tab, .inr (2, [.ref a_tab_known, .ref a_tab_settled, .ref a_tab_values, .ref a_tab_nextStates])), (h_exp, .inr (4, [.ref h_net, .ref h_tab, .ref h_wlk, .ref h_par, .int exp_explored])), (a_tab_nextStates, .inl (cI, 4096, .inl tab_nextStates))] s.heap.size = A at hD hX 
  have hA : ∀ q : Nat, s.heap.size ≤ q → A q := fun q h => by rw [← hAe]; exact Or.inr h
  have hS : va_S A s.heap s.heap [] := va_S.rf
  have hl := lv_entry ([.ref h_exp, .int p0, .int p1]) (n := 3) (Nat.le_of_ble_eq_true rfl)
  rw [lg_entry_eq]
  generalize (lg_sl ([.ref h_exp, .int p0, .int p1]) ++ List.replicate (3 - (lg_sl ([.ref h_exp, .int p0, .int p1])).length) Slot.unset).toArray = ls at hl ⊢
  have hl : lv_has ls 3 [(0, .ref h_exp), (1, .int p0), (2, .int p1)] := hl
  have C0 : sx_C p s m _ meth c cExp_next 3 "StateExplorer" A (dC, dI) [(cI, .int), (cL, .long), (cZ, .boolean)] t1 t2 := ⟨hx, hb, hml, hown, hts, hA, hK, hlocks, hX⟩
  rw [m_Exp_next] at hm
  refine lv_aload_n hx hb dExp_next_0 rfl (lv_at hl 0 rfl) ?_
  obtain ⟨v1, hv1, hm⟩ := sx_bind hm
  rcases v1 with k9 | u9
  · have hPc := hP.sub (ws' := [(h_exp, .inr (4, [.ref h_net, .ref h_tab, .ref h_wlk, .ref h_par, .int exp_explored]))]) [2] rfl
    have hDc := hD.sub (ws' := [(h_exp, .inr (4, [.ref h_net, .ref h_tab, .ref h_wlk, .ref h_par, .int exp_explored]))]) [2] (by decide) rfl
    have hFc := va_free (wc := [(h_exp, .inr (4, [.ref h_net, .ref h_tab, .ref h_wlk, .ref h_par, .int exp_explored]))]) hD hS hA [2] rfl
    obtain rfl := Sum.inl.inj (Option.some.inj hm)
    refine sx_callT (As := []) (rest := []) ⟨hx, hb, hml, hown, hts⟩ (kt_Exp_requireExplored l hnt dC dI cI cL cZ t1 t2 h_exp h_net h_tab h_wlk h_par exp_explored _ _ hv1) (cwV 0 hts (sx_gV tw_522 tw_524 tw_17 tw_36 tcExp_requireExplored) rfl rfl rfl (by decide +kernel) ⟨Nat.le_of_ble_eq_true rfl, Nat.le_of_ble_eq_true rfl⟩) (sx_pV hK hX hS hPc hDc hFc (va_recv hK hPc (ci := 4) (q0 := 0) rfl rfl)) rfl hl.1 rfl (lv_room (Nat.le_of_ble_eq_true rfl)) dExp_next_1 ⟨Nat.le_of_ble_eq_true rfl, Nat.le_of_ble_eq_true rfl⟩ (fun ce q H1 z1 z2 z3 z4 z5 => ?_)
    exact sx_out hnx hlocks z3 z4 z5 (Nat.le_of_ble_eq_true rfl) (Nat.le_of_ble_eq_true rfl)
  · have hPc := hP.sub (ws' := [(h_exp, .inr (4, [.ref h_net, .ref h_tab, .ref h_wlk, .ref h_par, .int exp_explored]))]) [2] rfl
    have hDc := hD.sub (ws' := [(h_exp, .inr (4, [.ref h_net, .ref h_tab, .ref h_wlk, .ref h_par, .int exp_explored]))]) [2] (by decide) rfl
    have hFc := va_free (wc := [(h_exp, .inr (4, [.ref h_net, .ref h_tab, .ref h_wlk, .ref h_par, .int exp_explored]))]) hD hS hA [2] rfl
    refine sx_stV (va_runV (As := []) (rest := []) ⟨hx, hb, hml, hown, hts⟩ (k_Exp_requireExplored l dC dI cI cL cZ t1 t2 h_exp h_net h_tab h_wlk h_par exp_explored _ () hv1) (cwV 0 hts (sx_gV tw_522 tw_524 tw_17 tw_36 tcExp_requireExplored) rfl rfl rfl (by decide +kernel) ⟨Nat.le_of_ble_eq_true rfl, Nat.le_of_ble_eq_true rfl⟩) (sx_pV hK hX hS hPc hDc hFc (va_recv hK hPc (ci := 4) (q0 := 0) rfl rfl)) rfl rfl hl.1 rfl (lv_room (Nat.le_of_ble_eq_true rfl)) dExp_next_1 ⟨Nat.le_of_ble_eq_true rfl, Nat.le_of_ble_eq_true rfl⟩) ?_
    refine lv_aload_n hx hb dExp_next_4 rfl (lv_at hl 0 rfl) ?_
    refine lv_iload_n hx hb dExp_next_5 rfl (lv_at hl 1 rfl) ?_
    obtain ⟨v4, hv4, hm⟩ := sx_bind hm
    rcases v4 with k9 | u9
    · have hPc := hP.sub (ws' := [(h_net, .inr (0, [.ref a_net_sorts, .ref a_net_ranks, .ref a_net_starts, .ref a_net_literals, .ref a_net_nextLiterals, .ref a_net_outputs, .int net_gateTotal, .int net_inputTotal, .int net_latchTotal, .int net_outputTotal])), (h_exp, .inr (4, [.ref h_net, .ref h_tab, .ref h_wlk, .ref h_par, .int exp_explored]))]) [0, 2] rfl
      have hDc := hD.sub (ws' := [(h_net, .inr (0, [.ref a_net_sorts, .ref a_net_ranks, .ref a_net_starts, .ref a_net_literals, .ref a_net_nextLiterals, .ref a_net_outputs, .int net_gateTotal, .int net_inputTotal, .int net_latchTotal, .int net_outputTotal])), (h_exp, .inr (4, [.ref h_net, .ref h_tab, .ref h_wlk, .ref h_par, .int exp_explored]))]) [0, 2] (by decide) rfl
      have hFc := va_free (wc := [(h_net, .inr (0, [.ref a_net_sorts, .ref a_net_ranks, .ref a_net_starts, .ref a_net_literals, .ref a_net_nextLiterals, .ref a_net_outputs, .int net_gateTotal, .int net_inputTotal, .int net_latchTotal, .int net_outputTotal])), (h_exp, .inr (4, [.ref h_net, .ref h_tab, .ref h_wlk, .ref h_par, .int exp_explored]))]) hD hS hA [0, 2] rfl
      obtain rfl := Sum.inl.inj (Option.some.inj hm)
      refine sx_callT (As := [.int p0]) (rest := []) ⟨hx, hb, hml, hown, hts⟩ (kt_Exp_requireState l hnt dC dI cI cL cZ t1 t2 h_net a_net_sorts a_net_ranks a_net_starts a_net_literals a_net_nextLiterals a_net_outputs h_exp h_tab h_wlk h_par net_gateTotal net_inputTotal net_latchTotal net_outputTotal exp_explored _ p0 _ hv4) (cwV 1 hts (sx_gV tw_527 tw_529 tw_18 tw_36 tcExp_requireState) rfl rfl rfl (by decide +kernel) ⟨Nat.le_of_ble_eq_true rfl, Nat.le_of_ble_eq_true rfl⟩) (sx_pV hK hX hS hPc hDc hFc (va_recv hK hPc (ci := 4) (q0 := 1) rfl rfl)) rfl hl.1 rfl (lv_room (Nat.le_of_ble_eq_true rfl)) dExp_next_6 ⟨Nat.le_of_ble_eq_true rfl, Nat.le_of_ble_eq_true rfl⟩ (fun ce q H1 z1 z2 z3 z4 z5 => ?_)
      exact sx_out hnx hlocks z3 z4 z5 (Nat.le_of_ble_eq_true rfl) (Nat.le_of_ble_eq_true rfl)
    · have hPc := hP.sub (ws' := [(h_net, .inr (0, [.ref a_net_sorts, .ref a_net_ranks, .ref a_net_starts, .ref a_net_literals, .ref a_net_nextLiterals, .ref a_net_outputs, .int net_gateTotal, .int net_inputTotal, .int net_latchTotal, .int net_outputTotal])), (h_exp, .inr (4, [.ref h_net, .ref h_tab, .ref h_wlk, .ref h_par, .int exp_explored]))]) [0, 2] rfl
      have hDc := hD.sub (ws' := [(h_net, .inr (0, [.ref a_net_sorts, .ref a_net_ranks, .ref a_net_starts, .ref a_net_literals, .ref a_net_nextLiterals, .ref a_net_outputs, .int net_gateTotal, .int net_inputTotal, .int net_latchTotal, .int net_outputTotal])), (h_exp, .inr (4, [.ref h_net, .ref h_tab, .ref h_wlk, .ref h_par, .int exp_explored]))]) [0, 2] (by decide) rfl
      have hFc := va_free (wc := [(h_net, .inr (0, [.ref a_net_sorts, .ref a_net_ranks, .ref a_net_starts, .ref a_net_literals, .ref a_net_nextLiterals, .ref a_net_outputs, .int net_gateTotal, .int net_inputTotal, .int net_latchTotal, .int net_outputTotal])), (h_exp, .inr (4, [.ref h_net, .ref h_tab, .ref h_wlk, .ref h_par, .int exp_explored]))]) hD hS hA [0, 2] rfl
      refine sx_stV (va_runV (As := [.int p0]) (rest := []) ⟨hx, hb, hml, hown, hts⟩ (k_Exp_requireState l dC dI cI cL cZ t1 t2 h_net a_net_sorts a_net_ranks a_net_starts a_net_literals a_net_nextLiterals a_net_outputs h_exp h_tab h_wlk h_par net_gateTotal net_inputTotal net_latchTotal net_outputTotal exp_explored _ p0 () hv4) (cwV 1 hts (sx_gV tw_527 tw_529 tw_18 tw_36 tcExp_requireState) rfl rfl rfl (by decide +kernel) ⟨Nat.le_of_ble_eq_true rfl, Nat.le_of_ble_eq_true rfl⟩) (sx_pV hK hX hS hPc hDc hFc (va_recv hK hPc (ci := 4) (q0 := 1) rfl rfl)) rfl rfl hl.1 rfl (lv_room (Nat.le_of_ble_eq_true rfl)) dExp_next_6 ⟨Nat.le_of_ble_eq_true rfl, Nat.le_of_ble_eq_true rfl⟩) ?_
      refine lv_iload_n hx hb dExp_next_9 rfl (lv_at hl 2 rfl) ?_
      refine lv_if_lt (tgt := 19) hx hb dExp_next_10 (by decide) (fun c7 => ?_) (fun c7 => ?_)
      · have hm := sx_pos c7 hm
        obtain rfl := Sum.inl.inj (Option.some.inj hm)
        exact sx_throwS (cls := "java/lang/IndexOutOfBoundsException") (text := "a choice is 0 to 15") (names := ["java/lang/RuntimeException", "java/lang/Exception"]) hx hb hnt hown (by decide +kernel) (by decide +kernel) (hts _ tw_458) (hts _ tw_46) (hts _ tw_459) (hX.2.2.2.2.2.2.2.1 ("StateExplorer", 126, "a choice is 0 to 15") (by decide +kernel)) (sx_own hts hX sx_og_118 sx_on_118) (hl.1.trans hml.symm) dExp_next_19 dExp_next_22 dExp_next_23 dExp_next_25 dExp_next_28 hnx hlocks (Nat.le_of_ble_eq_true rfl) (Nat.le_of_ble_eq_true rfl) (Nat.le_of_ble_eq_true rfl) (Nat.le_of_ble_eq_true rfl) (Nat.le_of_ble_eq_true rfl) (Nat.le_of_ble_eq_true rfl)
      · have hm := sx_neg c7 hm
        refine lv_iload_n hx hb dExp_next_13 rfl (lv_at hl 2 rfl) ?_
        refine lv_bipush (v := (16 : Int32)) hx hb dExp_next_14 (by decide) ?_
        refine lv_icmp_lt (tgt := 29) hx hb dExp_next_16 (by decide) (fun c8 => ?_) (fun c8 => ?_)
        · have hm := sx_pos c8 hm
          refine lv_aload_n hx hb dExp_next_29 rfl (lv_at hl 0 rfl) ?_
          refine va_get (D := (dC, dI)) (ci := 4) (v := .ref h_tab) (C := RExp) (T := TExp) (N := 5) hx hb hts inExp hown hK hP 2 rfl rfl 1 (by decide) (hts _ tw_194) (fun _ h9 => h9) rfl dExp_next_30 ?_
          refine lv_iload_n hx hb dExp_next_33 rfl (lv_at hl 1 rfl) ?_
          refine lv_iload_n hx hb dExp_next_34 rfl (lv_at hl 2 rfl) ?_
          refine lv_aload_n hx hb dExp_next_35 rfl (lv_at hl 0 rfl) ?_
          refine va_get (D := (dC, dI)) (ci := 4) (v := .ref h_net) (C := RExp) (T := TExp) (N := 5) hx hb hts inExp hown hK hP 2 rfl rfl 0 (by decide) (hts _ tw_193) (fun _ h9 => h9) rfl dExp_next_36 ?_
          obtain ⟨v9, hv9, hm⟩ := sx_bind hm
          have hPc := hP.sub (ws' := [(h_net, .inr (0, [.ref a_net_sorts, .ref a_net_ranks, .ref a_net_starts, .ref a_net_literals, .ref a_net_nextLiterals, .ref a_net_outputs, .int net_gateTotal, .int net_inputTotal, .int net_latchTotal, .int net_outputTotal]))]) [0] rfl
          have hDc := hD.sub (ws' := [(h_net, .inr (0, [.ref a_net_sorts, .ref a_net_ranks, .ref a_net_starts, .ref a_net_literals, .ref a_net_nextLiterals, .ref a_net_outputs, .int net_gateTotal, .int net_inputTotal, .int net_latchTotal, .int net_outputTotal]))]) [0] (by decide) rfl
          have hFc := va_free (wc := [(h_net, .inr (0, [.ref a_net_sorts, .ref a_net_ranks, .ref a_net_starts, .ref a_net_literals, .ref a_net_nextLiterals, .ref a_net_outputs, .int net_gateTotal, .int net_inputTotal, .int net_latchTotal, .int net_outputTotal]))]) hD hS hA [0] rfl
          refine sx_stI (va_runV (As := []) (rest := [.int p1, .int p0, .ref h_tab]) ⟨hx, hb, hml, hown, hts⟩ (k_Net_choiceTotal l dC dI cI cL cZ t1 t2 h_net a_net_sorts a_net_ranks a_net_starts a_net_literals a_net_nextLiterals a_net_outputs net_gateTotal net_inputTotal net_latchTotal net_outputTotal _ v9 hv9) (cwV 0 hts (sx_gV tw_564 tw_270 tw_271 tw_37 tcNet_choiceTotal) rfl rfl rfl (by decide +kernel) ⟨Nat.le_of_ble_eq_true rfl, Nat.le_of_ble_eq_true rfl⟩) (sx_pV hK hX hS hPc hDc hFc (va_recv hK hPc (ci := 0) (q0 := 0) rfl rfl)) rfl rfl hl.1 rfl (lv_room (Nat.le_of_ble_eq_true rfl)) dExp_next_39 ⟨Nat.le_of_ble_eq_true rfl, Nat.le_of_ble_eq_true rfl⟩) ?_
          refine lv_iconst (v := (1 : Int32)) hx hb dExp_next_42 (by decide) ?_
          refine lv_isub hx hb dExp_next_43 ?_
          refine lv_iand hx hb dExp_next_44 ?_
          obtain ⟨v11, hv11, hm⟩ := sx_bind hm
          have hPc := hP.sub (ws' := [(h_tab, .inr (2, [.ref a_tab_known, .ref a_tab_settled, .ref a_tab_values, .ref a_tab_nextStates])), (a_tab_nextStates, .inl (cI, 4096, .inl tab_nextStates))]) [1, 3] rfl
          have hDc := hD.sub (ws' := [(h_tab, .inr (2, [.ref a_tab_known, .ref a_tab_settled, .ref a_tab_values, .ref a_tab_nextStates])), (a_tab_nextStates, .inl (cI, 4096, .inl tab_nextStates))]) [1, 3] (by decide) rfl
          have hFc := va_free (wc := [(h_tab, .inr (2, [.ref a_tab_known, .ref a_tab_settled, .ref a_tab_values, .ref a_tab_nextStates])), (a_tab_nextStates, .inl (cI, 4096, .inl tab_nextStates))]) hD hS hA [1, 3] rfl
          refine sx_stI (va_runV (As := [.int p0, .int (p1 &&& (v9 - (1 : Int32)))]) (rest := []) ⟨hx, hb, hml, hown, hts⟩ (k_Tab_nextOf l dC dI cI cL cZ t1 t2 h_tab a_tab_known a_tab_settled a_tab_values a_tab_nextStates tab_nextStates _ p0 (p1 &&& (v9 - (1 : Int32))) v11 hv11) (cwV 2 hts (sx_gV tw_565 tw_308 tw_309 tw_38 tcTab_nextOf) rfl rfl rfl (by decide +kernel) ⟨Nat.le_of_ble_eq_true rfl, Nat.le_of_ble_eq_true rfl⟩) (sx_pV hK hX hS hPc hDc hFc (va_recv hK hPc (ci := 2) (q0 := 0) rfl rfl)) rfl rfl hl.1 rfl (lv_room (Nat.le_of_ble_eq_true rfl)) dExp_next_45 ⟨Nat.le_of_ble_eq_true rfl, Nat.le_of_ble_eq_true rfl⟩) ?_
          cases hm
        · have hm := sx_neg c8 hm
          obtain rfl := Sum.inl.inj (Option.some.inj hm)
          exact sx_throwS (cls := "java/lang/IndexOutOfBoundsException") (text := "a choice is 0 to 15") (names := ["java/lang/RuntimeException", "java/lang/Exception"]) hx hb hnt hown (by decide +kernel) (by decide +kernel) (hts _ tw_458) (hts _ tw_46) (hts _ tw_459) (hX.2.2.2.2.2.2.2.1 ("StateExplorer", 126, "a choice is 0 to 15") (by decide +kernel)) (sx_own hts hX sx_og_118 sx_on_118) (hl.1.trans hml.symm) dExp_next_19 dExp_next_22 dExp_next_23 dExp_next_25 dExp_next_28 hnx hlocks (Nat.le_of_ble_eq_true rfl) (Nat.le_of_ble_eq_true rfl) (Nat.le_of_ble_eq_true rfl) (Nat.le_of_ble_eq_true rfl) (Nat.le_of_ble_eq_true rfl) (Nat.le_of_ble_eq_true rfl)
noncomputable def m_Exp_doubt (wlk_distances : Nat → Int32) (wlk_doubtState wlk_doubtChoice exp_explored : Int32) (p0 : Int32) : Option (Nat ⊕ (Int32)) := (m_Exp_requireExplored exp_explored).bind (Sum.elim (fun k => some (.inl k)) (fun _ => (if p0 < (0 : Int32) then some (.inl 2) else (if p0 ≤ (2 : Int32) then (if wlk_doubtState = (-1 : Int32) then some (.inr (-1 : Int32)) else (if p0 = (0 : Int32) then gd (vp_in wlk_doubtState 256) (some (.inr (wlk_distances wlk_doubtState.toNatClampNeg))) else (if p0 = (1 : Int32) then some (.inr wlk_doubtState) else some (.inr wlk_doubtChoice)))) else some (.inl 2)))))
def rm_Exp_doubt : Room := { frames := 1, cells := 0, slots := 0, locals := 20 }
def rmt_Exp_doubt : Room := { frames := 7, cells := 1, slots := 6, locals := 120 }
set_option maxHeartbeats 4000000 in
set_option maxRecDepth 100000 in
theorem k_Exp_doubt (l : Launch) (dC : Nat → ClassId) (dI : Nat → Nat → Nat) (cI cL cZ : ClassId) (t1 t2 : Nat) (h_wlk a_wlk_distances a_wlk_order a_wlk_parents a_wlk_steps a_wlk_settledPairs h_exp h_net h_tab h_par : Nat) (wlk_distances : Nat → Int32) (wlk_words wlk_reached wlk_doubts wlk_doubtState wlk_doubtChoice exp_explored : Int32) (sz : Nat) (p0 : Int32) (v : Int32) (hm : m_Exp_doubt wlk_distances wlk_doubtState wlk_doubtChoice exp_explored p0 = some (.inr v)) : Met l yExp_doubt wsExp_doubt rm_Exp_doubt (sx_Pc (dC, dI) [(cI, .int), (cL, .long), (cZ, .boolean)] t1 t2 [(h_wlk, .inr (3, [.ref a_wlk_distances, .ref a_wlk_order, .ref a_wlk_parents, .ref a_wlk_steps, .ref a_wlk_settledPairs, .int wlk_words, .int wlk_reached, .int wlk_doubts, .int wlk_doubtState, .int wlk_doubtChoice])), (h_exp, .inr (4, [.ref h_net, .ref h_tab, .ref h_wlk, .ref h_par, .int exp_explored])), (a_wlk_distances, .inl (cI, 256, .inl wlk_distances))] sz [.ref h_exp, .int p0]) (sx_Si v) 0 0 (fun _ => False) := by
  refine Met.ofW (cc := cExp_doubt) (maxL := 2) (ret := (some .int)) (by decide) rfl ?_
  intro p e s m args below meth c s₁ B hml hv
  obtain ⟨rfl, hsz, hP, hK, hD0, hX⟩ := hv
  have hx := B.exec
  have hb := B.bytes
  have hr := B.returns
  have hts0 := atoms_spec (ws := wsExp_doubt) B.pre
  have hts : ∀ w ∈ tb, w.before _ s = true := fun w h => hts0 w (List.mem_cons_of_mem _ h)
  have hown : s.vm.findClass "StateExplorer" = some m.cls := findClass_of_methodNamed B.named
  have hlocks := B.notSynchronized
  subst hsz
  have hD := hD0.self (sz := s.heap.size)
  generalize hAe : va_A [(h_wlk, .inr (3, [.ref a_wlk_distances, .ref a_wlk_order, .ref a_wlk_parents, .ref a_wlk_steps, .ref a_wlk_settledPairs, .int wlk_words, .int wlk_reached, .int wlk_doubts, .int wlk_doubtState, .int wlk_doubtChoice])), (h_exp, .inr (4, [.ref h_net, .ref h_tab, .ref h_wlk, .ref h_par, .int exp_explored])), (a_wlk_distances, .inl (cI, 256, .inl wlk_distances))] s.heap.size = A at hD hX 
  have hA : ∀ q : Nat, s.heap.size ≤ q → A q := fun q h => by rw [← hAe]; exact Or.inr h
  have hS : va_S A s.heap s.heap [] := va_S.rf
  have hl := lv_entry ([.ref h_exp, .int p0]) (n := 2) (Nat.le_of_ble_eq_true rfl)
  rw [lg_entry_eq]
  generalize (lg_sl ([.ref h_exp, .int p0]) ++ List.replicate (2 - (lg_sl ([.ref h_exp, .int p0])).length) Slot.unset).toArray = ls at hl ⊢
  have hl : lv_has ls 2 [(0, .ref h_exp), (1, .int p0)] := hl
  have C0 : sx_C p s m _ meth c cExp_doubt 2 "StateExplorer" A (dC, dI) [(cI, .int), (cL, .long), (cZ, .boolean)] t1 t2 := ⟨hx, hb, hml, hown, hts, hA, hK, hlocks, hX⟩
  rw [m_Exp_doubt] at hm
  refine lv_aload_n hx hb dExp_doubt_0 rfl (lv_at hl 0 rfl) ?_
  obtain ⟨v1, hv1, hm⟩ := sx_bind hm
  rcases v1 with k9 | u9
  · cases hm
  · have hPc := hP.sub (ws' := [(h_exp, .inr (4, [.ref h_net, .ref h_tab, .ref h_wlk, .ref h_par, .int exp_explored]))]) [1] rfl
    have hDc := hD.sub (ws' := [(h_exp, .inr (4, [.ref h_net, .ref h_tab, .ref h_wlk, .ref h_par, .int exp_explored]))]) [1] (by decide) rfl
    have hFc := va_free (wc := [(h_exp, .inr (4, [.ref h_net, .ref h_tab, .ref h_wlk, .ref h_par, .int exp_explored]))]) hD hS hA [1] rfl
    refine sx_stV (va_runV (As := []) (rest := []) ⟨hx, hb, hml, hown, hts⟩ (k_Exp_requireExplored l dC dI cI cL cZ t1 t2 h_exp h_net h_tab h_wlk h_par exp_explored _ () hv1) (cwV 0 hts (sx_gV tw_522 tw_524 tw_17 tw_36 tcExp_requireExplored) rfl rfl rfl (by decide +kernel) ⟨Nat.le_of_ble_eq_true rfl, Nat.le_of_ble_eq_true rfl⟩) (sx_pV hK hX hS hPc hDc hFc (va_recv hK hPc (ci := 4) (q0 := 0) rfl rfl)) rfl rfl hl.1 rfl (lv_room (Nat.le_of_ble_eq_true rfl)) dExp_doubt_1 ⟨Nat.le_of_ble_eq_true rfl, Nat.le_of_ble_eq_true rfl⟩) ?_
    refine lv_iload_n hx hb dExp_doubt_4 rfl (lv_at hl 1 rfl) ?_
    refine lv_if_lt (tgt := 13) hx hb dExp_doubt_5 (by decide) (fun c4 => ?_) (fun c4 => ?_)
    · have hm := sx_pos c4 hm
      cases hm
    · have hm := sx_neg c4 hm
      refine lv_iload_n hx hb dExp_doubt_8 rfl (lv_at hl 1 rfl) ?_
      refine lv_iconst (v := (2 : Int32)) hx hb dExp_doubt_9 (by decide) ?_
      refine lv_icmp_le (tgt := 23) hx hb dExp_doubt_10 (by decide) (fun c5 => ?_) (fun c5 => ?_)
      · have hm := sx_pos c5 hm
        refine lv_aload_n hx hb dExp_doubt_23 rfl (lv_at hl 0 rfl) ?_
        refine va_get (D := (dC, dI)) (ci := 4) (v := .ref h_wlk) (C := RExp) (T := TExp) (N := 5) hx hb hts inExp hown hK hP 1 rfl rfl 2 (by decide) (hts _ tw_195) (fun _ h9 => h9) rfl dExp_doubt_24 ?_
        refine va_get (D := (dC, dI)) (ci := 3) (v := .int wlk_doubtState) (C := RWlk) (T := TWlk) (N := 10) hx hb hts inWlk hown hK hP 0 rfl rfl 8 (by decide) (hts _ tw_148) (fun _ h9 => h9) rfl dExp_doubt_27 ?_
        refine lv_iconst (v := (-1 : Int32)) hx hb dExp_doubt_30 (by decide) ?_
        refine lv_icmp_ne (tgt := 36) hx hb dExp_doubt_31 (by decide) (fun c6 => ?_) (fun c6 => ?_)
        · have hm := sx_neg c6 hm
          refine lv_iload_n hx hb dExp_doubt_36 rfl (lv_at hl 1 rfl) ?_
          refine lv_if_ne (tgt := 56) hx hb dExp_doubt_37 (by decide) (fun c7 => ?_) (fun c7 => ?_)
          · have hm := sx_neg c7 hm
            refine lv_iload_n hx hb dExp_doubt_56 rfl (lv_at hl 1 rfl) ?_
            refine lv_iconst (v := (1 : Int32)) hx hb dExp_doubt_57 (by decide) ?_
            refine lv_icmp_ne (tgt := 71) hx hb dExp_doubt_58 (by decide) (fun c8 => ?_) (fun c8 => ?_)
            · have hm := sx_neg c8 hm
              refine lv_aload_n hx hb dExp_doubt_71 rfl (lv_at hl 0 rfl) ?_
              refine va_get (D := (dC, dI)) (ci := 4) (v := .ref h_wlk) (C := RExp) (T := TExp) (N := 5) hx hb hts inExp hown hK hP 1 rfl rfl 2 (by decide) (hts _ tw_195) (fun _ h9 => h9) rfl dExp_doubt_72 ?_
              refine va_get (D := (dC, dI)) (ci := 3) (v := .int wlk_doubtChoice) (C := RWlk) (T := TWlk) (N := 10) hx hb hts inWlk hown hK hP 0 rfl rfl 9 (by decide) (hts _ tw_150) (fun _ h9 => h9) rfl dExp_doubt_75 ?_
              obtain rfl := Sum.inr.inj (Option.some.inj hm)
              exact W.iret (v := wlk_doubtChoice) hx hb hr (fun t ht hW => ⟨rfl, ht⟩) (fun q hq => nomatch hq) dExp_doubt_78
            · have hm := sx_pos c8 hm
              refine lv_aload_n hx hb dExp_doubt_61 rfl (lv_at hl 0 rfl) ?_
              refine va_get (D := (dC, dI)) (ci := 4) (v := .ref h_wlk) (C := RExp) (T := TExp) (N := 5) hx hb hts inExp hown hK hP 1 rfl rfl 2 (by decide) (hts _ tw_195) (fun _ h9 => h9) rfl dExp_doubt_62 ?_
              refine va_get (D := (dC, dI)) (ci := 3) (v := .int wlk_doubtState) (C := RWlk) (T := TWlk) (N := 10) hx hb hts inWlk hown hK hP 0 rfl rfl 8 (by decide) (hts _ tw_148) (fun _ h9 => h9) rfl dExp_doubt_65 ?_
              refine lv_goto (tgt := 78) hx hb dExp_doubt_68 (by decide) ?_
              obtain rfl := Sum.inr.inj (Option.some.inj hm)
              exact W.iret (v := wlk_doubtState) hx hb hr (fun t ht hW => ⟨rfl, ht⟩) (fun q hq => nomatch hq) dExp_doubt_78
          · have hm := sx_pos c7 hm
            refine lv_aload_n hx hb dExp_doubt_40 rfl (lv_at hl 0 rfl) ?_
            refine va_get (D := (dC, dI)) (ci := 4) (v := .ref h_wlk) (C := RExp) (T := TExp) (N := 5) hx hb hts inExp hown hK hP 1 rfl rfl 2 (by decide) (hts _ tw_195) (fun _ h9 => h9) rfl dExp_doubt_41 ?_
            refine va_get (D := (dC, dI)) (ci := 3) (v := .ref a_wlk_distances) (C := RWlk) (T := TWlk) (N := 10) hx hb hts inWlk hown hK hP 0 rfl rfl 0 (by decide) (hts _ tw_137) (fun _ h9 => h9) rfl dExp_doubt_44 ?_
            refine lv_aload_n hx hb dExp_doubt_47 rfl (lv_at hl 0 rfl) ?_
            refine va_get (D := (dC, dI)) (ci := 4) (v := .ref h_wlk) (C := RExp) (T := TExp) (N := 5) hx hb hts inExp hown hK hP 1 rfl rfl 2 (by decide) (hts _ tw_195) (fun _ h9 => h9) rfl dExp_doubt_48 ?_
            refine va_get (D := (dC, dI)) (ci := 3) (v := .int wlk_doubtState) (C := RWlk) (T := TWlk) (N := 10) hx hb hts inWlk hown hK hP 0 rfl rfl 8 (by decide) (hts _ tw_148) (fun _ h9 => h9) rfl dExp_doubt_51 ?_
            obtain ⟨g9, hm⟩ := gd_el hm
            refine va_iald hx hb hK hP 2 0 rfl rfl g9 dExp_doubt_54 ?_
            obtain rfl := Sum.inr.inj (Option.some.inj hm)
            exact W.iret (v := wlk_distances wlk_doubtState.toNatClampNeg) hx hb hr (fun t ht hW => ⟨rfl, ht⟩) (fun q hq => nomatch hq) dExp_doubt_55
        · have hm := sx_pos c6 hm
          refine lv_iconst (v := (-1 : Int32)) hx hb dExp_doubt_34 (by decide) ?_
          obtain rfl := Sum.inr.inj (Option.some.inj hm)
          exact W.iret (v := (-1 : Int32)) hx hb hr (fun t ht hW => ⟨rfl, ht⟩) (fun q hq => nomatch hq) dExp_doubt_35
      · have hm := sx_neg c5 hm
        cases hm
set_option maxHeartbeats 4000000 in
set_option maxRecDepth 100000 in
theorem kt_Exp_doubt (l : Launch) (hnt : l.stackTraces = false) (dC : Nat → ClassId) (dI : Nat → Nat → Nat) (cI cL cZ : ClassId) (t1 t2 : Nat) (h_wlk a_wlk_distances a_wlk_order a_wlk_parents a_wlk_steps a_wlk_settledPairs h_exp h_net h_tab h_par : Nat) (wlk_distances : Nat → Int32) (wlk_words wlk_reached wlk_doubts wlk_doubtState wlk_doubtChoice exp_explored : Int32) (sz : Nat) (p0 : Int32) (k : Nat) (hm : m_Exp_doubt wlk_distances wlk_doubtState wlk_doubtChoice exp_explored p0 = some (.inl k)) : sx_Thr l yExp_doubt wsExp_doubt rmt_Exp_doubt (sx_Pc (dC, dI) [(cI, .int), (cL, .long), (cZ, .boolean)] t1 t2 [(h_wlk, .inr (3, [.ref a_wlk_distances, .ref a_wlk_order, .ref a_wlk_parents, .ref a_wlk_steps, .ref a_wlk_settledPairs, .int wlk_words, .int wlk_reached, .int wlk_doubts, .int wlk_doubtState, .int wlk_doubtChoice])), (h_exp, .inr (4, [.ref h_net, .ref h_tab, .ref h_wlk, .ref h_par, .int exp_explored])), (a_wlk_distances, .inl (cI, 256, .inl wlk_distances))] sz [.ref h_exp, .int p0]) (sx_E k) 1 6 := by
  refine sx_thrOf (cc := cExp_doubt) (maxL := 2) (ret := (some .int)) (by decide) rfl ?_
  intro p e s m args below meth c s₁ B hml hnx hv
  obtain ⟨rfl, hsz, hP, hK, hD0, hX⟩ := hv
  have hx := B.exec
  have hb := B.bytes
  have hr := B.returns
  have hts0 := atoms_spec (ws := wsExp_doubt) B.pre
  have hts : ∀ w ∈ tb, w.before _ s = true := fun w h => hts0 w (List.mem_cons_of_mem _ h)
  have hown : s.vm.findClass "StateExplorer" = some m.cls := findClass_of_methodNamed B.named
  have hlocks := B.notSynchronized
  subst hsz
  have hD := hD0.self (sz := s.heap.size)
  generalize hAe : va_A [(h_wlk, .inr (3, [.ref a_wlk_distances, .ref a_wlk_order, .ref a_wlk_parents, .ref a_wlk_steps, .ref a_wlk_settledPairs, .int wlk_words, .int wlk_reached, .int wlk_doubts, .int wlk_doubtState, .int wlk_doubtChoice])), (h_exp, .inr (4, [.ref h_net, .ref h_tab, .ref h_wlk, .ref h_par, .int exp_explored])), (a_wlk_distances, .inl (cI, 256, .inl wlk_distances))] s.heap.size = A at hD hX 
  have hA : ∀ q : Nat, s.heap.size ≤ q → A q := fun q h => by rw [← hAe]; exact Or.inr h
  have hS : va_S A s.heap s.heap [] := va_S.rf
  have hl := lv_entry ([.ref h_exp, .int p0]) (n := 2) (Nat.le_of_ble_eq_true rfl)
  rw [lg_entry_eq]
  generalize (lg_sl ([.ref h_exp, .int p0]) ++ List.replicate (2 - (lg_sl ([.ref h_exp, .int p0])).length) Slot.unset).toArray = ls at hl ⊢
  have hl : lv_has ls 2 [(0, .ref h_exp), (1, .int p0)] := hl
  have C0 : sx_C p s m _ meth c cExp_doubt 2 "StateExplorer" A (dC, dI) [(cI, .int), (cL, .long), (cZ, .boolean)] t1 t2 := ⟨hx, hb, hml, hown, hts, hA, hK, hlocks, hX⟩
  rw [m_Exp_doubt] at hm
  refine lv_aload_n hx hb dExp_doubt_0 rfl (lv_at hl 0 rfl) ?_
  obtain ⟨v1, hv1, hm⟩ := sx_bind hm
  rcases v1 with k9 | u9
  · have hPc := hP.sub (ws' := [(h_exp, .inr (4, [.ref h_net, .ref h_tab, .ref h_wlk, .ref h_par, .int exp_explored]))]) [1] rfl
    have hDc := hD.sub (ws' := [(h_exp, .inr (4, [.ref h_net, .ref h_tab, .ref h_wlk, .ref h_par, .int exp_explored]))]) [1] (by decide) rfl
    have hFc := va_free (wc := [(h_exp, .inr (4, [.ref h_net, .ref h_tab, .ref h_wlk, .ref h_par, .int exp_explored]))]) hD hS hA [1] rfl
    obtain rfl := Sum.inl.inj (Option.some.inj hm)
    refine sx_callT (As := []) (rest := []) ⟨hx, hb, hml, hown, hts⟩ (kt_Exp_requireExplored l hnt dC dI cI cL cZ t1 t2 h_exp h_net h_tab h_wlk h_par exp_explored _ _ hv1) (cwV 0 hts (sx_gV tw_522 tw_524 tw_17 tw_36 tcExp_requireExplored) rfl rfl rfl (by decide +kernel) ⟨Nat.le_of_ble_eq_true rfl, Nat.le_of_ble_eq_true rfl⟩) (sx_pV hK hX hS hPc hDc hFc (va_recv hK hPc (ci := 4) (q0 := 0) rfl rfl)) rfl hl.1 rfl (lv_room (Nat.le_of_ble_eq_true rfl)) dExp_doubt_1 ⟨Nat.le_of_ble_eq_true rfl, Nat.le_of_ble_eq_true rfl⟩ (fun ce q H1 z1 z2 z3 z4 z5 => ?_)
    exact sx_out hnx hlocks z3 z4 z5 (Nat.le_of_ble_eq_true rfl) (Nat.le_of_ble_eq_true rfl)
  · have hPc := hP.sub (ws' := [(h_exp, .inr (4, [.ref h_net, .ref h_tab, .ref h_wlk, .ref h_par, .int exp_explored]))]) [1] rfl
    have hDc := hD.sub (ws' := [(h_exp, .inr (4, [.ref h_net, .ref h_tab, .ref h_wlk, .ref h_par, .int exp_explored]))]) [1] (by decide) rfl
    have hFc := va_free (wc := [(h_exp, .inr (4, [.ref h_net, .ref h_tab, .ref h_wlk, .ref h_par, .int exp_explored]))]) hD hS hA [1] rfl
    refine sx_stV (va_runV (As := []) (rest := []) ⟨hx, hb, hml, hown, hts⟩ (k_Exp_requireExplored l dC dI cI cL cZ t1 t2 h_exp h_net h_tab h_wlk h_par exp_explored _ () hv1) (cwV 0 hts (sx_gV tw_522 tw_524 tw_17 tw_36 tcExp_requireExplored) rfl rfl rfl (by decide +kernel) ⟨Nat.le_of_ble_eq_true rfl, Nat.le_of_ble_eq_true rfl⟩) (sx_pV hK hX hS hPc hDc hFc (va_recv hK hPc (ci := 4) (q0 := 0) rfl rfl)) rfl rfl hl.1 rfl (lv_room (Nat.le_of_ble_eq_true rfl)) dExp_doubt_1 ⟨Nat.le_of_ble_eq_true rfl, Nat.le_of_ble_eq_true rfl⟩) ?_
    refine lv_iload_n hx hb dExp_doubt_4 rfl (lv_at hl 1 rfl) ?_
    refine lv_if_lt (tgt := 13) hx hb dExp_doubt_5 (by decide) (fun c4 => ?_) (fun c4 => ?_)
    · have hm := sx_pos c4 hm
      obtain rfl := Sum.inl.inj (Option.some.inj hm)
      exact sx_throwS (cls := "java/lang/IndexOutOfBoundsException") (text := "a doubt is asked for by 0 to 2") (names := ["java/lang/RuntimeException", "java/lang/Exception"]) hx hb hnt hown (by decide +kernel) (by decide +kernel) (hts _ tw_458) (hts _ tw_46) (hts _ tw_459) (hX.2.2.2.2.2.2.2.1 ("StateExplorer", 134, "a doubt is asked for by 0 to 2") (by decide +kernel)) (sx_own hts hX sx_og_118 sx_on_118) (hl.1.trans hml.symm) dExp_doubt_13 dExp_doubt_16 dExp_doubt_17 dExp_doubt_19 dExp_doubt_22 hnx hlocks (Nat.le_of_ble_eq_true rfl) (Nat.le_of_ble_eq_true rfl) (Nat.le_of_ble_eq_true rfl) (Nat.le_of_ble_eq_true rfl) (Nat.le_of_ble_eq_true rfl) (Nat.le_of_ble_eq_true rfl)
    · have hm := sx_neg c4 hm
      refine lv_iload_n hx hb dExp_doubt_8 rfl (lv_at hl 1 rfl) ?_
      refine lv_iconst (v := (2 : Int32)) hx hb dExp_doubt_9 (by decide) ?_
      refine lv_icmp_le (tgt := 23) hx hb dExp_doubt_10 (by decide) (fun c5 => ?_) (fun c5 => ?_)
      · have hm := sx_pos c5 hm
        refine lv_aload_n hx hb dExp_doubt_23 rfl (lv_at hl 0 rfl) ?_
        refine va_get (D := (dC, dI)) (ci := 4) (v := .ref h_wlk) (C := RExp) (T := TExp) (N := 5) hx hb hts inExp hown hK hP 1 rfl rfl 2 (by decide) (hts _ tw_195) (fun _ h9 => h9) rfl dExp_doubt_24 ?_
        refine va_get (D := (dC, dI)) (ci := 3) (v := .int wlk_doubtState) (C := RWlk) (T := TWlk) (N := 10) hx hb hts inWlk hown hK hP 0 rfl rfl 8 (by decide) (hts _ tw_148) (fun _ h9 => h9) rfl dExp_doubt_27 ?_
        refine lv_iconst (v := (-1 : Int32)) hx hb dExp_doubt_30 (by decide) ?_
        refine lv_icmp_ne (tgt := 36) hx hb dExp_doubt_31 (by decide) (fun c6 => ?_) (fun c6 => ?_)
        · have hm := sx_neg c6 hm
          refine lv_iload_n hx hb dExp_doubt_36 rfl (lv_at hl 1 rfl) ?_
          refine lv_if_ne (tgt := 56) hx hb dExp_doubt_37 (by decide) (fun c7 => ?_) (fun c7 => ?_)
          · have hm := sx_neg c7 hm
            refine lv_iload_n hx hb dExp_doubt_56 rfl (lv_at hl 1 rfl) ?_
            refine lv_iconst (v := (1 : Int32)) hx hb dExp_doubt_57 (by decide) ?_
            refine lv_icmp_ne (tgt := 71) hx hb dExp_doubt_58 (by decide) (fun c8 => ?_) (fun c8 => ?_)
            · have hm := sx_neg c8 hm
              refine lv_aload_n hx hb dExp_doubt_71 rfl (lv_at hl 0 rfl) ?_
              refine va_get (D := (dC, dI)) (ci := 4) (v := .ref h_wlk) (C := RExp) (T := TExp) (N := 5) hx hb hts inExp hown hK hP 1 rfl rfl 2 (by decide) (hts _ tw_195) (fun _ h9 => h9) rfl dExp_doubt_72 ?_
              refine va_get (D := (dC, dI)) (ci := 3) (v := .int wlk_doubtChoice) (C := RWlk) (T := TWlk) (N := 10) hx hb hts inWlk hown hK hP 0 rfl rfl 9 (by decide) (hts _ tw_150) (fun _ h9 => h9) rfl dExp_doubt_75 ?_
              cases hm
            · have hm := sx_pos c8 hm
              refine lv_aload_n hx hb dExp_doubt_61 rfl (lv_at hl 0 rfl) ?_
              refine va_get (D := (dC, dI)) (ci := 4) (v := .ref h_wlk) (C := RExp) (T := TExp) (N := 5) hx hb hts inExp hown hK hP 1 rfl rfl 2 (by decide) (hts _ tw_195) (fun _ h9 => h9) rfl dExp_doubt_62 ?_
              refine va_get (D := (dC, dI)) (ci := 3) (v := .int wlk_doubtState) (C := RWlk) (T := TWlk) (N := 10) hx hb hts inWlk hown hK hP 0 rfl rfl 8 (by decide) (hts _ tw_148) (fun _ h9 => h9) rfl dExp_doubt_65 ?_
              refine lv_goto (tgt := 78) hx hb dExp_doubt_68 (by decide) ?_
              cases hm
          · have hm := sx_pos c7 hm
            refine lv_aload_n hx hb dExp_doubt_40 rfl (lv_at hl 0 rfl) ?_
            refine va_get (D := (dC, dI)) (ci := 4) (v := .ref h_wlk) (C := RExp) (T := TExp) (N := 5) hx hb hts inExp hown hK hP 1 rfl rfl 2 (by decide) (hts _ tw_195) (fun _ h9 => h9) rfl dExp_doubt_41 ?_
            refine va_get (D := (dC, dI)) (ci := 3) (v := .ref a_wlk_distances) (C := RWlk) (T := TWlk) (N := 10) hx hb hts inWlk hown hK hP 0 rfl rfl 0 (by decide) (hts _ tw_137) (fun _ h9 => h9) rfl dExp_doubt_44 ?_
            refine lv_aload_n hx hb dExp_doubt_47 rfl (lv_at hl 0 rfl) ?_
            refine va_get (D := (dC, dI)) (ci := 4) (v := .ref h_wlk) (C := RExp) (T := TExp) (N := 5) hx hb hts inExp hown hK hP 1 rfl rfl 2 (by decide) (hts _ tw_195) (fun _ h9 => h9) rfl dExp_doubt_48 ?_
            refine va_get (D := (dC, dI)) (ci := 3) (v := .int wlk_doubtState) (C := RWlk) (T := TWlk) (N := 10) hx hb hts inWlk hown hK hP 0 rfl rfl 8 (by decide) (hts _ tw_148) (fun _ h9 => h9) rfl dExp_doubt_51 ?_
            obtain ⟨g9, hm⟩ := gd_el hm
            refine va_iald hx hb hK hP 2 0 rfl rfl g9 dExp_doubt_54 ?_
            cases hm
        · have hm := sx_pos c6 hm
          refine lv_iconst (v := (-1 : Int32)) hx hb dExp_doubt_34 (by decide) ?_
          cases hm
      · have hm := sx_neg c5 hm
        obtain rfl := Sum.inl.inj (Option.some.inj hm)
        exact sx_throwS (cls := "java/lang/IndexOutOfBoundsException") (text := "a doubt is asked for by 0 to 2") (names := ["java/lang/RuntimeException", "java/lang/Exception"]) hx hb hnt hown (by decide +kernel) (by decide +kernel) (hts _ tw_458) (hts _ tw_46) (hts _ tw_459) (hX.2.2.2.2.2.2.2.1 ("StateExplorer", 134, "a doubt is asked for by 0 to 2") (by decide +kernel)) (sx_own hts hX sx_og_118 sx_on_118) (hl.1.trans hml.symm) dExp_doubt_13 dExp_doubt_16 dExp_doubt_17 dExp_doubt_19 dExp_doubt_22 hnx hlocks (Nat.le_of_ble_eq_true rfl) (Nat.le_of_ble_eq_true rfl) (Nat.le_of_ble_eq_true rfl) (Nat.le_of_ble_eq_true rfl) (Nat.le_of_ble_eq_true rfl) (Nat.le_of_ble_eq_true rfl)
noncomputable def m_Exp_always (net_gateTotal : Int32) (tab_values wlk_settledPairs : Nat → Int64) (wlk_words exp_explored : Int32) (p0 : Int32) : Option (Nat ⊕ (Int32)) := (m_Exp_requireExplored exp_explored).bind (Sum.elim (fun k => some (.inl k)) (fun _ => (m_Exp_requireGate net_gateTotal p0).bind (Sum.elim (fun k => some (.inl k)) (fun _ => (m_Wlk_isEver tab_values wlk_settledPairs wlk_words p0 (1 : Int32)).bind (fun v7 => (m_Wlk_isEver tab_values wlk_settledPairs wlk_words p0 (0 : Int32)).bind (fun v9 => (if v7 = v9 then some (.inr (2 : Int32)) else (if v7 = (0 : Int32) then some (.inr (0 : Int32)) else some (.inr (1 : Int32))))))))))
def rm_Exp_always : Room := { frames := 1, cells := 0, slots := 0, locals := 28 }
def rmt_Exp_always : Room := { frames := 7, cells := 1, slots := 6, locals := 121 }
set_option maxHeartbeats 4000000 in
set_option maxRecDepth 100000 in
theorem k_Exp_always (l : Launch) (dC : Nat → ClassId) (dI : Nat → Nat → Nat) (cI cL cZ : ClassId) (t1 t2 : Nat) (h_net a_net_sorts a_net_ranks a_net_starts a_net_literals a_net_nextLiterals a_net_outputs h_tab a_tab_known a_tab_settled a_tab_values a_tab_nextStates h_wlk a_wlk_distances a_wlk_order a_wlk_parents a_wlk_steps a_wlk_settledPairs h_exp h_par : Nat) (net_gateTotal net_inputTotal net_latchTotal net_outputTotal : Int32) (tab_values wlk_settledPairs : Nat → Int64) (wlk_words wlk_reached wlk_doubts wlk_doubtState wlk_doubtChoice exp_explored : Int32) (sz : Nat) (p0 : Int32) (v : Int32) (hm : m_Exp_always net_gateTotal tab_values wlk_settledPairs wlk_words exp_explored p0 = some (.inr v)) : Met l yExp_always wsExp_always rm_Exp_always (sx_Pc (dC, dI) [(cI, .int), (cL, .long), (cZ, .boolean)] t1 t2 [(h_net, .inr (0, [.ref a_net_sorts, .ref a_net_ranks, .ref a_net_starts, .ref a_net_literals, .ref a_net_nextLiterals, .ref a_net_outputs, .int net_gateTotal, .int net_inputTotal, .int net_latchTotal, .int net_outputTotal])), (h_tab, .inr (2, [.ref a_tab_known, .ref a_tab_settled, .ref a_tab_values, .ref a_tab_nextStates])), (h_wlk, .inr (3, [.ref a_wlk_distances, .ref a_wlk_order, .ref a_wlk_parents, .ref a_wlk_steps, .ref a_wlk_settledPairs, .int wlk_words, .int wlk_reached, .int wlk_doubts, .int wlk_doubtState, .int wlk_doubtChoice])), (h_exp, .inr (4, [.ref h_net, .ref h_tab, .ref h_wlk, .ref h_par, .int exp_explored])), (a_tab_values, .inl (cL, 3840, .inr (.inl tab_values))), (a_wlk_settledPairs, .inl (cL, 64, .inr (.inl wlk_settledPairs)))] sz [.ref h_exp, .int p0]) (sx_Si v) 0 0 (fun _ => False) := by
  refine Met.ofW (cc := cExp_always) (maxL := 4) (ret := (some .int)) (by decide) rfl ?_
  intro p e s m args below meth c s₁ B hml hv
  obtain ⟨rfl, hsz, hP, hK, hD0, hX⟩ := hv
  have hx := B.exec
  have hb := B.bytes
  have hr := B.returns
  have hts0 := atoms_spec (ws := wsExp_always) B.pre
  have hts : ∀ w ∈ tb, w.before _ s = true := fun w h => hts0 w (List.mem_cons_of_mem _ h)
  have hown : s.vm.findClass "StateExplorer" = some m.cls := findClass_of_methodNamed B.named
  have hlocks := B.notSynchronized
  subst hsz
  have hD := hD0.self (sz := s.heap.size)
  generalize hAe : va_A [(h_net, .inr (0, [.ref a_net_sorts, .ref a_net_ranks, .ref a_net_starts, .ref a_net_literals, .ref a_net_nextLiterals, .ref a_net_outputs, .int net_gateTotal, .int net_inputTotal, .int net_latchTotal, .int net_outputTotal])), (h_tab, .inr (2, [.ref a_tab_known, .ref a_tab_settled, .ref a_tab_values, .ref a_tab_nextStates])), (h_wlk, .inr (3, [.ref a_wlk_distances, .ref a_wlk_order, .ref a_wlk_parents, .ref a_wlk_steps, .ref a_wlk_settledPairs, .int wlk_words, .int wlk_reached, .int wlk_doubts, .int wlk_doubtState, .int wlk_doubtChoice])), (h_exp, .inr (4, [.ref h_net, .ref h_tab, .ref h_wlk, .ref h_par, .int exp_explored])), (a_tab_values, .inl (cL, 3840, .inr (.inl tab_values))), (a_wlk_settledPairs, .inl (cL, 64, .inr (.inl wlk_settledPairs)))] s.heap.size = A at hD hX 
  have hA : ∀ q : Nat, s.heap.size ≤ q → A q := fun q h => by rw [← hAe]; exact Or.inr h
  have hS : va_S A s.heap s.heap [] := va_S.rf
  have hl := lv_entry ([.ref h_exp, .int p0]) (n := 4) (Nat.le_of_ble_eq_true rfl)
  rw [lg_entry_eq]
  generalize (lg_sl ([.ref h_exp, .int p0]) ++ List.replicate (4 - (lg_sl ([.ref h_exp, .int p0])).length) Slot.unset).toArray = ls at hl ⊢
  have hl : lv_has ls 4 [(0, .ref h_exp), (1, .int p0)] := hl
  have C0 : sx_C p s m _ meth c cExp_always 4 "StateExplorer" A (dC, dI) [(cI, .int), (cL, .long), (cZ, .boolean)] t1 t2 := ⟨hx, hb, hml, hown, hts, hA, hK, hlocks, hX⟩
  rw [m_Exp_always] at hm
  refine lv_aload_n hx hb dExp_always_0 rfl (lv_at hl 0 rfl) ?_
  obtain ⟨v1, hv1, hm⟩ := sx_bind hm
  rcases v1 with k9 | u9
  · cases hm
  · have hPc := hP.sub (ws' := [(h_exp, .inr (4, [.ref h_net, .ref h_tab, .ref h_wlk, .ref h_par, .int exp_explored]))]) [3] rfl
    have hDc := hD.sub (ws' := [(h_exp, .inr (4, [.ref h_net, .ref h_tab, .ref h_wlk, .ref h_par, .int exp_explored]))]) [3] (by decide) rfl
    have hFc := va_free (wc := [(h_exp, .inr (4, [.ref h_net, .ref h_tab, .ref h_wlk, .ref h_par, .int exp_explored]))]) hD hS hA [3] rfl
    refine sx_stV (va_runV (As := []) (rest := []) ⟨hx, hb, hml, hown, hts⟩ (k_Exp_requireExplored l dC dI cI cL cZ t1 t2 h_exp h_net h_tab h_wlk h_par exp_explored _ () hv1) (cwV 0 hts (sx_gV tw_522 tw_524 tw_17 tw_36 tcExp_requireExplored) rfl rfl rfl (by decide +kernel) ⟨Nat.le_of_ble_eq_true rfl, Nat.le_of_ble_eq_true rfl⟩) (sx_pV hK hX hS hPc hDc hFc (va_recv hK hPc (ci := 4) (q0 := 0) rfl rfl)) rfl rfl hl.1 rfl (lv_room (Nat.le_of_ble_eq_true rfl)) dExp_always_1 ⟨Nat.le_of_ble_eq_true rfl, Nat.le_of_ble_eq_true rfl⟩) ?_
    refine lv_aload_n hx hb dExp_always_4 rfl (lv_at hl 0 rfl) ?_
    refine lv_iload_n hx hb dExp_always_5 rfl (lv_at hl 1 rfl) ?_
    obtain ⟨v4, hv4, hm⟩ := sx_bind hm
    rcases v4 with k9 | u9
    · cases hm
    · have hPc := hP.sub (ws' := [(h_net, .inr (0, [.ref a_net_sorts, .ref a_net_ranks, .ref a_net_starts, .ref a_net_literals, .ref a_net_nextLiterals, .ref a_net_outputs, .int net_gateTotal, .int net_inputTotal, .int net_latchTotal, .int net_outputTotal])), (h_exp, .inr (4, [.ref h_net, .ref h_tab, .ref h_wlk, .ref h_par, .int exp_explored]))]) [0, 3] rfl
      have hDc := hD.sub (ws' := [(h_net, .inr (0, [.ref a_net_sorts, .ref a_net_ranks, .ref a_net_starts, .ref a_net_literals, .ref a_net_nextLiterals, .ref a_net_outputs, .int net_gateTotal, .int net_inputTotal, .int net_latchTotal, .int net_outputTotal])), (h_exp, .inr (4, [.ref h_net, .ref h_tab, .ref h_wlk, .ref h_par, .int exp_explored]))]) [0, 3] (by decide) rfl
      have hFc := va_free (wc := [(h_net, .inr (0, [.ref a_net_sorts, .ref a_net_ranks, .ref a_net_starts, .ref a_net_literals, .ref a_net_nextLiterals, .ref a_net_outputs, .int net_gateTotal, .int net_inputTotal, .int net_latchTotal, .int net_outputTotal])), (h_exp, .inr (4, [.ref h_net, .ref h_tab, .ref h_wlk, .ref h_par, .int exp_explored]))]) hD hS hA [0, 3] rfl
      refine sx_stV (va_runV (As := [.int p0]) (rest := []) ⟨hx, hb, hml, hown, hts⟩ (k_Exp_requireGate l dC dI cI cL cZ t1 t2 h_net a_net_sorts a_net_ranks a_net_starts a_net_literals a_net_nextLiterals a_net_outputs h_exp h_tab h_wlk h_par net_gateTotal net_inputTotal net_latchTotal net_outputTotal exp_explored _ p0 () hv4) (cwV 1 hts (sx_gV tw_454 tw_456 tw_16 tw_36 tcExp_requireGate) rfl rfl rfl (by decide +kernel) ⟨Nat.le_of_ble_eq_true rfl, Nat.le_of_ble_eq_true rfl⟩) (sx_pV hK hX hS hPc hDc hFc (va_recv hK hPc (ci := 4) (q0 := 1) rfl rfl)) rfl rfl hl.1 rfl (lv_room (Nat.le_of_ble_eq_true rfl)) dExp_always_6 ⟨Nat.le_of_ble_eq_true rfl, Nat.le_of_ble_eq_true rfl⟩) ?_
      refine lv_aload_n hx hb dExp_always_9 rfl (lv_at hl 0 rfl) ?_
      refine va_get (D := (dC, dI)) (ci := 4) (v := .ref h_wlk) (C := RExp) (T := TExp) (N := 5) hx hb hts inExp hown hK hP 3 rfl rfl 2 (by decide) (hts _ tw_195) (fun _ h9 => h9) rfl dExp_always_10 ?_
      refine lv_aload_n hx hb dExp_always_13 rfl (lv_at hl 0 rfl) ?_
      refine va_get (D := (dC, dI)) (ci := 4) (v := .ref h_tab) (C := RExp) (T := TExp) (N := 5) hx hb hts inExp hown hK hP 3 rfl rfl 1 (by decide) (hts _ tw_194) (fun _ h9 => h9) rfl dExp_always_14 ?_
      refine lv_iload_n hx hb dExp_always_17 rfl (lv_at hl 1 rfl) ?_
      refine lv_iconst (v := (1 : Int32)) hx hb dExp_always_18 (by decide) ?_
      obtain ⟨v7, hv7, hm⟩ := sx_bind hm
      have hPc := hP.sub (ws' := [(h_tab, .inr (2, [.ref a_tab_known, .ref a_tab_settled, .ref a_tab_values, .ref a_tab_nextStates])), (h_wlk, .inr (3, [.ref a_wlk_distances, .ref a_wlk_order, .ref a_wlk_parents, .ref a_wlk_steps, .ref a_wlk_settledPairs, .int wlk_words, .int wlk_reached, .int wlk_doubts, .int wlk_doubtState, .int wlk_doubtChoice])), (a_tab_values, .inl (cL, 3840, .inr (.inl tab_values))), (a_wlk_settledPairs, .inl (cL, 64, .inr (.inl wlk_settledPairs)))]) [1, 2, 4, 5] rfl
      have hDc := hD.sub (ws' := [(h_tab, .inr (2, [.ref a_tab_known, .ref a_tab_settled, .ref a_tab_values, .ref a_tab_nextStates])), (h_wlk, .inr (3, [.ref a_wlk_distances, .ref a_wlk_order, .ref a_wlk_parents, .ref a_wlk_steps, .ref a_wlk_settledPairs, .int wlk_words, .int wlk_reached, .int wlk_doubts, .int wlk_doubtState, .int wlk_doubtChoice])), (a_tab_values, .inl (cL, 3840, .inr (.inl tab_values))), (a_wlk_settledPairs, .inl (cL, 64, .inr (.inl wlk_settledPairs)))]) [1, 2, 4, 5] (by decide) rfl
      have hFc := va_free (wc := [(h_tab, .inr (2, [.ref a_tab_known, .ref a_tab_settled, .ref a_tab_values, .ref a_tab_nextStates])), (h_wlk, .inr (3, [.ref a_wlk_distances, .ref a_wlk_order, .ref a_wlk_parents, .ref a_wlk_steps, .ref a_wlk_settledPairs, .int wlk_words, .int wlk_reached, .int wlk_doubts, .int wlk_doubtState, .int wlk_doubtChoice])), (a_tab_values, .inl (cL, 3840, .inr (.inl tab_values))), (a_wlk_settledPairs, .inl (cL, 64, .inr (.inl wlk_settledPairs)))]) hD hS hA [1, 2, 4, 5] rfl
      refine sx_stI (va_runV (As := [.ref h_tab, .int p0, .int (1 : Int32)]) (rest := []) ⟨hx, hb, hml, hown, hts⟩ (k_Wlk_isEver l dC dI cI cL cZ t1 t2 h_tab a_tab_known a_tab_settled a_tab_values a_tab_nextStates h_wlk a_wlk_distances a_wlk_order a_wlk_parents a_wlk_steps a_wlk_settledPairs tab_values wlk_settledPairs wlk_words wlk_reached wlk_doubts wlk_doubtState wlk_doubtChoice _ p0 (1 : Int32) v7 hv7) (cwV 3 hts (sx_gV tw_581 tw_582 tw_583 tw_39 tcWlk_isEver) rfl rfl rfl (by decide +kernel) ⟨Nat.le_of_ble_eq_true rfl, Nat.le_of_ble_eq_true rfl⟩) (sx_pV hK hX hS hPc hDc hFc (va_recv hK hPc (ci := 3) (q0 := 1) rfl rfl)) rfl rfl hl.1 rfl (lv_room (Nat.le_of_ble_eq_true rfl)) dExp_always_19 ⟨Nat.le_of_ble_eq_true rfl, Nat.le_of_ble_eq_true rfl⟩) ?_
      refine lv_istore_n (lv' := [(2, .int v7), (0, .ref h_exp), (1, .int p0)]) hx hb dExp_always_22 rfl hl (by decide) rfl (fun ls hl => ?_)
      refine lv_aload_n hx hb dExp_always_23 rfl (lv_at hl 1 rfl) ?_
      refine va_get (D := (dC, dI)) (ci := 4) (v := .ref h_wlk) (C := RExp) (T := TExp) (N := 5) hx hb hts inExp hown hK hP 3 rfl rfl 2 (by decide) (hts _ tw_195) (fun _ h9 => h9) rfl dExp_always_24 ?_
      refine lv_aload_n hx hb dExp_always_27 rfl (lv_at hl 1 rfl) ?_
      refine va_get (D := (dC, dI)) (ci := 4) (v := .ref h_tab) (C := RExp) (T := TExp) (N := 5) hx hb hts inExp hown hK hP 3 rfl rfl 1 (by decide) (hts _ tw_194) (fun _ h9 => h9) rfl dExp_always_28 ?_
      refine lv_iload_n hx hb dExp_always_31 rfl (lv_at hl 2 rfl) ?_
      refine lv_iconst (v := (0 : Int32)) hx hb dExp_always_32 (by decide) ?_
      obtain ⟨v9, hv9, hm⟩ := sx_bind hm
      have hPc := hP.sub (ws' := [(h_tab, .inr (2, [.ref a_tab_known, .ref a_tab_settled, .ref a_tab_values, .ref a_tab_nextStates])), (h_wlk, .inr (3, [.ref a_wlk_distances, .ref a_wlk_order, .ref a_wlk_parents, .ref a_wlk_steps, .ref a_wlk_settledPairs, .int wlk_words, .int wlk_reached, .int wlk_doubts, .int wlk_doubtState, .int wlk_doubtChoice])), (a_tab_values, .inl (cL, 3840, .inr (.inl tab_values))), (a_wlk_settledPairs, .inl (cL, 64, .inr (.inl wlk_settledPairs)))]) [1, 2, 4, 5] rfl
      have hDc := hD.sub (ws' := [(h_tab, .inr (2, [.ref a_tab_known, .ref a_tab_settled, .ref a_tab_values, .ref a_tab_nextStates])), (h_wlk, .inr (3, [.ref a_wlk_distances, .ref a_wlk_order, .ref a_wlk_parents, .ref a_wlk_steps, .ref a_wlk_settledPairs, .int wlk_words, .int wlk_reached, .int wlk_doubts, .int wlk_doubtState, .int wlk_doubtChoice])), (a_tab_values, .inl (cL, 3840, .inr (.inl tab_values))), (a_wlk_settledPairs, .inl (cL, 64, .inr (.inl wlk_settledPairs)))]) [1, 2, 4, 5] (by decide) rfl
      have hFc := va_free (wc := [(h_tab, .inr (2, [.ref a_tab_known, .ref a_tab_settled, .ref a_tab_values, .ref a_tab_nextStates])), (h_wlk, .inr (3, [.ref a_wlk_distances, .ref a_wlk_order, .ref a_wlk_parents, .ref a_wlk_steps, .ref a_wlk_settledPairs, .int wlk_words, .int wlk_reached, .int wlk_doubts, .int wlk_doubtState, .int wlk_doubtChoice])), (a_tab_values, .inl (cL, 3840, .inr (.inl tab_values))), (a_wlk_settledPairs, .inl (cL, 64, .inr (.inl wlk_settledPairs)))]) hD hS hA [1, 2, 4, 5] rfl
      refine sx_stI (va_runV (As := [.ref h_tab, .int p0, .int (0 : Int32)]) (rest := []) ⟨hx, hb, hml, hown, hts⟩ (k_Wlk_isEver l dC dI cI cL cZ t1 t2 h_tab a_tab_known a_tab_settled a_tab_values a_tab_nextStates h_wlk a_wlk_distances a_wlk_order a_wlk_parents a_wlk_steps a_wlk_settledPairs tab_values wlk_settledPairs wlk_words wlk_reached wlk_doubts wlk_doubtState wlk_doubtChoice _ p0 (0 : Int32) v9 hv9) (cwV 3 hts (sx_gV tw_581 tw_582 tw_583 tw_39 tcWlk_isEver) rfl rfl rfl (by decide +kernel) ⟨Nat.le_of_ble_eq_true rfl, Nat.le_of_ble_eq_true rfl⟩) (sx_pV hK hX hS hPc hDc hFc (va_recv hK hPc (ci := 3) (q0 := 1) rfl rfl)) rfl rfl hl.1 rfl (lv_room (Nat.le_of_ble_eq_true rfl)) dExp_always_33 ⟨Nat.le_of_ble_eq_true rfl, Nat.le_of_ble_eq_true rfl⟩) ?_
      refine lv_istore_n (lv' := [(3, .int v9), (2, .int v7), (0, .ref h_exp), (1, .int p0)]) hx hb dExp_always_36 rfl hl (by decide) rfl (fun ls hl => ?_)
      refine lv_iload_n hx hb dExp_always_37 rfl (lv_at hl 1 rfl) ?_
      refine lv_iload_n hx hb dExp_always_38 rfl (lv_at hl 0 rfl) ?_
      refine lv_icmp_ne (tgt := 44) hx hb dExp_always_39 (by decide) (fun c11 => ?_) (fun c11 => ?_)
      · have hm := sx_neg c11 hm
        refine lv_iload_n hx hb dExp_always_44 rfl (lv_at hl 1 rfl) ?_
        refine lv_if_eq (tgt := 52) hx hb dExp_always_45 (by decide) (fun c12 => ?_) (fun c12 => ?_)
        · have hm := sx_pos c12 hm
          refine lv_iconst (v := (0 : Int32)) hx hb dExp_always_52 (by decide) ?_
          obtain rfl := Sum.inr.inj (Option.some.inj hm)
          exact W.iret (v := (0 : Int32)) hx hb hr (fun t ht hW => ⟨rfl, ht⟩) (fun q hq => nomatch hq) dExp_always_53
        · have hm := sx_neg c12 hm
          refine lv_iconst (v := (1 : Int32)) hx hb dExp_always_48 (by decide) ?_
          refine lv_goto (tgt := 53) hx hb dExp_always_49 (by decide) ?_
          obtain rfl := Sum.inr.inj (Option.some.inj hm)
          exact W.iret (v := (1 : Int32)) hx hb hr (fun t ht hW => ⟨rfl, ht⟩) (fun q hq => nomatch hq) dExp_always_53
      · have hm := sx_pos c11 hm
        refine lv_iconst (v := (2 : Int32)) hx hb dExp_always_42 (by decide) ?_
        obtain rfl := Sum.inr.inj (Option.some.inj hm)
        exact W.iret (v := (2 : Int32)) hx hb hr (fun t ht hW => ⟨rfl, ht⟩) (fun q hq => nomatch hq) dExp_always_43
set_option maxHeartbeats 4000000 in
set_option maxRecDepth 100000 in
theorem kt_Exp_always (l : Launch) (hnt : l.stackTraces = false) (dC : Nat → ClassId) (dI : Nat → Nat → Nat) (cI cL cZ : ClassId) (t1 t2 : Nat) (h_net a_net_sorts a_net_ranks a_net_starts a_net_literals a_net_nextLiterals a_net_outputs h_tab a_tab_known a_tab_settled a_tab_values a_tab_nextStates h_wlk a_wlk_distances a_wlk_order a_wlk_parents a_wlk_steps a_wlk_settledPairs h_exp h_par : Nat) (net_gateTotal net_inputTotal net_latchTotal net_outputTotal : Int32) (tab_values wlk_settledPairs : Nat → Int64) (wlk_words wlk_reached wlk_doubts wlk_doubtState wlk_doubtChoice exp_explored : Int32) (sz : Nat) (p0 : Int32) (k : Nat) (hm : m_Exp_always net_gateTotal tab_values wlk_settledPairs wlk_words exp_explored p0 = some (.inl k)) : sx_Thr l yExp_always wsExp_always rmt_Exp_always (sx_Pc (dC, dI) [(cI, .int), (cL, .long), (cZ, .boolean)] t1 t2 [(h_net, .inr (0, [.ref a_net_sorts, .ref a_net_ranks, .ref a_net_starts, .ref a_net_literals, .ref a_net_nextLiterals, .ref a_net_outputs, .int net_gateTotal, .int net_inputTotal, .int net_latchTotal, .int net_outputTotal])), (h_tab, .inr (2, [.ref a_tab_known, .ref a_tab_settled, .ref a_tab_values, .ref a_tab_nextStates])), (h_wlk, .inr (3, [.ref a_wlk_distances, .ref a_wlk_order, .ref a_wlk_parents, .ref a_wlk_steps, .ref a_wlk_settledPairs, .int wlk_words, .int wlk_reached, .int wlk_doubts, .int wlk_doubtState, .int wlk_doubtChoice])), (h_exp, .inr (4, [.ref h_net, .ref h_tab, .ref h_wlk, .ref h_par, .int exp_explored])), (a_tab_values, .inl (cL, 3840, .inr (.inl tab_values))), (a_wlk_settledPairs, .inl (cL, 64, .inr (.inl wlk_settledPairs)))] sz [.ref h_exp, .int p0]) (sx_E k) 1 6 := by
  refine sx_thrOf (cc := cExp_always) (maxL := 4) (ret := (some .int)) (by decide) rfl ?_
  intro p e s m args below meth c s₁ B hml hnx hv
  obtain ⟨rfl, hsz, hP, hK, hD0, hX⟩ := hv
  have hx := B.exec
  have hb := B.bytes
  have hr := B.returns
  have hts0 := atoms_spec (ws := wsExp_always) B.pre
  have hts : ∀ w ∈ tb, w.before _ s = true := fun w h => hts0 w (List.mem_cons_of_mem _ h)
  have hown : s.vm.findClass "StateExplorer" = some m.cls := findClass_of_methodNamed B.named
  have hlocks := B.notSynchronized
  subst hsz
  have hD := hD0.self (sz := s.heap.size)
  generalize hAe : va_A [(h_net, .inr (0, [.ref a_net_sorts, .ref a_net_ranks, .ref a_net_starts, .ref a_net_literals, .ref a_net_nextLiterals, .ref a_net_outputs, .int net_gateTotal, .int net_inputTotal, .int net_latchTotal, .int net_outputTotal])), (h_tab, .inr (2, [.ref a_tab_known, .ref a_tab_settled, .ref a_tab_values, .ref a_tab_nextStates])), (h_wlk, .inr (3, [.ref a_wlk_distances, .ref a_wlk_order, .ref a_wlk_parents, .ref a_wlk_steps, .ref a_wlk_settledPairs, .int wlk_words, .int wlk_reached, .int wlk_doubts, .int wlk_doubtState, .int wlk_doubtChoice])), (h_exp, .inr (4, [.ref h_net, .ref h_tab, .ref h_wlk, .ref h_par, .int exp_explored])), (a_tab_values, .inl (cL, 3840, .inr (.inl tab_values))), (a_wlk_settledPairs, .inl (cL, 64, .inr (.inl wlk_settledPairs)))] s.heap.size = A at hD hX 
  have hA : ∀ q : Nat, s.heap.size ≤ q → A q := fun q h => by rw [← hAe]; exact Or.inr h
  have hS : va_S A s.heap s.heap [] := va_S.rf
  have hl := lv_entry ([.ref h_exp, .int p0]) (n := 4) (Nat.le_of_ble_eq_true rfl)
  rw [lg_entry_eq]
  generalize (lg_sl ([.ref h_exp, .int p0]) ++ List.replicate (4 - (lg_sl ([.ref h_exp, .int p0])).length) Slot.unset).toArray = ls at hl ⊢
  have hl : lv_has ls 4 [(0, .ref h_exp), (1, .int p0)] := hl
  have C0 : sx_C p s m _ meth c cExp_always 4 "StateExplorer" A (dC, dI) [(cI, .int), (cL, .long), (cZ, .boolean)] t1 t2 := ⟨hx, hb, hml, hown, hts, hA, hK, hlocks, hX⟩
  rw [m_Exp_always] at hm
  refine lv_aload_n hx hb dExp_always_0 rfl (lv_at hl 0 rfl) ?_
  obtain ⟨v1, hv1, hm⟩ := sx_bind hm
  rcases v1 with k9 | u9
  · have hPc := hP.sub (ws' := [(h_exp, .inr (4, [.ref h_net, .ref h_tab, .ref h_wlk, .ref h_par, .int exp_explored]))]) [3] rfl
    have hDc := hD.sub (ws' := [(h_exp, .inr (4, [.ref h_net, .ref h_tab, .ref h_wlk, .ref h_par, .int exp_explored]))]) [3] (by decide) rfl
    have hFc := va_free (wc := [(h_exp, .inr (4, [.ref h_net, .ref h_tab, .ref h_wlk, .ref h_par, .int exp_explored]))]) hD hS hA [3] rfl
    obtain rfl := Sum.inl.inj (Option.some.inj hm)
    refine sx_callT (As := []) (rest := []) ⟨hx, hb, hml, hown, hts⟩ (kt_Exp_requireExplored l hnt dC dI cI cL cZ t1 t2 h_exp h_net h_tab h_wlk h_par exp_explored _ _ hv1) (cwV 0 hts (sx_gV tw_522 tw_524 tw_17 tw_36 tcExp_requireExplored) rfl rfl rfl (by decide +kernel) ⟨Nat.le_of_ble_eq_true rfl, Nat.le_of_ble_eq_true rfl⟩) (sx_pV hK hX hS hPc hDc hFc (va_recv hK hPc (ci := 4) (q0 := 0) rfl rfl)) rfl hl.1 rfl (lv_room (Nat.le_of_ble_eq_true rfl)) dExp_always_1 ⟨Nat.le_of_ble_eq_true rfl, Nat.le_of_ble_eq_true rfl⟩ (fun ce q H1 z1 z2 z3 z4 z5 => ?_)
    exact sx_out hnx hlocks z3 z4 z5 (Nat.le_of_ble_eq_true rfl) (Nat.le_of_ble_eq_true rfl)
  · have hPc := hP.sub (ws' := [(h_exp, .inr (4, [.ref h_net, .ref h_tab, .ref h_wlk, .ref h_par, .int exp_explored]))]) [3] rfl
    have hDc := hD.sub (ws' := [(h_exp, .inr (4, [.ref h_net, .ref h_tab, .ref h_wlk, .ref h_par, .int exp_explored]))]) [3] (by decide) rfl
    have hFc := va_free (wc := [(h_exp, .inr (4, [.ref h_net, .ref h_tab, .ref h_wlk, .ref h_par, .int exp_explored]))]) hD hS hA [3] rfl
    refine sx_stV (va_runV (As := []) (rest := []) ⟨hx, hb, hml, hown, hts⟩ (k_Exp_requireExplored l dC dI cI cL cZ t1 t2 h_exp h_net h_tab h_wlk h_par exp_explored _ () hv1) (cwV 0 hts (sx_gV tw_522 tw_524 tw_17 tw_36 tcExp_requireExplored) rfl rfl rfl (by decide +kernel) ⟨Nat.le_of_ble_eq_true rfl, Nat.le_of_ble_eq_true rfl⟩) (sx_pV hK hX hS hPc hDc hFc (va_recv hK hPc (ci := 4) (q0 := 0) rfl rfl)) rfl rfl hl.1 rfl (lv_room (Nat.le_of_ble_eq_true rfl)) dExp_always_1 ⟨Nat.le_of_ble_eq_true rfl, Nat.le_of_ble_eq_true rfl⟩) ?_
    refine lv_aload_n hx hb dExp_always_4 rfl (lv_at hl 0 rfl) ?_
    refine lv_iload_n hx hb dExp_always_5 rfl (lv_at hl 1 rfl) ?_
    obtain ⟨v4, hv4, hm⟩ := sx_bind hm
    rcases v4 with k9 | u9
    · have hPc := hP.sub (ws' := [(h_net, .inr (0, [.ref a_net_sorts, .ref a_net_ranks, .ref a_net_starts, .ref a_net_literals, .ref a_net_nextLiterals, .ref a_net_outputs, .int net_gateTotal, .int net_inputTotal, .int net_latchTotal, .int net_outputTotal])), (h_exp, .inr (4, [.ref h_net, .ref h_tab, .ref h_wlk, .ref h_par, .int exp_explored]))]) [0, 3] rfl
      have hDc := hD.sub (ws' := [(h_net, .inr (0, [.ref a_net_sorts, .ref a_net_ranks, .ref a_net_starts, .ref a_net_literals, .ref a_net_nextLiterals, .ref a_net_outputs, .int net_gateTotal, .int net_inputTotal, .int net_latchTotal, .int net_outputTotal])), (h_exp, .inr (4, [.ref h_net, .ref h_tab, .ref h_wlk, .ref h_par, .int exp_explored]))]) [0, 3] (by decide) rfl
      have hFc := va_free (wc := [(h_net, .inr (0, [.ref a_net_sorts, .ref a_net_ranks, .ref a_net_starts, .ref a_net_literals, .ref a_net_nextLiterals, .ref a_net_outputs, .int net_gateTotal, .int net_inputTotal, .int net_latchTotal, .int net_outputTotal])), (h_exp, .inr (4, [.ref h_net, .ref h_tab, .ref h_wlk, .ref h_par, .int exp_explored]))]) hD hS hA [0, 3] rfl
      obtain rfl := Sum.inl.inj (Option.some.inj hm)
      refine sx_callT (As := [.int p0]) (rest := []) ⟨hx, hb, hml, hown, hts⟩ (kt_Exp_requireGate l hnt dC dI cI cL cZ t1 t2 h_net a_net_sorts a_net_ranks a_net_starts a_net_literals a_net_nextLiterals a_net_outputs h_exp h_tab h_wlk h_par net_gateTotal net_inputTotal net_latchTotal net_outputTotal exp_explored _ p0 _ hv4) (cwV 1 hts (sx_gV tw_454 tw_456 tw_16 tw_36 tcExp_requireGate) rfl rfl rfl (by decide +kernel) ⟨Nat.le_of_ble_eq_true rfl, Nat.le_of_ble_eq_true rfl⟩) (sx_pV hK hX hS hPc hDc hFc (va_recv hK hPc (ci := 4) (q0 := 1) rfl rfl)) rfl hl.1 rfl (lv_room (Nat.le_of_ble_eq_true rfl)) dExp_always_6 ⟨Nat.le_of_ble_eq_true rfl, Nat.le_of_ble_eq_true rfl⟩ (fun ce q H1 z1 z2 z3 z4 z5 => ?_)
      exact sx_out hnx hlocks z3 z4 z5 (Nat.le_of_ble_eq_true rfl) (Nat.le_of_ble_eq_true rfl)
    · have hPc := hP.sub (ws' := [(h_net, .inr (0, [.ref a_net_sorts, .ref a_net_ranks, .ref a_net_starts, .ref a_net_literals, .ref a_net_nextLiterals, .ref a_net_outputs, .int net_gateTotal, .int net_inputTotal, .int net_latchTotal, .int net_outputTotal])), (h_exp, .inr (4, [.ref h_net, .ref h_tab, .ref h_wlk, .ref h_par, .int exp_explored]))]) [0, 3] rfl
      have hDc := hD.sub (ws' := [(h_net, .inr (0, [.ref a_net_sorts, .ref a_net_ranks, .ref a_net_starts, .ref a_net_literals, .ref a_net_nextLiterals, .ref a_net_outputs, .int net_gateTotal, .int net_inputTotal, .int net_latchTotal, .int net_outputTotal])), (h_exp, .inr (4, [.ref h_net, .ref h_tab, .ref h_wlk, .ref h_par, .int exp_explored]))]) [0, 3] (by decide) rfl
      have hFc := va_free (wc := [(h_net, .inr (0, [.ref a_net_sorts, .ref a_net_ranks, .ref a_net_starts, .ref a_net_literals, .ref a_net_nextLiterals, .ref a_net_outputs, .int net_gateTotal, .int net_inputTotal, .int net_latchTotal, .int net_outputTotal])), (h_exp, .inr (4, [.ref h_net, .ref h_tab, .ref h_wlk, .ref h_par, .int exp_explored]))]) hD hS hA [0, 3] rfl
      refine sx_stV (va_runV (As := [.int p0]) (rest := []) ⟨hx, hb, hml, hown, hts⟩ (k_Exp_requireGate l dC dI cI cL cZ t1 t2 h_net a_net_sorts a_net_ranks a_net_starts a_net_literals a_net_nextLiterals a_net_outputs h_exp h_tab h_wlk h_par net_gateTotal net_inputTotal net_latchTotal net_outputTotal exp_explored _ p0 () hv4) (cwV 1 hts (sx_gV tw_454 tw_456 tw_16 tw_36 tcExp_requireGate) rfl rfl rfl (by decide +kernel) ⟨Nat.le_of_ble_eq_true rfl, Nat.le_of_ble_eq_true rfl⟩) (sx_pV hK hX hS hPc hDc hFc (va_recv hK hPc (ci := 4) (q0 := 1) rfl rfl)) rfl rfl hl.1 rfl (lv_room (Nat.le_of_ble_eq_true rfl)) dExp_always_6 ⟨Nat.le_of_ble_eq_true rfl, Nat.le_of_ble_eq_true rfl⟩) ?_
      refine lv_aload_n hx hb dExp_always_9 rfl (lv_at hl 0 rfl) ?_
      refine va_get (D := (dC, dI)) (ci := 4) (v := .ref h_wlk) (C := RExp) (T := TExp) (N := 5) hx hb hts inExp hown hK hP 3 rfl rfl 2 (by decide) (hts _ tw_195) (fun _ h9 => h9) rfl dExp_always_10 ?_
      refine lv_aload_n hx hb dExp_always_13 rfl (lv_at hl 0 rfl) ?_
      refine va_get (D := (dC, dI)) (ci := 4) (v := .ref h_tab) (C := RExp) (T := TExp) (N := 5) hx hb hts inExp hown hK hP 3 rfl rfl 1 (by decide) (hts _ tw_194) (fun _ h9 => h9) rfl dExp_always_14 ?_
      refine lv_iload_n hx hb dExp_always_17 rfl (lv_at hl 1 rfl) ?_
      refine lv_iconst (v := (1 : Int32)) hx hb dExp_always_18 (by decide) ?_
      obtain ⟨v7, hv7, hm⟩ := sx_bind hm
      have hPc := hP.sub (ws' := [(h_tab, .inr (2, [.ref a_tab_known, .ref a_tab_settled, .ref a_tab_values, .ref a_tab_nextStates])), (h_wlk, .inr (3, [.ref a_wlk_distances, .ref a_wlk_order, .ref a_wlk_parents, .ref a_wlk_steps, .ref a_wlk_settledPairs, .int wlk_words, .int wlk_reached, .int wlk_doubts, .int wlk_doubtState, .int wlk_doubtChoice])), (a_tab_values, .inl (cL, 3840, .inr (.inl tab_values))), (a_wlk_settledPairs, .inl (cL, 64, .inr (.inl wlk_settledPairs)))]) [1, 2, 4, 5] rfl
      have hDc := hD.sub (ws' := [(h_tab, .inr (2, [.ref a_tab_known, .ref a_tab_settled, .ref a_tab_values, .ref a_tab_nextStates])), (h_wlk, .inr (3, [.ref a_wlk_distances, .ref a_wlk_order, .ref a_wlk_parents, .ref a_wlk_steps, .ref a_wlk_settledPairs, .int wlk_words, .int wlk_reached, .int wlk_doubts, .int wlk_doubtState, .int wlk_doubtChoice])), (a_tab_values, .inl (cL, 3840, .inr (.inl tab_values))), (a_wlk_settledPairs, .inl (cL, 64, .inr (.inl wlk_settledPairs)))]) [1, 2, 4, 5] (by decide) rfl
      have hFc := va_free (wc := [(h_tab, .inr (2, [.ref a_tab_known, .ref a_tab_settled, .ref a_tab_values, .ref a_tab_nextStates])), (h_wlk, .inr (3, [.ref a_wlk_distances, .ref a_wlk_order, .ref a_wlk_parents, .ref a_wlk_steps, .ref a_wlk_settledPairs, .int wlk_words, .int wlk_reached, .int wlk_doubts, .int wlk_doubtState, .int wlk_doubtChoice])), (a_tab_values, .inl (cL, 3840, .inr (.inl tab_values))), (a_wlk_settledPairs, .inl (cL, 64, .inr (.inl wlk_settledPairs)))]) hD hS hA [1, 2, 4, 5] rfl
      refine sx_stI (va_runV (As := [.ref h_tab, .int p0, .int (1 : Int32)]) (rest := []) ⟨hx, hb, hml, hown, hts⟩ (k_Wlk_isEver l dC dI cI cL cZ t1 t2 h_tab a_tab_known a_tab_settled a_tab_values a_tab_nextStates h_wlk a_wlk_distances a_wlk_order a_wlk_parents a_wlk_steps a_wlk_settledPairs tab_values wlk_settledPairs wlk_words wlk_reached wlk_doubts wlk_doubtState wlk_doubtChoice _ p0 (1 : Int32) v7 hv7) (cwV 3 hts (sx_gV tw_581 tw_582 tw_583 tw_39 tcWlk_isEver) rfl rfl rfl (by decide +kernel) ⟨Nat.le_of_ble_eq_true rfl, Nat.le_of_ble_eq_true rfl⟩) (sx_pV hK hX hS hPc hDc hFc (va_recv hK hPc (ci := 3) (q0 := 1) rfl rfl)) rfl rfl hl.1 rfl (lv_room (Nat.le_of_ble_eq_true rfl)) dExp_always_19 ⟨Nat.le_of_ble_eq_true rfl, Nat.le_of_ble_eq_true rfl⟩) ?_
      refine lv_istore_n (lv' := [(2, .int v7), (0, .ref h_exp), (1, .int p0)]) hx hb dExp_always_22 rfl hl (by decide) rfl (fun ls hl => ?_)
      refine lv_aload_n hx hb dExp_always_23 rfl (lv_at hl 1 rfl) ?_
      refine va_get (D := (dC, dI)) (ci := 4) (v := .ref h_wlk) (C := RExp) (T := TExp) (N := 5) hx hb hts inExp hown hK hP 3 rfl rfl 2 (by decide) (hts _ tw_195) (fun _ h9 => h9) rfl dExp_always_24 ?_
      refine lv_aload_n hx hb dExp_always_27 rfl (lv_at hl 1 rfl) ?_
      refine va_get (D := (dC, dI)) (ci := 4) (v := .ref h_tab) (C := RExp) (T := TExp) (N := 5) hx hb hts inExp hown hK hP 3 rfl rfl 1 (by decide) (hts _ tw_194) (fun _ h9 => h9) rfl dExp_always_28 ?_
      refine lv_iload_n hx hb dExp_always_31 rfl (lv_at hl 2 rfl) ?_
      refine lv_iconst (v := (0 : Int32)) hx hb dExp_always_32 (by decide) ?_
      obtain ⟨v9, hv9, hm⟩ := sx_bind hm
      have hPc := hP.sub (ws' := [(h_tab, .inr (2, [.ref a_tab_known, .ref a_tab_settled, .ref a_tab_values, .ref a_tab_nextStates])), (h_wlk, .inr (3, [.ref a_wlk_distances, .ref a_wlk_order, .ref a_wlk_parents, .ref a_wlk_steps, .ref a_wlk_settledPairs, .int wlk_words, .int wlk_reached, .int wlk_doubts, .int wlk_doubtState, .int wlk_doubtChoice])), (a_tab_values, .inl (cL, 3840, .inr (.inl tab_values))), (a_wlk_settledPairs, .inl (cL, 64, .inr (.inl wlk_settledPairs)))]) [1, 2, 4, 5] rfl
      have hDc := hD.sub (ws' := [(h_tab, .inr (2, [.ref a_tab_known, .ref a_tab_settled, .ref a_tab_values, .ref a_tab_nextStates])), (h_wlk, .inr (3, [.ref a_wlk_distances, .ref a_wlk_order, .ref a_wlk_parents, .ref a_wlk_steps, .ref a_wlk_settledPairs, .int wlk_words, .int wlk_reached, .int wlk_doubts, .int wlk_doubtState, .int wlk_doubtChoice])), (a_tab_values, .inl (cL, 3840, .inr (.inl tab_values))), (a_wlk_settledPairs, .inl (cL, 64, .inr (.inl wlk_settledPairs)))]) [1, 2, 4, 5] (by decide) rfl
      have hFc := va_free (wc := [(h_tab, .inr (2, [.ref a_tab_known, .ref a_tab_settled, .ref a_tab_values, .ref a_tab_nextStates])), (h_wlk, .inr (3, [.ref a_wlk_distances, .ref a_wlk_order, .ref a_wlk_parents, .ref a_wlk_steps, .ref a_wlk_settledPairs, .int wlk_words, .int wlk_reached, .int wlk_doubts, .int wlk_doubtState, .int wlk_doubtChoice])), (a_tab_values, .inl (cL, 3840, .inr (.inl tab_values))), (a_wlk_settledPairs, .inl (cL, 64, .inr (.inl wlk_settledPairs)))]) hD hS hA [1, 2, 4, 5] rfl
      refine sx_stI (va_runV (As := [.ref h_tab, .int p0, .int (0 : Int32)]) (rest := []) ⟨hx, hb, hml, hown, hts⟩ (k_Wlk_isEver l dC dI cI cL cZ t1 t2 h_tab a_tab_known a_tab_settled a_tab_values a_tab_nextStates h_wlk a_wlk_distances a_wlk_order a_wlk_parents a_wlk_steps a_wlk_settledPairs tab_values wlk_settledPairs wlk_words wlk_reached wlk_doubts wlk_doubtState wlk_doubtChoice _ p0 (0 : Int32) v9 hv9) (cwV 3 hts (sx_gV tw_581 tw_582 tw_583 tw_39 tcWlk_isEver) rfl rfl rfl (by decide +kernel) ⟨Nat.le_of_ble_eq_true rfl, Nat.le_of_ble_eq_true rfl⟩) (sx_pV hK hX hS hPc hDc hFc (va_recv hK hPc (ci := 3) (q0 := 1) rfl rfl)) rfl rfl hl.1 rfl (lv_room (Nat.le_of_ble_eq_true rfl)) dExp_always_33 ⟨Nat.le_of_ble_eq_true rfl, Nat.le_of_ble_eq_true rfl⟩) ?_
      refine lv_istore_n (lv' := [(3, .int v9), (2, .int v7), (0, .ref h_exp), (1, .int p0)]) hx hb dExp_always_36 rfl hl (by decide) rfl (fun ls hl => ?_)
      refine lv_iload_n hx hb dExp_always_37 rfl (lv_at hl 1 rfl) ?_
      refine lv_iload_n hx hb dExp_always_38 rfl (lv_at hl 0 rfl) ?_
      refine lv_icmp_ne (tgt := 44) hx hb dExp_always_39 (by decide) (fun c11 => ?_) (fun c11 => ?_)
      · have hm := sx_neg c11 hm
        refine lv_iload_n hx hb dExp_always_44 rfl (lv_at hl 1 rfl) ?_
        refine lv_if_eq (tgt := 52) hx hb dExp_always_45 (by decide) (fun c12 => ?_) (fun c12 => ?_)
        · have hm := sx_pos c12 hm
          refine lv_iconst (v := (0 : Int32)) hx hb dExp_always_52 (by decide) ?_
          cases hm
        · have hm := sx_neg c12 hm
          refine lv_iconst (v := (1 : Int32)) hx hb dExp_always_48 (by decide) ?_
          refine lv_goto (tgt := 53) hx hb dExp_always_49 (by decide) ?_
          cases hm
      · have hm := sx_pos c11 hm
        refine lv_iconst (v := (2 : Int32)) hx hb dExp_always_42 (by decide) ?_
        cases hm
noncomputable def m_Exp_isSame (net_gateTotal : Int32) (tab_values wlk_settledPairs : Nat → Int64) (wlk_words exp_explored : Int32) (p0 : Int32) (p1 : Int32) : Option (Nat ⊕ (Int32)) := (m_Exp_requireExplored exp_explored).bind (Sum.elim (fun k => some (.inl k)) (fun _ => (m_Exp_requireGate net_gateTotal p0).bind (Sum.elim (fun k => some (.inl k)) (fun _ => (m_Exp_requireGate net_gateTotal p1).bind (Sum.elim (fun k => some (.inl k)) (fun _ => (m_Wlk_everDiffer tab_values wlk_settledPairs wlk_words p0 p1).bind (fun v10 => (if v10 = (0 : Int32) then some (.inr (1 : Int32)) else some (.inr (0 : Int32))))))))))
def rm_Exp_isSame : Room := { frames := 1, cells := 0, slots := 0, locals := 26 }
def rmt_Exp_isSame : Room := { frames := 7, cells := 1, slots := 6, locals := 121 }
set_option maxHeartbeats 4000000 in
set_option maxRecDepth 100000 in
theorem k_Exp_isSame (l : Launch) (dC : Nat → ClassId) (dI : Nat → Nat → Nat) (cI cL cZ : ClassId) (t1 t2 : Nat) (h_net a_net_sorts a_net_ranks a_net_starts a_net_literals a_net_nextLiterals a_net_outputs h_tab a_tab_known a_tab_settled a_tab_values a_tab_nextStates h_wlk a_wlk_distances a_wlk_order a_wlk_parents a_wlk_steps a_wlk_settledPairs h_exp h_par : Nat) (net_gateTotal net_inputTotal net_latchTotal net_outputTotal : Int32) (tab_values wlk_settledPairs : Nat → Int64) (wlk_words wlk_reached wlk_doubts wlk_doubtState wlk_doubtChoice exp_explored : Int32) (sz : Nat) (p0 : Int32) (p1 : Int32) (v : Int32) (hm : m_Exp_isSame net_gateTotal tab_values wlk_settledPairs wlk_words exp_explored p0 p1 = some (.inr v)) : Met l yExp_isSame wsExp_isSame rm_Exp_isSame (sx_Pc (dC, dI) [(cI, .int), (cL, .long), (cZ, .boolean)] t1 t2 [(h_net, .inr (0, [.ref a_net_sorts, .ref a_net_ranks, .ref a_net_starts, .ref a_net_literals, .ref a_net_nextLiterals, .ref a_net_outputs, .int net_gateTotal, .int net_inputTotal, .int net_latchTotal, .int net_outputTotal])), (h_tab, .inr (2, [.ref a_tab_known, .ref a_tab_settled, .ref a_tab_values, .ref a_tab_nextStates])), (h_wlk, .inr (3, [.ref a_wlk_distances, .ref a_wlk_order, .ref a_wlk_parents, .ref a_wlk_steps, .ref a_wlk_settledPairs, .int wlk_words, .int wlk_reached, .int wlk_doubts, .int wlk_doubtState, .int wlk_doubtChoice])), (h_exp, .inr (4, [.ref h_net, .ref h_tab, .ref h_wlk, .ref h_par, .int exp_explored])), (a_tab_values, .inl (cL, 3840, .inr (.inl tab_values))), (a_wlk_settledPairs, .inl (cL, 64, .inr (.inl wlk_settledPairs)))] sz [.ref h_exp, .int p0, .int p1]) (sx_Si v) 0 0 (fun _ => False) := by
  refine Met.ofW (cc := cExp_isSame) (maxL := 3) (ret := (some .boolean)) (by decide) rfl ?_
  intro p e s m args below meth c s₁ B hml hv
  obtain ⟨rfl, hsz, hP, hK, hD0, hX⟩ := hv
  have hx := B.exec
  have hb := B.bytes
  have hr := B.returns
  have hts0 := atoms_spec (ws := wsExp_isSame) B.pre
  have hts : ∀ w ∈ tb, w.before _ s = true := fun w h => hts0 w (List.mem_cons_of_mem _ h)
  have hown : s.vm.findClass "StateExplorer" = some m.cls := findClass_of_methodNamed B.named
  have hlocks := B.notSynchronized
  subst hsz
  have hD := hD0.self (sz := s.heap.size)
  generalize hAe : va_A [(h_net, .inr (0, [.ref a_net_sorts, .ref a_net_ranks, .ref a_net_starts, .ref a_net_literals, .ref a_net_nextLiterals, .ref a_net_outputs, .int net_gateTotal, .int net_inputTotal, .int net_latchTotal, .int net_outputTotal])), (h_tab, .inr (2, [.ref a_tab_known, .ref a_tab_settled, .ref a_tab_values, .ref a_tab_nextStates])), (h_wlk, .inr (3, [.ref a_wlk_distances, .ref a_wlk_order, .ref a_wlk_parents, .ref a_wlk_steps, .ref a_wlk_settledPairs, .int wlk_words, .int wlk_reached, .int wlk_doubts, .int wlk_doubtState, .int wlk_doubtChoice])), (h_exp, .inr (4, [.ref h_net, .ref h_tab, .ref h_wlk, .ref h_par, .int exp_explored])), (a_tab_values, .inl (cL, 3840, .inr (.inl tab_values))), (a_wlk_settledPairs, .inl (cL, 64, .inr (.inl wlk_settledPairs)))] s.heap.size = A at hD hX 
  have hA : ∀ q : Nat, s.heap.size ≤ q → A q := fun q h => by rw [← hAe]; exact Or.inr h
  have hS : va_S A s.heap s.heap [] := va_S.rf
  have hl := lv_entry ([.ref h_exp, .int p0, .int p1]) (n := 3) (Nat.le_of_ble_eq_true rfl)
  rw [lg_entry_eq]
  generalize (lg_sl ([.ref h_exp, .int p0, .int p1]) ++ List.replicate (3 - (lg_sl ([.ref h_exp, .int p0, .int p1])).length) Slot.unset).toArray = ls at hl ⊢
  have hl : lv_has ls 3 [(0, .ref h_exp), (1, .int p0), (2, .int p1)] := hl
  have C0 : sx_C p s m _ meth c cExp_isSame 3 "StateExplorer" A (dC, dI) [(cI, .int), (cL, .long), (cZ, .boolean)] t1 t2 := ⟨hx, hb, hml, hown, hts, hA, hK, hlocks, hX⟩
  rw [m_Exp_isSame] at hm
  refine lv_aload_n hx hb dExp_isSame_0 rfl (lv_at hl 0 rfl) ?_
  obtain ⟨v1, hv1, hm⟩ := sx_bind hm
  rcases v1 with k9 | u9
  · cases hm
  · have hPc := hP.sub (ws' := [(h_exp, .inr (4, [.ref h_net, .ref h_tab, .ref h_wlk, .ref h_par, .int exp_explored]))]) [3] rfl
    have hDc := hD.sub (ws' := [(h_exp, .inr (4, [.ref h_net, .ref h_tab, .ref h_wlk, .ref h_par, .int exp_explored]))]) [3] (by decide) rfl
    have hFc := va_free (wc := [(h_exp, .inr (4, [.ref h_net, .ref h_tab, .ref h_wlk, .ref h_par, .int exp_explored]))]) hD hS hA [3] rfl
    refine sx_stV (va_runV (As := []) (rest := []) ⟨hx, hb, hml, hown, hts⟩ (k_Exp_requireExplored l dC dI cI cL cZ t1 t2 h_exp h_net h_tab h_wlk h_par exp_explored _ () hv1) (cwV 0 hts (sx_gV tw_522 tw_524 tw_17 tw_36 tcExp_requireExplored) rfl rfl rfl (by decide +kernel) ⟨Nat.le_of_ble_eq_true rfl, Nat.le_of_ble_eq_true rfl⟩) (sx_pV hK hX hS hPc hDc hFc (va_recv hK hPc (ci := 4) (q0 := 0) rfl rfl)) rfl rfl hl.1 rfl (lv_room (Nat.le_of_ble_eq_true rfl)) dExp_isSame_1 ⟨Nat.le_of_ble_eq_true rfl, Nat.le_of_ble_eq_true rfl⟩) ?_
    refine lv_aload_n hx hb dExp_isSame_4 rfl (lv_at hl 0 rfl) ?_
    refine lv_iload_n hx hb dExp_isSame_5 rfl (lv_at hl 1 rfl) ?_
    obtain ⟨v4, hv4, hm⟩ := sx_bind hm
    rcases v4 with k9 | u9
    · cases hm
    · have hPc := hP.sub (ws' := [(h_net, .inr (0, [.ref a_net_sorts, .ref a_net_ranks, .ref a_net_starts, .ref a_net_literals, .ref a_net_nextLiterals, .ref a_net_outputs, .int net_gateTotal, .int net_inputTotal, .int net_latchTotal, .int net_outputTotal])), (h_exp, .inr (4, [.ref h_net, .ref h_tab, .ref h_wlk, .ref h_par, .int exp_explored]))]) [0, 3] rfl
      have hDc := hD.sub (ws' := [(h_net, .inr (0, [.ref a_net_sorts, .ref a_net_ranks, .ref a_net_starts, .ref a_net_literals, .ref a_net_nextLiterals, .ref a_net_outputs, .int net_gateTotal, .int net_inputTotal, .int net_latchTotal, .int net_outputTotal])), (h_exp, .inr (4, [.ref h_net, .ref h_tab, .ref h_wlk, .ref h_par, .int exp_explored]))]) [0, 3] (by decide) rfl
      have hFc := va_free (wc := [(h_net, .inr (0, [.ref a_net_sorts, .ref a_net_ranks, .ref a_net_starts, .ref a_net_literals, .ref a_net_nextLiterals, .ref a_net_outputs, .int net_gateTotal, .int net_inputTotal, .int net_latchTotal, .int net_outputTotal])), (h_exp, .inr (4, [.ref h_net, .ref h_tab, .ref h_wlk, .ref h_par, .int exp_explored]))]) hD hS hA [0, 3] rfl
      refine sx_stV (va_runV (As := [.int p0]) (rest := []) ⟨hx, hb, hml, hown, hts⟩ (k_Exp_requireGate l dC dI cI cL cZ t1 t2 h_net a_net_sorts a_net_ranks a_net_starts a_net_literals a_net_nextLiterals a_net_outputs h_exp h_tab h_wlk h_par net_gateTotal net_inputTotal net_latchTotal net_outputTotal exp_explored _ p0 () hv4) (cwV 1 hts (sx_gV tw_454 tw_456 tw_16 tw_36 tcExp_requireGate) rfl rfl rfl (by decide +kernel) ⟨Nat.le_of_ble_eq_true rfl, Nat.le_of_ble_eq_true rfl⟩) (sx_pV hK hX hS hPc hDc hFc (va_recv hK hPc (ci := 4) (q0 := 1) rfl rfl)) rfl rfl hl.1 rfl (lv_room (Nat.le_of_ble_eq_true rfl)) dExp_isSame_6 ⟨Nat.le_of_ble_eq_true rfl, Nat.le_of_ble_eq_true rfl⟩) ?_
      refine lv_aload_n hx hb dExp_isSame_9 rfl (lv_at hl 0 rfl) ?_
      refine lv_iload_n hx hb dExp_isSame_10 rfl (lv_at hl 2 rfl) ?_
      obtain ⟨v7, hv7, hm⟩ := sx_bind hm
      rcases v7 with k9 | u9
      · cases hm
      · have hPc := hP.sub (ws' := [(h_net, .inr (0, [.ref a_net_sorts, .ref a_net_ranks, .ref a_net_starts, .ref a_net_literals, .ref a_net_nextLiterals, .ref a_net_outputs, .int net_gateTotal, .int net_inputTotal, .int net_latchTotal, .int net_outputTotal])), (h_exp, .inr (4, [.ref h_net, .ref h_tab, .ref h_wlk, .ref h_par, .int exp_explored]))]) [0, 3] rfl
        have hDc := hD.sub (ws' := [(h_net, .inr (0, [.ref a_net_sorts, .ref a_net_ranks, .ref a_net_starts, .ref a_net_literals, .ref a_net_nextLiterals, .ref a_net_outputs, .int net_gateTotal, .int net_inputTotal, .int net_latchTotal, .int net_outputTotal])), (h_exp, .inr (4, [.ref h_net, .ref h_tab, .ref h_wlk, .ref h_par, .int exp_explored]))]) [0, 3] (by decide) rfl
        have hFc := va_free (wc := [(h_net, .inr (0, [.ref a_net_sorts, .ref a_net_ranks, .ref a_net_starts, .ref a_net_literals, .ref a_net_nextLiterals, .ref a_net_outputs, .int net_gateTotal, .int net_inputTotal, .int net_latchTotal, .int net_outputTotal])), (h_exp, .inr (4, [.ref h_net, .ref h_tab, .ref h_wlk, .ref h_par, .int exp_explored]))]) hD hS hA [0, 3] rfl
        refine sx_stV (va_runV (As := [.int p1]) (rest := []) ⟨hx, hb, hml, hown, hts⟩ (k_Exp_requireGate l dC dI cI cL cZ t1 t2 h_net a_net_sorts a_net_ranks a_net_starts a_net_literals a_net_nextLiterals a_net_outputs h_exp h_tab h_wlk h_par net_gateTotal net_inputTotal net_latchTotal net_outputTotal exp_explored _ p1 () hv7) (cwV 1 hts (sx_gV tw_454 tw_456 tw_16 tw_36 tcExp_requireGate) rfl rfl rfl (by decide +kernel) ⟨Nat.le_of_ble_eq_true rfl, Nat.le_of_ble_eq_true rfl⟩) (sx_pV hK hX hS hPc hDc hFc (va_recv hK hPc (ci := 4) (q0 := 1) rfl rfl)) rfl rfl hl.1 rfl (lv_room (Nat.le_of_ble_eq_true rfl)) dExp_isSame_11 ⟨Nat.le_of_ble_eq_true rfl, Nat.le_of_ble_eq_true rfl⟩) ?_
        refine lv_aload_n hx hb dExp_isSame_14 rfl (lv_at hl 0 rfl) ?_
        refine va_get (D := (dC, dI)) (ci := 4) (v := .ref h_wlk) (C := RExp) (T := TExp) (N := 5) hx hb hts inExp hown hK hP 3 rfl rfl 2 (by decide) (hts _ tw_195) (fun _ h9 => h9) rfl dExp_isSame_15 ?_
        refine lv_aload_n hx hb dExp_isSame_18 rfl (lv_at hl 0 rfl) ?_
        refine va_get (D := (dC, dI)) (ci := 4) (v := .ref h_tab) (C := RExp) (T := TExp) (N := 5) hx hb hts inExp hown hK hP 3 rfl rfl 1 (by decide) (hts _ tw_194) (fun _ h9 => h9) rfl dExp_isSame_19 ?_
        refine lv_iload_n hx hb dExp_isSame_22 rfl (lv_at hl 1 rfl) ?_
        refine lv_iload_n hx hb dExp_isSame_23 rfl (lv_at hl 2 rfl) ?_
        obtain ⟨v10, hv10, hm⟩ := sx_bind hm
        have hPc := hP.sub (ws' := [(h_tab, .inr (2, [.ref a_tab_known, .ref a_tab_settled, .ref a_tab_values, .ref a_tab_nextStates])), (h_wlk, .inr (3, [.ref a_wlk_distances, .ref a_wlk_order, .ref a_wlk_parents, .ref a_wlk_steps, .ref a_wlk_settledPairs, .int wlk_words, .int wlk_reached, .int wlk_doubts, .int wlk_doubtState, .int wlk_doubtChoice])), (a_tab_values, .inl (cL, 3840, .inr (.inl tab_values))), (a_wlk_settledPairs, .inl (cL, 64, .inr (.inl wlk_settledPairs)))]) [1, 2, 4, 5] rfl
        have hDc := hD.sub (ws' := [(h_tab, .inr (2, [.ref a_tab_known, .ref a_tab_settled, .ref a_tab_values, .ref a_tab_nextStates])), (h_wlk, .inr (3, [.ref a_wlk_distances, .ref a_wlk_order, .ref a_wlk_parents, .ref a_wlk_steps, .ref a_wlk_settledPairs, .int wlk_words, .int wlk_reached, .int wlk_doubts, .int wlk_doubtState, .int wlk_doubtChoice])), (a_tab_values, .inl (cL, 3840, .inr (.inl tab_values))), (a_wlk_settledPairs, .inl (cL, 64, .inr (.inl wlk_settledPairs)))]) [1, 2, 4, 5] (by decide) rfl
        have hFc := va_free (wc := [(h_tab, .inr (2, [.ref a_tab_known, .ref a_tab_settled, .ref a_tab_values, .ref a_tab_nextStates])), (h_wlk, .inr (3, [.ref a_wlk_distances, .ref a_wlk_order, .ref a_wlk_parents, .ref a_wlk_steps, .ref a_wlk_settledPairs, .int wlk_words, .int wlk_reached, .int wlk_doubts, .int wlk_doubtState, .int wlk_doubtChoice])), (a_tab_values, .inl (cL, 3840, .inr (.inl tab_values))), (a_wlk_settledPairs, .inl (cL, 64, .inr (.inl wlk_settledPairs)))]) hD hS hA [1, 2, 4, 5] rfl
        refine sx_stI (va_runV (As := [.ref h_tab, .int p0, .int p1]) (rest := []) ⟨hx, hb, hml, hown, hts⟩ (k_Wlk_everDiffer l dC dI cI cL cZ t1 t2 h_tab a_tab_known a_tab_settled a_tab_values a_tab_nextStates h_wlk a_wlk_distances a_wlk_order a_wlk_parents a_wlk_steps a_wlk_settledPairs tab_values wlk_settledPairs wlk_words wlk_reached wlk_doubts wlk_doubtState wlk_doubtChoice _ p0 p1 v10 hv10) (cwV 3 hts (sx_gV tw_593 tw_594 tw_595 tw_39 tcWlk_everDiffer) rfl rfl rfl (by decide +kernel) ⟨Nat.le_of_ble_eq_true rfl, Nat.le_of_ble_eq_true rfl⟩) (sx_pV hK hX hS hPc hDc hFc (va_recv hK hPc (ci := 3) (q0 := 1) rfl rfl)) rfl rfl hl.1 rfl (lv_room (Nat.le_of_ble_eq_true rfl)) dExp_isSame_24 ⟨Nat.le_of_ble_eq_true rfl, Nat.le_of_ble_eq_true rfl⟩) ?_
        refine lv_if_ne (tgt := 34) hx hb dExp_isSame_27 (by decide) (fun c12 => ?_) (fun c12 => ?_)
        · have hm := sx_neg c12 hm
          refine lv_iconst (v := (0 : Int32)) hx hb dExp_isSame_34 (by decide) ?_
          obtain rfl := Sum.inr.inj (Option.some.inj hm)
          exact W.zret (v := (0 : Int32)) hx hb hr sx_z0 (fun t ht hW => ⟨rfl, ht⟩) (fun q hq => nomatch hq) dExp_isSame_35
        · have hm := sx_pos c12 hm
          refine lv_iconst (v := (1 : Int32)) hx hb dExp_isSame_30 (by decide) ?_
          refine lv_goto (tgt := 35) hx hb dExp_isSame_31 (by decide) ?_
          obtain rfl := Sum.inr.inj (Option.some.inj hm)
          exact W.zret (v := (1 : Int32)) hx hb hr sx_z1 (fun t ht hW => ⟨rfl, ht⟩) (fun q hq => nomatch hq) dExp_isSame_35
set_option maxHeartbeats 4000000 in
set_option maxRecDepth 100000 in
theorem kt_Exp_isSame (l : Launch) (hnt : l.stackTraces = false) (dC : Nat → ClassId) (dI : Nat → Nat → Nat) (cI cL cZ : ClassId) (t1 t2 : Nat) (h_net a_net_sorts a_net_ranks a_net_starts a_net_literals a_net_nextLiterals a_net_outputs h_tab a_tab_known a_tab_settled a_tab_values a_tab_nextStates h_wlk a_wlk_distances a_wlk_order a_wlk_parents a_wlk_steps a_wlk_settledPairs h_exp h_par : Nat) (net_gateTotal net_inputTotal net_latchTotal net_outputTotal : Int32) (tab_values wlk_settledPairs : Nat → Int64) (wlk_words wlk_reached wlk_doubts wlk_doubtState wlk_doubtChoice exp_explored : Int32) (sz : Nat) (p0 : Int32) (p1 : Int32) (k : Nat) (hm : m_Exp_isSame net_gateTotal tab_values wlk_settledPairs wlk_words exp_explored p0 p1 = some (.inl k)) : sx_Thr l yExp_isSame wsExp_isSame rmt_Exp_isSame (sx_Pc (dC, dI) [(cI, .int), (cL, .long), (cZ, .boolean)] t1 t2 [(h_net, .inr (0, [.ref a_net_sorts, .ref a_net_ranks, .ref a_net_starts, .ref a_net_literals, .ref a_net_nextLiterals, .ref a_net_outputs, .int net_gateTotal, .int net_inputTotal, .int net_latchTotal, .int net_outputTotal])), (h_tab, .inr (2, [.ref a_tab_known, .ref a_tab_settled, .ref a_tab_values, .ref a_tab_nextStates])), (h_wlk, .inr (3, [.ref a_wlk_distances, .ref a_wlk_order, .ref a_wlk_parents, .ref a_wlk_steps, .ref a_wlk_settledPairs, .int wlk_words, .int wlk_reached, .int wlk_doubts, .int wlk_doubtState, .int wlk_doubtChoice])), (h_exp, .inr (4, [.ref h_net, .ref h_tab, .ref h_wlk, .ref h_par, .int exp_explored])), (a_tab_values, .inl (cL, 3840, .inr (.inl tab_values))), (a_wlk_settledPairs, .inl (cL, 64, .inr (.inl wlk_settledPairs)))] sz [.ref h_exp, .int p0, .int p1]) (sx_E k) 1 6 := by
  refine sx_thrOf (cc := cExp_isSame) (maxL := 3) (ret := (some .boolean)) (by decide) rfl ?_
  intro p e s m args below meth c s₁ B hml hnx hv
  obtain ⟨rfl, hsz, hP, hK, hD0, hX⟩ := hv
  have hx := B.exec
  have hb := B.bytes
  have hr := B.returns
  have hts0 := atoms_spec (ws := wsExp_isSame) B.pre
  have hts : ∀ w ∈ tb, w.before _ s = true := fun w h => hts0 w (List.mem_cons_of_mem _ h)
  have hown : s.vm.findClass "StateExplorer" = some m.cls := findClass_of_methodNamed B.named
  have hlocks := B.notSynchronized
  subst hsz
  have hD := hD0.self (sz := s.heap.size)
  generalize hAe : va_A [(h_net, .inr (0, [.ref a_net_sorts, .ref a_net_ranks, .ref a_net_starts, .ref a_net_literals, .ref a_net_nextLiterals, .ref a_net_outputs, .int net_gateTotal, .int net_inputTotal, .int net_latchTotal, .int net_outputTotal])), (h_tab, .inr (2, [.ref a_tab_known, .ref a_tab_settled, .ref a_tab_values, .ref a_tab_nextStates])), (h_wlk, .inr (3, [.ref a_wlk_distances, .ref a_wlk_order, .ref a_wlk_parents, .ref a_wlk_steps, .ref a_wlk_settledPairs, .int wlk_words, .int wlk_reached, .int wlk_doubts, .int wlk_doubtState, .int wlk_doubtChoice])), (h_exp, .inr (4, [.ref h_net, .ref h_tab, .ref h_wlk, .ref h_par, .int exp_explored])), (a_tab_values, .inl (cL, 3840, .inr (.inl tab_values))), (a_wlk_settledPairs, .inl (cL, 64, .inr (.inl wlk_settledPairs)))] s.heap.size = A at hD hX 
  have hA : ∀ q : Nat, s.heap.size ≤ q → A q := fun q h => by rw [← hAe]; exact Or.inr h
  have hS : va_S A s.heap s.heap [] := va_S.rf
  have hl := lv_entry ([.ref h_exp, .int p0, .int p1]) (n := 3) (Nat.le_of_ble_eq_true rfl)
  rw [lg_entry_eq]
  generalize (lg_sl ([.ref h_exp, .int p0, .int p1]) ++ List.replicate (3 - (lg_sl ([.ref h_exp, .int p0, .int p1])).length) Slot.unset).toArray = ls at hl ⊢
  have hl : lv_has ls 3 [(0, .ref h_exp), (1, .int p0), (2, .int p1)] := hl
  have C0 : sx_C p s m _ meth c cExp_isSame 3 "StateExplorer" A (dC, dI) [(cI, .int), (cL, .long), (cZ, .boolean)] t1 t2 := ⟨hx, hb, hml, hown, hts, hA, hK, hlocks, hX⟩
  rw [m_Exp_isSame] at hm
  refine lv_aload_n hx hb dExp_isSame_0 rfl (lv_at hl 0 rfl) ?_
  obtain ⟨v1, hv1, hm⟩ := sx_bind hm
  rcases v1 with k9 | u9
  · have hPc := hP.sub (ws' := [(h_exp, .inr (4, [.ref h_net, .ref h_tab, .ref h_wlk, .ref h_par, .int exp_explored]))]) [3] rfl
    have hDc := hD.sub (ws' := [(h_exp, .inr (4, [.ref h_net, .ref h_tab, .ref h_wlk, .ref h_par, .int exp_explored]))]) [3] (by decide) rfl
    have hFc := va_free (wc := [(h_exp, .inr (4, [.ref h_net, .ref h_tab, .ref h_wlk, .ref h_par, .int exp_explored]))]) hD hS hA [3] rfl
    obtain rfl := Sum.inl.inj (Option.some.inj hm)
    refine sx_callT (As := []) (rest := []) ⟨hx, hb, hml, hown, hts⟩ (kt_Exp_requireExplored l hnt dC dI cI cL cZ t1 t2 h_exp h_net h_tab h_wlk h_par exp_explored _ _ hv1) (cwV 0 hts (sx_gV tw_522 tw_524 tw_17 tw_36 tcExp_requireExplored) rfl rfl rfl (by decide +kernel) ⟨Nat.le_of_ble_eq_true rfl, Nat.le_of_ble_eq_true rfl⟩) (sx_pV hK hX hS hPc hDc hFc (va_recv hK hPc (ci := 4) (q0 := 0) rfl rfl)) rfl hl.1 rfl (lv_room (Nat.le_of_ble_eq_true rfl)) dExp_isSame_1 ⟨Nat.le_of_ble_eq_true rfl, Nat.le_of_ble_eq_true rfl⟩ (fun ce q H1 z1 z2 z3 z4 z5 => ?_)
    exact sx_out hnx hlocks z3 z4 z5 (Nat.le_of_ble_eq_true rfl) (Nat.le_of_ble_eq_true rfl)
  · have hPc := hP.sub (ws' := [(h_exp, .inr (4, [.ref h_net, .ref h_tab, .ref h_wlk, .ref h_par, .int exp_explored]))]) [3] rfl
    have hDc := hD.sub (ws' := [(h_exp, .inr (4, [.ref h_net, .ref h_tab, .ref h_wlk, .ref h_par, .int exp_explored]))]) [3] (by decide) rfl
    have hFc := va_free (wc := [(h_exp, .inr (4, [.ref h_net, .ref h_tab, .ref h_wlk, .ref h_par, .int exp_explored]))]) hD hS hA [3] rfl
    refine sx_stV (va_runV (As := []) (rest := []) ⟨hx, hb, hml, hown, hts⟩ (k_Exp_requireExplored l dC dI cI cL cZ t1 t2 h_exp h_net h_tab h_wlk h_par exp_explored _ () hv1) (cwV 0 hts (sx_gV tw_522 tw_524 tw_17 tw_36 tcExp_requireExplored) rfl rfl rfl (by decide +kernel) ⟨Nat.le_of_ble_eq_true rfl, Nat.le_of_ble_eq_true rfl⟩) (sx_pV hK hX hS hPc hDc hFc (va_recv hK hPc (ci := 4) (q0 := 0) rfl rfl)) rfl rfl hl.1 rfl (lv_room (Nat.le_of_ble_eq_true rfl)) dExp_isSame_1 ⟨Nat.le_of_ble_eq_true rfl, Nat.le_of_ble_eq_true rfl⟩) ?_
    refine lv_aload_n hx hb dExp_isSame_4 rfl (lv_at hl 0 rfl) ?_
    refine lv_iload_n hx hb dExp_isSame_5 rfl (lv_at hl 1 rfl) ?_
    obtain ⟨v4, hv4, hm⟩ := sx_bind hm
    rcases v4 with k9 | u9
    · have hPc := hP.sub (ws' := [(h_net, .inr (0, [.ref a_net_sorts, .ref a_net_ranks, .ref a_net_starts, .ref a_net_literals, .ref a_net_nextLiterals, .ref a_net_outputs, .int net_gateTotal, .int net_inputTotal, .int net_latchTotal, .int net_outputTotal])), (h_exp, .inr (4, [.ref h_net, .ref h_tab, .ref h_wlk, .ref h_par, .int exp_explored]))]) [0, 3] rfl
      have hDc := hD.sub (ws' := [(h_net, .inr (0, [.ref a_net_sorts, .ref a_net_ranks, .ref a_net_starts, .ref a_net_literals, .ref a_net_nextLiterals, .ref a_net_outputs, .int net_gateTotal, .int net_inputTotal, .int net_latchTotal, .int net_outputTotal])), (h_exp, .inr (4, [.ref h_net, .ref h_tab, .ref h_wlk, .ref h_par, .int exp_explored]))]) [0, 3] (by decide) rfl
      have hFc := va_free (wc := [(h_net, .inr (0, [.ref a_net_sorts, .ref a_net_ranks, .ref a_net_starts, .ref a_net_literals, .ref a_net_nextLiterals, .ref a_net_outputs, .int net_gateTotal, .int net_inputTotal, .int net_latchTotal, .int net_outputTotal])), (h_exp, .inr (4, [.ref h_net, .ref h_tab, .ref h_wlk, .ref h_par, .int exp_explored]))]) hD hS hA [0, 3] rfl
      obtain rfl := Sum.inl.inj (Option.some.inj hm)
      refine sx_callT (As := [.int p0]) (rest := []) ⟨hx, hb, hml, hown, hts⟩ (kt_Exp_requireGate l hnt dC dI cI cL cZ t1 t2 h_net a_net_sorts a_net_ranks a_net_starts a_net_literals a_net_nextLiterals a_net_outputs h_exp h_tab h_wlk h_par net_gateTotal net_inputTotal net_latchTotal net_outputTotal exp_explored _ p0 _ hv4) (cwV 1 hts (sx_gV tw_454 tw_456 tw_16 tw_36 tcExp_requireGate) rfl rfl rfl (by decide +kernel) ⟨Nat.le_of_ble_eq_true rfl, Nat.le_of_ble_eq_true rfl⟩) (sx_pV hK hX hS hPc hDc hFc (va_recv hK hPc (ci := 4) (q0 := 1) rfl rfl)) rfl hl.1 rfl (lv_room (Nat.le_of_ble_eq_true rfl)) dExp_isSame_6 ⟨Nat.le_of_ble_eq_true rfl, Nat.le_of_ble_eq_true rfl⟩ (fun ce q H1 z1 z2 z3 z4 z5 => ?_)
      exact sx_out hnx hlocks z3 z4 z5 (Nat.le_of_ble_eq_true rfl) (Nat.le_of_ble_eq_true rfl)
    · have hPc := hP.sub (ws' := [(h_net, .inr (0, [.ref a_net_sorts, .ref a_net_ranks, .ref a_net_starts, .ref a_net_literals, .ref a_net_nextLiterals, .ref a_net_outputs, .int net_gateTotal, .int net_inputTotal, .int net_latchTotal, .int net_outputTotal])), (h_exp, .inr (4, [.ref h_net, .ref h_tab, .ref h_wlk, .ref h_par, .int exp_explored]))]) [0, 3] rfl
      have hDc := hD.sub (ws' := [(h_net, .inr (0, [.ref a_net_sorts, .ref a_net_ranks, .ref a_net_starts, .ref a_net_literals, .ref a_net_nextLiterals, .ref a_net_outputs, .int net_gateTotal, .int net_inputTotal, .int net_latchTotal, .int net_outputTotal])), (h_exp, .inr (4, [.ref h_net, .ref h_tab, .ref h_wlk, .ref h_par, .int exp_explored]))]) [0, 3] (by decide) rfl
      have hFc := va_free (wc := [(h_net, .inr (0, [.ref a_net_sorts, .ref a_net_ranks, .ref a_net_starts, .ref a_net_literals, .ref a_net_nextLiterals, .ref a_net_outputs, .int net_gateTotal, .int net_inputTotal, .int net_latchTotal, .int net_outputTotal])), (h_exp, .inr (4, [.ref h_net, .ref h_tab, .ref h_wlk, .ref h_par, .int exp_explored]))]) hD hS hA [0, 3] rfl
      refine sx_stV (va_runV (As := [.int p0]) (rest := []) ⟨hx, hb, hml, hown, hts⟩ (k_Exp_requireGate l dC dI cI cL cZ t1 t2 h_net a_net_sorts a_net_ranks a_net_starts a_net_literals a_net_nextLiterals a_net_outputs h_exp h_tab h_wlk h_par net_gateTotal net_inputTotal net_latchTotal net_outputTotal exp_explored _ p0 () hv4) (cwV 1 hts (sx_gV tw_454 tw_456 tw_16 tw_36 tcExp_requireGate) rfl rfl rfl (by decide +kernel) ⟨Nat.le_of_ble_eq_true rfl, Nat.le_of_ble_eq_true rfl⟩) (sx_pV hK hX hS hPc hDc hFc (va_recv hK hPc (ci := 4) (q0 := 1) rfl rfl)) rfl rfl hl.1 rfl (lv_room (Nat.le_of_ble_eq_true rfl)) dExp_isSame_6 ⟨Nat.le_of_ble_eq_true rfl, Nat.le_of_ble_eq_true rfl⟩) ?_
      refine lv_aload_n hx hb dExp_isSame_9 rfl (lv_at hl 0 rfl) ?_
      refine lv_iload_n hx hb dExp_isSame_10 rfl (lv_at hl 2 rfl) ?_
      obtain ⟨v7, hv7, hm⟩ := sx_bind hm
      rcases v7 with k9 | u9
      · have hPc := hP.sub (ws' := [(h_net, .inr (0, [.ref a_net_sorts, .ref a_net_ranks, .ref a_net_starts, .ref a_net_literals, .ref a_net_nextLiterals, .ref a_net_outputs, .int net_gateTotal, .int net_inputTotal, .int net_latchTotal, .int net_outputTotal])), (h_exp, .inr (4, [.ref h_net, .ref h_tab, .ref h_wlk, .ref h_par, .int exp_explored]))]) [0, 3] rfl
        have hDc := hD.sub (ws' := [(h_net, .inr (0, [.ref a_net_sorts, .ref a_net_ranks, .ref a_net_starts, .ref a_net_literals, .ref a_net_nextLiterals, .ref a_net_outputs, .int net_gateTotal, .int net_inputTotal, .int net_latchTotal, .int net_outputTotal])), (h_exp, .inr (4, [.ref h_net, .ref h_tab, .ref h_wlk, .ref h_par, .int exp_explored]))]) [0, 3] (by decide) rfl
        have hFc := va_free (wc := [(h_net, .inr (0, [.ref a_net_sorts, .ref a_net_ranks, .ref a_net_starts, .ref a_net_literals, .ref a_net_nextLiterals, .ref a_net_outputs, .int net_gateTotal, .int net_inputTotal, .int net_latchTotal, .int net_outputTotal])), (h_exp, .inr (4, [.ref h_net, .ref h_tab, .ref h_wlk, .ref h_par, .int exp_explored]))]) hD hS hA [0, 3] rfl
        obtain rfl := Sum.inl.inj (Option.some.inj hm)
        refine sx_callT (As := [.int p1]) (rest := []) ⟨hx, hb, hml, hown, hts⟩ (kt_Exp_requireGate l hnt dC dI cI cL cZ t1 t2 h_net a_net_sorts a_net_ranks a_net_starts a_net_literals a_net_nextLiterals a_net_outputs h_exp h_tab h_wlk h_par net_gateTotal net_inputTotal net_latchTotal net_outputTotal exp_explored _ p1 _ hv7) (cwV 1 hts (sx_gV tw_454 tw_456 tw_16 tw_36 tcExp_requireGate) rfl rfl rfl (by decide +kernel) ⟨Nat.le_of_ble_eq_true rfl, Nat.le_of_ble_eq_true rfl⟩) (sx_pV hK hX hS hPc hDc hFc (va_recv hK hPc (ci := 4) (q0 := 1) rfl rfl)) rfl hl.1 rfl (lv_room (Nat.le_of_ble_eq_true rfl)) dExp_isSame_11 ⟨Nat.le_of_ble_eq_true rfl, Nat.le_of_ble_eq_true rfl⟩ (fun ce q H1 z1 z2 z3 z4 z5 => ?_)
        exact sx_out hnx hlocks z3 z4 z5 (Nat.le_of_ble_eq_true rfl) (Nat.le_of_ble_eq_true rfl)
      · have hPc := hP.sub (ws' := [(h_net, .inr (0, [.ref a_net_sorts, .ref a_net_ranks, .ref a_net_starts, .ref a_net_literals, .ref a_net_nextLiterals, .ref a_net_outputs, .int net_gateTotal, .int net_inputTotal, .int net_latchTotal, .int net_outputTotal])), (h_exp, .inr (4, [.ref h_net, .ref h_tab, .ref h_wlk, .ref h_par, .int exp_explored]))]) [0, 3] rfl
        have hDc := hD.sub (ws' := [(h_net, .inr (0, [.ref a_net_sorts, .ref a_net_ranks, .ref a_net_starts, .ref a_net_literals, .ref a_net_nextLiterals, .ref a_net_outputs, .int net_gateTotal, .int net_inputTotal, .int net_latchTotal, .int net_outputTotal])), (h_exp, .inr (4, [.ref h_net, .ref h_tab, .ref h_wlk, .ref h_par, .int exp_explored]))]) [0, 3] (by decide) rfl
        have hFc := va_free (wc := [(h_net, .inr (0, [.ref a_net_sorts, .ref a_net_ranks, .ref a_net_starts, .ref a_net_literals, .ref a_net_nextLiterals, .ref a_net_outputs, .int net_gateTotal, .int net_inputTotal, .int net_latchTotal, .int net_outputTotal])), (h_exp, .inr (4, [.ref h_net, .ref h_tab, .ref h_wlk, .ref h_par, .int exp_explored]))]) hD hS hA [0, 3] rfl
        refine sx_stV (va_runV (As := [.int p1]) (rest := []) ⟨hx, hb, hml, hown, hts⟩ (k_Exp_requireGate l dC dI cI cL cZ t1 t2 h_net a_net_sorts a_net_ranks a_net_starts a_net_literals a_net_nextLiterals a_net_outputs h_exp h_tab h_wlk h_par net_gateTotal net_inputTotal net_latchTotal net_outputTotal exp_explored _ p1 () hv7) (cwV 1 hts (sx_gV tw_454 tw_456 tw_16 tw_36 tcExp_requireGate) rfl rfl rfl (by decide +kernel) ⟨Nat.le_of_ble_eq_true rfl, Nat.le_of_ble_eq_true rfl⟩) (sx_pV hK hX hS hPc hDc hFc (va_recv hK hPc (ci := 4) (q0 := 1) rfl rfl)) rfl rfl hl.1 rfl (lv_room (Nat.le_of_ble_eq_true rfl)) dExp_isSame_11 ⟨Nat.le_of_ble_eq_true rfl, Nat.le_of_ble_eq_true rfl⟩) ?_
        refine lv_aload_n hx hb dExp_isSame_14 rfl (lv_at hl 0 rfl) ?_
        refine va_get (D := (dC, dI)) (ci := 4) (v := .ref h_wlk) (C := RExp) (T := TExp) (N := 5) hx hb hts inExp hown hK hP 3 rfl rfl 2 (by decide) (hts _ tw_195) (fun _ h9 => h9) rfl dExp_isSame_15 ?_
        refine lv_aload_n hx hb dExp_isSame_18 rfl (lv_at hl 0 rfl) ?_
        refine va_get (D := (dC, dI)) (ci := 4) (v := .ref h_tab) (C := RExp) (T := TExp) (N := 5) hx hb hts inExp hown hK hP 3 rfl rfl 1 (by decide) (hts _ tw_194) (fun _ h9 => h9) rfl dExp_isSame_19 ?_
        refine lv_iload_n hx hb dExp_isSame_22 rfl (lv_at hl 1 rfl) ?_
        refine lv_iload_n hx hb dExp_isSame_23 rfl (lv_at hl 2 rfl) ?_
        obtain ⟨v10, hv10, hm⟩ := sx_bind hm
        have hPc := hP.sub (ws' := [(h_tab, .inr (2, [.ref a_tab_known, .ref a_tab_settled, .ref a_tab_values, .ref a_tab_nextStates])), (h_wlk, .inr (3, [.ref a_wlk_distances, .ref a_wlk_order, .ref a_wlk_parents, .ref a_wlk_steps, .ref a_wlk_settledPairs, .int wlk_words, .int wlk_reached, .int wlk_doubts, .int wlk_doubtState, .int wlk_doubtChoice])), (a_tab_values, .inl (cL, 3840, .inr (.inl tab_values))), (a_wlk_settledPairs, .inl (cL, 64, .inr (.inl wlk_settledPairs)))]) [1, 2, 4, 5] rfl
        have hDc := hD.sub (ws' := [(h_tab, .inr (2, [.ref a_tab_known, .ref a_tab_settled, .ref a_tab_values, .ref a_tab_nextStates])), (h_wlk, .inr (3, [.ref a_wlk_distances, .ref a_wlk_order, .ref a_wlk_parents, .ref a_wlk_steps, .ref a_wlk_settledPairs, .int wlk_words, .int wlk_reached, .int wlk_doubts, .int wlk_doubtState, .int wlk_doubtChoice])), (a_tab_values, .inl (cL, 3840, .inr (.inl tab_values))), (a_wlk_settledPairs, .inl (cL, 64, .inr (.inl wlk_settledPairs)))]) [1, 2, 4, 5] (by decide) rfl
        have hFc := va_free (wc := [(h_tab, .inr (2, [.ref a_tab_known, .ref a_tab_settled, .ref a_tab_values, .ref a_tab_nextStates])), (h_wlk, .inr (3, [.ref a_wlk_distances, .ref a_wlk_order, .ref a_wlk_parents, .ref a_wlk_steps, .ref a_wlk_settledPairs, .int wlk_words, .int wlk_reached, .int wlk_doubts, .int wlk_doubtState, .int wlk_doubtChoice])), (a_tab_values, .inl (cL, 3840, .inr (.inl tab_values))), (a_wlk_settledPairs, .inl (cL, 64, .inr (.inl wlk_settledPairs)))]) hD hS hA [1, 2, 4, 5] rfl
        refine sx_stI (va_runV (As := [.ref h_tab, .int p0, .int p1]) (rest := []) ⟨hx, hb, hml, hown, hts⟩ (k_Wlk_everDiffer l dC dI cI cL cZ t1 t2 h_tab a_tab_known a_tab_settled a_tab_values a_tab_nextStates h_wlk a_wlk_distances a_wlk_order a_wlk_parents a_wlk_steps a_wlk_settledPairs tab_values wlk_settledPairs wlk_words wlk_reached wlk_doubts wlk_doubtState wlk_doubtChoice _ p0 p1 v10 hv10) (cwV 3 hts (sx_gV tw_593 tw_594 tw_595 tw_39 tcWlk_everDiffer) rfl rfl rfl (by decide +kernel) ⟨Nat.le_of_ble_eq_true rfl, Nat.le_of_ble_eq_true rfl⟩) (sx_pV hK hX hS hPc hDc hFc (va_recv hK hPc (ci := 3) (q0 := 1) rfl rfl)) rfl rfl hl.1 rfl (lv_room (Nat.le_of_ble_eq_true rfl)) dExp_isSame_24 ⟨Nat.le_of_ble_eq_true rfl, Nat.le_of_ble_eq_true rfl⟩) ?_
        refine lv_if_ne (tgt := 34) hx hb dExp_isSame_27 (by decide) (fun c12 => ?_) (fun c12 => ?_)
        · have hm := sx_neg c12 hm
          refine lv_iconst (v := (0 : Int32)) hx hb dExp_isSame_34 (by decide) ?_
          cases hm
        · have hm := sx_pos c12 hm
          refine lv_iconst (v := (1 : Int32)) hx hb dExp_isSame_30 (by decide) ?_
          refine lv_goto (tgt := 35) hx hb dExp_isSame_31 (by decide) ?_
          cases hm
noncomputable def m_Exp_group (net_latchTotal : Int32) (par_names wlk_distances : Nat → Int32) (exp_explored : Int32) (p0 : Int32) : Option (Nat ⊕ (Int32)) := (m_Exp_requireExplored exp_explored).bind (Sum.elim (fun k => some (.inl k)) (fun _ => (m_Exp_requireState net_latchTotal p0).bind (Sum.elim (fun k => some (.inl k)) (fun _ => gd (vp_in p0 256) ((if wlk_distances p0.toNatClampNeg = (-1 : Int32) then some (.inr (-1 : Int32)) else gd (vp_in p0 256) (some (.inr (par_names p0.toNatClampNeg)))))))))
def rm_Exp_group : Room := { frames := 2, cells := 0, slots := 0, locals := 41 }
def rmt_Exp_group : Room := { frames := 7, cells := 1, slots := 6, locals := 121 }
set_option maxHeartbeats 4000000 in
set_option maxRecDepth 100000 in
theorem k_Exp_group (l : Launch) (dC : Nat → ClassId) (dI : Nat → Nat → Nat) (cI cL cZ : ClassId) (t1 t2 : Nat) (h_net a_net_sorts a_net_ranks a_net_starts a_net_literals a_net_nextLiterals a_net_outputs h_par a_par_names a_par_finer a_par_behind h_wlk a_wlk_distances a_wlk_order a_wlk_parents a_wlk_steps a_wlk_settledPairs h_exp h_tab : Nat) (net_gateTotal net_inputTotal net_latchTotal net_outputTotal : Int32) (par_names : Nat → Int32) (par_total : Int32) (wlk_distances : Nat → Int32) (wlk_words wlk_reached wlk_doubts wlk_doubtState wlk_doubtChoice exp_explored : Int32) (sz : Nat) (p0 : Int32) (v : Int32) (hm : m_Exp_group net_latchTotal par_names wlk_distances exp_explored p0 = some (.inr v)) : Met l yExp_group wsExp_group rm_Exp_group (sx_Pc (dC, dI) [(cI, .int), (cL, .long), (cZ, .boolean)] t1 t2 [(h_net, .inr (0, [.ref a_net_sorts, .ref a_net_ranks, .ref a_net_starts, .ref a_net_literals, .ref a_net_nextLiterals, .ref a_net_outputs, .int net_gateTotal, .int net_inputTotal, .int net_latchTotal, .int net_outputTotal])), (h_par, .inr (1, [.ref a_par_names, .ref a_par_finer, .ref a_par_behind, .int par_total])), (h_wlk, .inr (3, [.ref a_wlk_distances, .ref a_wlk_order, .ref a_wlk_parents, .ref a_wlk_steps, .ref a_wlk_settledPairs, .int wlk_words, .int wlk_reached, .int wlk_doubts, .int wlk_doubtState, .int wlk_doubtChoice])), (h_exp, .inr (4, [.ref h_net, .ref h_tab, .ref h_wlk, .ref h_par, .int exp_explored])), (a_par_names, .inl (cI, 256, .inl par_names)), (a_wlk_distances, .inl (cI, 256, .inl wlk_distances))] sz [.ref h_exp, .int p0]) (sx_Si v) 0 0 (fun _ => False) := by
  refine Met.ofW (cc := cExp_group) (maxL := 2) (ret := (some .int)) (by decide) rfl ?_
  intro p e s m args below meth c s₁ B hml hv
  obtain ⟨rfl, hsz, hP, hK, hD0, hX⟩ := hv
  have hx := B.exec
  have hb := B.bytes
  have hr := B.returns
  have hts0 := atoms_spec (ws := wsExp_group) B.pre
  have hts : ∀ w ∈ tb, w.before _ s = true := fun w h => hts0 w (List.mem_cons_of_mem _ h)
  have hown : s.vm.findClass "StateExplorer" = some m.cls := findClass_of_methodNamed B.named
  have hlocks := B.notSynchronized
  subst hsz
  have hD := hD0.self (sz := s.heap.size)
  generalize hAe : va_A [(h_net, .inr (0, [.ref a_net_sorts, .ref a_net_ranks, .ref a_net_starts, .ref a_net_literals, .ref a_net_nextLiterals, .ref a_net_outputs, .int net_gateTotal, .int net_inputTotal, .int net_latchTotal, .int net_outputTotal])), (h_par, .inr (1, [.ref a_par_names, .ref a_par_finer, .ref a_par_behind, .int par_total])), (h_wlk, .inr (3, [.ref a_wlk_distances, .ref a_wlk_order, .ref a_wlk_parents, .ref a_wlk_steps, .ref a_wlk_settledPairs, .int wlk_words, .int wlk_reached, .int wlk_doubts, .int wlk_doubtState, .int wlk_doubtChoice])), (h_exp, .inr (4, [.ref h_net, .ref h_tab, .ref h_wlk, .ref h_par, .int exp_explored])), (a_par_names, .inl (cI, 256, .inl par_names)), (a_wlk_distances, .inl (cI, 256, .inl wlk_distances))] s.heap.size = A at hD hX 
  have hA : ∀ q : Nat, s.heap.size ≤ q → A q := fun q h => by rw [← hAe]; exact Or.inr h
  have hS : va_S A s.heap s.heap [] := va_S.rf
  have hl := lv_entry ([.ref h_exp, .int p0]) (n := 2) (Nat.le_of_ble_eq_true rfl)
  rw [lg_entry_eq]
  generalize (lg_sl ([.ref h_exp, .int p0]) ++ List.replicate (2 - (lg_sl ([.ref h_exp, .int p0])).length) Slot.unset).toArray = ls at hl ⊢
  have hl : lv_has ls 2 [(0, .ref h_exp), (1, .int p0)] := hl
  have C0 : sx_C p s m _ meth c cExp_group 2 "StateExplorer" A (dC, dI) [(cI, .int), (cL, .long), (cZ, .boolean)] t1 t2 := ⟨hx, hb, hml, hown, hts, hA, hK, hlocks, hX⟩
  rw [m_Exp_group] at hm
  refine lv_aload_n hx hb dExp_group_0 rfl (lv_at hl 0 rfl) ?_
  obtain ⟨v1, hv1, hm⟩ := sx_bind hm
  rcases v1 with k9 | u9
  · cases hm
  · have hPc := hP.sub (ws' := [(h_exp, .inr (4, [.ref h_net, .ref h_tab, .ref h_wlk, .ref h_par, .int exp_explored]))]) [3] rfl
    have hDc := hD.sub (ws' := [(h_exp, .inr (4, [.ref h_net, .ref h_tab, .ref h_wlk, .ref h_par, .int exp_explored]))]) [3] (by decide) rfl
    have hFc := va_free (wc := [(h_exp, .inr (4, [.ref h_net, .ref h_tab, .ref h_wlk, .ref h_par, .int exp_explored]))]) hD hS hA [3] rfl
    refine sx_stV (va_runV (As := []) (rest := []) ⟨hx, hb, hml, hown, hts⟩ (k_Exp_requireExplored l dC dI cI cL cZ t1 t2 h_exp h_net h_tab h_wlk h_par exp_explored _ () hv1) (cwV 0 hts (sx_gV tw_522 tw_524 tw_17 tw_36 tcExp_requireExplored) rfl rfl rfl (by decide +kernel) ⟨Nat.le_of_ble_eq_true rfl, Nat.le_of_ble_eq_true rfl⟩) (sx_pV hK hX hS hPc hDc hFc (va_recv hK hPc (ci := 4) (q0 := 0) rfl rfl)) rfl rfl hl.1 rfl (lv_room (Nat.le_of_ble_eq_true rfl)) dExp_group_1 ⟨Nat.le_of_ble_eq_true rfl, Nat.le_of_ble_eq_true rfl⟩) ?_
    refine lv_aload_n hx hb dExp_group_4 rfl (lv_at hl 0 rfl) ?_
    refine lv_iload_n hx hb dExp_group_5 rfl (lv_at hl 1 rfl) ?_
    obtain ⟨v4, hv4, hm⟩ := sx_bind hm
    rcases v4 with k9 | u9
    · cases hm
    · have hPc := hP.sub (ws' := [(h_net, .inr (0, [.ref a_net_sorts, .ref a_net_ranks, .ref a_net_starts, .ref a_net_literals, .ref a_net_nextLiterals, .ref a_net_outputs, .int net_gateTotal, .int net_inputTotal, .int net_latchTotal, .int net_outputTotal])), (h_exp, .inr (4, [.ref h_net, .ref h_tab, .ref h_wlk, .ref h_par, .int exp_explored]))]) [0, 3] rfl
      have hDc := hD.sub (ws' := [(h_net, .inr (0, [.ref a_net_sorts, .ref a_net_ranks, .ref a_net_starts, .ref a_net_literals, .ref a_net_nextLiterals, .ref a_net_outputs, .int net_gateTotal, .int net_inputTotal, .int net_latchTotal, .int net_outputTotal])), (h_exp, .inr (4, [.ref h_net, .ref h_tab, .ref h_wlk, .ref h_par, .int exp_explored]))]) [0, 3] (by decide) rfl
      have hFc := va_free (wc := [(h_net, .inr (0, [.ref a_net_sorts, .ref a_net_ranks, .ref a_net_starts, .ref a_net_literals, .ref a_net_nextLiterals, .ref a_net_outputs, .int net_gateTotal, .int net_inputTotal, .int net_latchTotal, .int net_outputTotal])), (h_exp, .inr (4, [.ref h_net, .ref h_tab, .ref h_wlk, .ref h_par, .int exp_explored]))]) hD hS hA [0, 3] rfl
      refine sx_stV (va_runV (As := [.int p0]) (rest := []) ⟨hx, hb, hml, hown, hts⟩ (k_Exp_requireState l dC dI cI cL cZ t1 t2 h_net a_net_sorts a_net_ranks a_net_starts a_net_literals a_net_nextLiterals a_net_outputs h_exp h_tab h_wlk h_par net_gateTotal net_inputTotal net_latchTotal net_outputTotal exp_explored _ p0 () hv4) (cwV 1 hts (sx_gV tw_527 tw_529 tw_18 tw_36 tcExp_requireState) rfl rfl rfl (by decide +kernel) ⟨Nat.le_of_ble_eq_true rfl, Nat.le_of_ble_eq_true rfl⟩) (sx_pV hK hX hS hPc hDc hFc (va_recv hK hPc (ci := 4) (q0 := 1) rfl rfl)) rfl rfl hl.1 rfl (lv_room (Nat.le_of_ble_eq_true rfl)) dExp_group_6 ⟨Nat.le_of_ble_eq_true rfl, Nat.le_of_ble_eq_true rfl⟩) ?_
      refine lv_aload_n hx hb dExp_group_9 rfl (lv_at hl 0 rfl) ?_
      refine va_get (D := (dC, dI)) (ci := 4) (v := .ref h_wlk) (C := RExp) (T := TExp) (N := 5) hx hb hts inExp hown hK hP 3 rfl rfl 2 (by decide) (hts _ tw_195) (fun _ h9 => h9) rfl dExp_group_10 ?_
      refine va_get (D := (dC, dI)) (ci := 3) (v := .ref a_wlk_distances) (C := RWlk) (T := TWlk) (N := 10) hx hb hts inWlk hown hK hP 2 rfl rfl 0 (by decide) (hts _ tw_137) (fun _ h9 => h9) rfl dExp_group_13 ?_
      refine lv_iload_n hx hb dExp_group_16 rfl (lv_at hl 1 rfl) ?_
      obtain ⟨g7, hm⟩ := gd_el hm
      refine va_iald hx hb hK hP 5 0 rfl rfl g7 dExp_group_17 ?_
      refine lv_iconst (v := (-1 : Int32)) hx hb dExp_group_18 (by decide) ?_
      refine lv_icmp_ne (tgt := 26) hx hb dExp_group_19 (by decide) (fun c8 => ?_) (fun c8 => ?_)
      · have hm := sx_neg c8 hm
        refine lv_aload_n hx hb dExp_group_26 rfl (lv_at hl 0 rfl) ?_
        refine va_get (D := (dC, dI)) (ci := 4) (v := .ref h_par) (C := RExp) (T := TExp) (N := 5) hx hb hts inExp hown hK hP 3 rfl rfl 3 (by decide) (hts _ tw_196) (fun _ h9 => h9) rfl dExp_group_27 ?_
        refine va_get (D := (dC, dI)) (ci := 1) (v := .ref a_par_names) (C := RPar) (T := TPar) (N := 4) hx hb hts inPar hown hK hP 1 rfl rfl 0 (by decide) (hts _ tw_179) (fun _ h9 => h9) rfl dExp_group_30 ?_
        refine lv_iload_n hx hb dExp_group_33 rfl (lv_at hl 1 rfl) ?_
        obtain ⟨g9, hm⟩ := gd_el hm
        refine va_iald hx hb hK hP 4 0 rfl rfl g9 dExp_group_34 ?_
        obtain rfl := Sum.inr.inj (Option.some.inj hm)
        exact W.iret (v := par_names p0.toNatClampNeg) hx hb hr (fun t ht hW => ⟨rfl, ht⟩) (fun q hq => nomatch hq) dExp_group_35
      · have hm := sx_pos c8 hm
        refine lv_iconst (v := (-1 : Int32)) hx hb dExp_group_22 (by decide) ?_
        refine lv_goto (tgt := 35) hx hb dExp_group_23 (by decide) ?_
        obtain rfl := Sum.inr.inj (Option.some.inj hm)
        exact W.iret (v := (-1 : Int32)) hx hb hr (fun t ht hW => ⟨rfl, ht⟩) (fun q hq => nomatch hq) dExp_group_35
set_option maxHeartbeats 4000000 in
set_option maxRecDepth 100000 in
theorem kt_Exp_group (l : Launch) (hnt : l.stackTraces = false) (dC : Nat → ClassId) (dI : Nat → Nat → Nat) (cI cL cZ : ClassId) (t1 t2 : Nat) (h_net a_net_sorts a_net_ranks a_net_starts a_net_literals a_net_nextLiterals a_net_outputs h_par a_par_names a_par_finer a_par_behind h_wlk a_wlk_distances a_wlk_order a_wlk_parents a_wlk_steps a_wlk_settledPairs h_exp h_tab : Nat) (net_gateTotal net_inputTotal net_latchTotal net_outputTotal : Int32) (par_names : Nat → Int32) (par_total : Int32) (wlk_distances : Nat → Int32) (wlk_words wlk_reached wlk_doubts wlk_doubtState wlk_doubtChoice exp_explored : Int32) (sz : Nat) (p0 : Int32) (k : Nat) (hm : m_Exp_group net_latchTotal par_names wlk_distances exp_explored p0 = some (.inl k)) : sx_Thr l yExp_group wsExp_group rmt_Exp_group (sx_Pc (dC, dI) [(cI, .int), (cL, .long), (cZ, .boolean)] t1 t2 [(h_net, .inr (0, [.ref a_net_sorts, .ref a_net_ranks, .ref a_net_starts, .ref a_net_literals, .ref a_net_nextLiterals, .ref a_net_outputs, .int net_gateTotal, .int net_inputTotal, .int net_latchTotal, .int net_outputTotal])), (h_par, .inr (1, [.ref a_par_names, .ref a_par_finer, .ref a_par_behind, .int par_total])), (h_wlk, .inr (3, [.ref a_wlk_distances, .ref a_wlk_order, .ref a_wlk_parents, .ref a_wlk_steps, .ref a_wlk_settledPairs, .int wlk_words, .int wlk_reached, .int wlk_doubts, .int wlk_doubtState, .int wlk_doubtChoice])), (h_exp, .inr (4, [.ref h_net, .ref h_tab, .ref h_wlk, .ref h_par, .int exp_explored])), (a_par_names, .inl (cI, 256, .inl par_names)), (a_wlk_distances, .inl (cI, 256, .inl wlk_distances))] sz [.ref h_exp, .int p0]) (sx_E k) 1 6 := by
  refine sx_thrOf (cc := cExp_group) (maxL := 2) (ret := (some .int)) (by decide) rfl ?_
  intro p e s m args below meth c s₁ B hml hnx hv
  obtain ⟨rfl, hsz, hP, hK, hD0, hX⟩ := hv
  have hx := B.exec
  have hb := B.bytes
  have hr := B.returns
  have hts0 := atoms_spec (ws := wsExp_group) B.pre
  have hts : ∀ w ∈ tb, w.before _ s = true := fun w h => hts0 w (List.mem_cons_of_mem _ h)
  have hown : s.vm.findClass "StateExplorer" = some m.cls := findClass_of_methodNamed B.named
  have hlocks := B.notSynchronized
  subst hsz
  have hD := hD0.self (sz := s.heap.size)
  generalize hAe : va_A [(h_net, .inr (0, [.ref a_net_sorts, .ref a_net_ranks, .ref a_net_starts, .ref a_net_literals, .ref a_net_nextLiterals, .ref a_net_outputs, .int net_gateTotal, .int net_inputTotal, .int net_latchTotal, .int net_outputTotal])), (h_par, .inr (1, [.ref a_par_names, .ref a_par_finer, .ref a_par_behind, .int par_total])), (h_wlk, .inr (3, [.ref a_wlk_distances, .ref a_wlk_order, .ref a_wlk_parents, .ref a_wlk_steps, .ref a_wlk_settledPairs, .int wlk_words, .int wlk_reached, .int wlk_doubts, .int wlk_doubtState, .int wlk_doubtChoice])), (h_exp, .inr (4, [.ref h_net, .ref h_tab, .ref h_wlk, .ref h_par, .int exp_explored])), (a_par_names, .inl (cI, 256, .inl par_names)), (a_wlk_distances, .inl (cI, 256, .inl wlk_distances))] s.heap.size = A at hD hX 
  have hA : ∀ q : Nat, s.heap.size ≤ q → A q := fun q h => by rw [← hAe]; exact Or.inr h
  have hS : va_S A s.heap s.heap [] := va_S.rf
  have hl := lv_entry ([.ref h_exp, .int p0]) (n := 2) (Nat.le_of_ble_eq_true rfl)
  rw [lg_entry_eq]
  generalize (lg_sl ([.ref h_exp, .int p0]) ++ List.replicate (2 - (lg_sl ([.ref h_exp, .int p0])).length) Slot.unset).toArray = ls at hl ⊢
  have hl : lv_has ls 2 [(0, .ref h_exp), (1, .int p0)] := hl
  have C0 : sx_C p s m _ meth c cExp_group 2 "StateExplorer" A (dC, dI) [(cI, .int), (cL, .long), (cZ, .boolean)] t1 t2 := ⟨hx, hb, hml, hown, hts, hA, hK, hlocks, hX⟩
  rw [m_Exp_group] at hm
  refine lv_aload_n hx hb dExp_group_0 rfl (lv_at hl 0 rfl) ?_
  obtain ⟨v1, hv1, hm⟩ := sx_bind hm
  rcases v1 with k9 | u9
  · have hPc := hP.sub (ws' := [(h_exp, .inr (4, [.ref h_net, .ref h_tab, .ref h_wlk, .ref h_par, .int exp_explored]))]) [3] rfl
    have hDc := hD.sub (ws' := [(h_exp, .inr (4, [.ref h_net, .ref h_tab, .ref h_wlk, .ref h_par, .int exp_explored]))]) [3] (by decide) rfl
    have hFc := va_free (wc := [(h_exp, .inr (4, [.ref h_net, .ref h_tab, .ref h_wlk, .ref h_par, .int exp_explored]))]) hD hS hA [3] rfl
    obtain rfl := Sum.inl.inj (Option.some.inj hm)
    refine sx_callT (As := []) (rest := []) ⟨hx, hb, hml, hown, hts⟩ (kt_Exp_requireExplored l hnt dC dI cI cL cZ t1 t2 h_exp h_net h_tab h_wlk h_par exp_explored _ _ hv1) (cwV 0 hts (sx_gV tw_522 tw_524 tw_17 tw_36 tcExp_requireExplored) rfl rfl rfl (by decide +kernel) ⟨Nat.le_of_ble_eq_true rfl, Nat.le_of_ble_eq_true rfl⟩) (sx_pV hK hX hS hPc hDc hFc (va_recv hK hPc (ci := 4) (q0 := 0) rfl rfl)) rfl hl.1 rfl (lv_room (Nat.le_of_ble_eq_true rfl)) dExp_group_1 ⟨Nat.le_of_ble_eq_true rfl, Nat.le_of_ble_eq_true rfl⟩ (fun ce q H1 z1 z2 z3 z4 z5 => ?_)
    exact sx_out hnx hlocks z3 z4 z5 (Nat.le_of_ble_eq_true rfl) (Nat.le_of_ble_eq_true rfl)
  · have hPc := hP.sub (ws' := [(h_exp, .inr (4, [.ref h_net, .ref h_tab, .ref h_wlk, .ref h_par, .int exp_explored]))]) [3] rfl
    have hDc := hD.sub (ws' := [(h_exp, .inr (4, [.ref h_net, .ref h_tab, .ref h_wlk, .ref h_par, .int exp_explored]))]) [3] (by decide) rfl
    have hFc := va_free (wc := [(h_exp, .inr (4, [.ref h_net, .ref h_tab, .ref h_wlk, .ref h_par, .int exp_explored]))]) hD hS hA [3] rfl
    refine sx_stV (va_runV (As := []) (rest := []) ⟨hx, hb, hml, hown, hts⟩ (k_Exp_requireExplored l dC dI cI cL cZ t1 t2 h_exp h_net h_tab h_wlk h_par exp_explored _ () hv1) (cwV 0 hts (sx_gV tw_522 tw_524 tw_17 tw_36 tcExp_requireExplored) rfl rfl rfl (by decide +kernel) ⟨Nat.le_of_ble_eq_true rfl, Nat.le_of_ble_eq_true rfl⟩) (sx_pV hK hX hS hPc hDc hFc (va_recv hK hPc (ci := 4) (q0 := 0) rfl rfl)) rfl rfl hl.1 rfl (lv_room (Nat.le_of_ble_eq_true rfl)) dExp_group_1 ⟨Nat.le_of_ble_eq_true rfl, Nat.le_of_ble_eq_true rfl⟩) ?_
    refine lv_aload_n hx hb dExp_group_4 rfl (lv_at hl 0 rfl) ?_
    refine lv_iload_n hx hb dExp_group_5 rfl (lv_at hl 1 rfl) ?_
    obtain ⟨v4, hv4, hm⟩ := sx_bind hm
    rcases v4 with k9 | u9
    · have hPc := hP.sub (ws' := [(h_net, .inr (0, [.ref a_net_sorts, .ref a_net_ranks, .ref a_net_starts, .ref a_net_literals, .ref a_net_nextLiterals, .ref a_net_outputs, .int net_gateTotal, .int net_inputTotal, .int net_latchTotal, .int net_outputTotal])), (h_exp, .inr (4, [.ref h_net, .ref h_tab, .ref h_wlk, .ref h_par, .int exp_explored]))]) [0, 3] rfl
      have hDc := hD.sub (ws' := [(h_net, .inr (0, [.ref a_net_sorts, .ref a_net_ranks, .ref a_net_starts, .ref a_net_literals, .ref a_net_nextLiterals, .ref a_net_outputs, .int net_gateTotal, .int net_inputTotal, .int net_latchTotal, .int net_outputTotal])), (h_exp, .inr (4, [.ref h_net, .ref h_tab, .ref h_wlk, .ref h_par, .int exp_explored]))]) [0, 3] (by decide) rfl
      have hFc := va_free (wc := [(h_net, .inr (0, [.ref a_net_sorts, .ref a_net_ranks, .ref a_net_starts, .ref a_net_literals, .ref a_net_nextLiterals, .ref a_net_outputs, .int net_gateTotal, .int net_inputTotal, .int net_latchTotal, .int net_outputTotal])), (h_exp, .inr (4, [.ref h_net, .ref h_tab, .ref h_wlk, .ref h_par, .int exp_explored]))]) hD hS hA [0, 3] rfl
      obtain rfl := Sum.inl.inj (Option.some.inj hm)
      refine sx_callT (As := [.int p0]) (rest := []) ⟨hx, hb, hml, hown, hts⟩ (kt_Exp_requireState l hnt dC dI cI cL cZ t1 t2 h_net a_net_sorts a_net_ranks a_net_starts a_net_literals a_net_nextLiterals a_net_outputs h_exp h_tab h_wlk h_par net_gateTotal net_inputTotal net_latchTotal net_outputTotal exp_explored _ p0 _ hv4) (cwV 1 hts (sx_gV tw_527 tw_529 tw_18 tw_36 tcExp_requireState) rfl rfl rfl (by decide +kernel) ⟨Nat.le_of_ble_eq_true rfl, Nat.le_of_ble_eq_true rfl⟩) (sx_pV hK hX hS hPc hDc hFc (va_recv hK hPc (ci := 4) (q0 := 1) rfl rfl)) rfl hl.1 rfl (lv_room (Nat.le_of_ble_eq_true rfl)) dExp_group_6 ⟨Nat.le_of_ble_eq_true rfl, Nat.le_of_ble_eq_true rfl⟩ (fun ce q H1 z1 z2 z3 z4 z5 => ?_)
      exact sx_out hnx hlocks z3 z4 z5 (Nat.le_of_ble_eq_true rfl) (Nat.le_of_ble_eq_true rfl)
    · have hPc := hP.sub (ws' := [(h_net, .inr (0, [.ref a_net_sorts, .ref a_net_ranks, .ref a_net_starts, .ref a_net_literals, .ref a_net_nextLiterals, .ref a_net_outputs, .int net_gateTotal, .int net_inputTotal, .int net_latchTotal, .int net_outputTotal])), (h_exp, .inr (4, [.ref h_net, .ref h_tab, .ref h_wlk, .ref h_par, .int exp_explored]))]) [0, 3] rfl
      have hDc := hD.sub (ws' := [(h_net, .inr (0, [.ref a_net_sorts, .ref a_net_ranks, .ref a_net_starts, .ref a_net_literals, .ref a_net_nextLiterals, .ref a_net_outputs, .int net_gateTotal, .int net_inputTotal, .int net_latchTotal, .int net_outputTotal])), (h_exp, .inr (4, [.ref h_net, .ref h_tab, .ref h_wlk, .ref h_par, .int exp_explored]))]) [0, 3] (by decide) rfl
      have hFc := va_free (wc := [(h_net, .inr (0, [.ref a_net_sorts, .ref a_net_ranks, .ref a_net_starts, .ref a_net_literals, .ref a_net_nextLiterals, .ref a_net_outputs, .int net_gateTotal, .int net_inputTotal, .int net_latchTotal, .int net_outputTotal])), (h_exp, .inr (4, [.ref h_net, .ref h_tab, .ref h_wlk, .ref h_par, .int exp_explored]))]) hD hS hA [0, 3] rfl
      refine sx_stV (va_runV (As := [.int p0]) (rest := []) ⟨hx, hb, hml, hown, hts⟩ (k_Exp_requireState l dC dI cI cL cZ t1 t2 h_net a_net_sorts a_net_ranks a_net_starts a_net_literals a_net_nextLiterals a_net_outputs h_exp h_tab h_wlk h_par net_gateTotal net_inputTotal net_latchTotal net_outputTotal exp_explored _ p0 () hv4) (cwV 1 hts (sx_gV tw_527 tw_529 tw_18 tw_36 tcExp_requireState) rfl rfl rfl (by decide +kernel) ⟨Nat.le_of_ble_eq_true rfl, Nat.le_of_ble_eq_true rfl⟩) (sx_pV hK hX hS hPc hDc hFc (va_recv hK hPc (ci := 4) (q0 := 1) rfl rfl)) rfl rfl hl.1 rfl (lv_room (Nat.le_of_ble_eq_true rfl)) dExp_group_6 ⟨Nat.le_of_ble_eq_true rfl, Nat.le_of_ble_eq_true rfl⟩) ?_
      refine lv_aload_n hx hb dExp_group_9 rfl (lv_at hl 0 rfl) ?_
      refine va_get (D := (dC, dI)) (ci := 4) (v := .ref h_wlk) (C := RExp) (T := TExp) (N := 5) hx hb hts inExp hown hK hP 3 rfl rfl 2 (by decide) (hts _ tw_195) (fun _ h9 => h9) rfl dExp_group_10 ?_
      refine va_get (D := (dC, dI)) (ci := 3) (v := .ref a_wlk_distances) (C := RWlk) (T := TWlk) (N := 10) hx hb hts inWlk hown hK hP 2 rfl rfl 0 (by decide) (hts _ tw_137) (fun _ h9 => h9) rfl dExp_group_13 ?_
      refine lv_iload_n hx hb dExp_group_16 rfl (lv_at hl 1 rfl) ?_
      obtain ⟨g7, hm⟩ := gd_el hm
      refine va_iald hx hb hK hP 5 0 rfl rfl g7 dExp_group_17 ?_
      refine lv_iconst (v := (-1 : Int32)) hx hb dExp_group_18 (by decide) ?_
      refine lv_icmp_ne (tgt := 26) hx hb dExp_group_19 (by decide) (fun c8 => ?_) (fun c8 => ?_)
      · have hm := sx_neg c8 hm
        refine lv_aload_n hx hb dExp_group_26 rfl (lv_at hl 0 rfl) ?_
        refine va_get (D := (dC, dI)) (ci := 4) (v := .ref h_par) (C := RExp) (T := TExp) (N := 5) hx hb hts inExp hown hK hP 3 rfl rfl 3 (by decide) (hts _ tw_196) (fun _ h9 => h9) rfl dExp_group_27 ?_
        refine va_get (D := (dC, dI)) (ci := 1) (v := .ref a_par_names) (C := RPar) (T := TPar) (N := 4) hx hb hts inPar hown hK hP 1 rfl rfl 0 (by decide) (hts _ tw_179) (fun _ h9 => h9) rfl dExp_group_30 ?_
        refine lv_iload_n hx hb dExp_group_33 rfl (lv_at hl 1 rfl) ?_
        obtain ⟨g9, hm⟩ := gd_el hm
        refine va_iald hx hb hK hP 4 0 rfl rfl g9 dExp_group_34 ?_
        cases hm
      · have hm := sx_pos c8 hm
        refine lv_iconst (v := (-1 : Int32)) hx hb dExp_group_22 (by decide) ?_
        refine lv_goto (tgt := 35) hx hb dExp_group_23 (by decide) ?_
        cases hm
noncomputable def m_Exp_count (net_starts : Nat → Int32) (net_gateTotal net_inputTotal net_latchTotal net_outputTotal par_total : Int32) (wlk_distances wlk_order : Nat → Int32) (wlk_reached wlk_doubts exp_explored : Int32) (p0 : Int32) : Option (Int32) := (if p0 = (0 : Int32) then some net_gateTotal else (if p0 = (1 : Int32) then (m_Net_feedTotal net_starts net_gateTotal).bind (fun v3 => some v3) else (if p0 = (2 : Int32) then some net_inputTotal else (if p0 = (3 : Int32) then some net_latchTotal else (if p0 = (4 : Int32) then some net_outputTotal else (if p0 = (5 : Int32) then (if exp_explored = (0 : Int32) then some (0 : Int32) else some (1 : Int32)) else (if p0 = (6 : Int32) then (if exp_explored = (0 : Int32) then some (0 : Int32) else some wlk_reached) else (if p0 = (7 : Int32) then (if exp_explored = (0 : Int32) then some (0 : Int32) else (m_Wlk_greatestDistance wlk_distances wlk_order wlk_reached).bind (fun v14 => some v14)) else (if p0 = (8 : Int32) then (if exp_explored = (0 : Int32) then some (0 : Int32) else some par_total) else (if p0 = (9 : Int32) then (if exp_explored = (0 : Int32) then some (0 : Int32) else some wlk_doubts) else some (-1 : Int32)))))))))))
def rm_Exp_count : Room := { frames := 1, cells := 0, slots := 0, locals := 20 }
set_option maxHeartbeats 4000000 in
set_option maxRecDepth 100000 in
theorem k_Exp_count (l : Launch) (dC : Nat → ClassId) (dI : Nat → Nat → Nat) (cI cL cZ : ClassId) (t1 t2 : Nat) (h_net a_net_sorts a_net_ranks a_net_starts a_net_literals a_net_nextLiterals a_net_outputs h_par a_par_names a_par_finer a_par_behind h_wlk a_wlk_distances a_wlk_order a_wlk_parents a_wlk_steps a_wlk_settledPairs h_exp h_tab : Nat) (net_starts : Nat → Int32) (net_gateTotal net_inputTotal net_latchTotal net_outputTotal par_total : Int32) (wlk_distances wlk_order : Nat → Int32) (wlk_words wlk_reached wlk_doubts wlk_doubtState wlk_doubtChoice exp_explored : Int32) (sz : Nat) (p0 : Int32) (v : Int32) (hm : m_Exp_count net_starts net_gateTotal net_inputTotal net_latchTotal net_outputTotal par_total wlk_distances wlk_order wlk_reached wlk_doubts exp_explored p0 = some v) : Met l yExp_count wsExp_count rm_Exp_count (sx_Pc (dC, dI) [(cI, .int), (cL, .long), (cZ, .boolean)] t1 t2 [(h_net, .inr (0, [.ref a_net_sorts, .ref a_net_ranks, .ref a_net_starts, .ref a_net_literals, .ref a_net_nextLiterals, .ref a_net_outputs, .int net_gateTotal, .int net_inputTotal, .int net_latchTotal, .int net_outputTotal])), (h_par, .inr (1, [.ref a_par_names, .ref a_par_finer, .ref a_par_behind, .int par_total])), (h_wlk, .inr (3, [.ref a_wlk_distances, .ref a_wlk_order, .ref a_wlk_parents, .ref a_wlk_steps, .ref a_wlk_settledPairs, .int wlk_words, .int wlk_reached, .int wlk_doubts, .int wlk_doubtState, .int wlk_doubtChoice])), (h_exp, .inr (4, [.ref h_net, .ref h_tab, .ref h_wlk, .ref h_par, .int exp_explored])), (a_net_starts, .inl (cI, 61, .inl net_starts)), (a_wlk_distances, .inl (cI, 256, .inl wlk_distances)), (a_wlk_order, .inl (cI, 256, .inl wlk_order))] sz [.ref h_exp, .int p0]) (sx_Si v) 0 0 (fun _ => False) := by
  refine Met.ofW (cc := cExp_count) (maxL := 2) (ret := (some .int)) (by decide) rfl ?_
  intro p e s m args below meth c s₁ B hml hv
  obtain ⟨rfl, hsz, hP, hK, hD0, hX⟩ := hv
  have hx := B.exec
  have hb := B.bytes
  have hr := B.returns
  have hts0 := atoms_spec (ws := wsExp_count) B.pre
  have hts : ∀ w ∈ tb, w.before _ s = true := fun w h => hts0 w (List.mem_cons_of_mem _ h)
  have hown : s.vm.findClass "StateExplorer" = some m.cls := findClass_of_methodNamed B.named
  have hlocks := B.notSynchronized
  subst hsz
  have hD := hD0.self (sz := s.heap.size)
  generalize hAe : va_A [(h_net, .inr (0, [.ref a_net_sorts, .ref a_net_ranks, .ref a_net_starts, .ref a_net_literals, .ref a_net_nextLiterals, .ref a_net_outputs, .int net_gateTotal, .int net_inputTotal, .int net_latchTotal, .int net_outputTotal])), (h_par, .inr (1, [.ref a_par_names, .ref a_par_finer, .ref a_par_behind, .int par_total])), (h_wlk, .inr (3, [.ref a_wlk_distances, .ref a_wlk_order, .ref a_wlk_parents, .ref a_wlk_steps, .ref a_wlk_settledPairs, .int wlk_words, .int wlk_reached, .int wlk_doubts, .int wlk_doubtState, .int wlk_doubtChoice])), (h_exp, .inr (4, [.ref h_net, .ref h_tab, .ref h_wlk, .ref h_par, .int exp_explored])), (a_net_starts, .inl (cI, 61, .inl net_starts)), (a_wlk_distances, .inl (cI, 256, .inl wlk_distances)), (a_wlk_order, .inl (cI, 256, .inl wlk_order))] s.heap.size = A at hD hX 
  have hA : ∀ q : Nat, s.heap.size ≤ q → A q := fun q h => by rw [← hAe]; exact Or.inr h
  have hS : va_S A s.heap s.heap [] := va_S.rf
  have hl := lv_entry ([.ref h_exp, .int p0]) (n := 2) (Nat.le_of_ble_eq_true rfl)
  rw [lg_entry_eq]
  generalize (lg_sl ([.ref h_exp, .int p0]) ++ List.replicate (2 - (lg_sl ([.ref h_exp, .int p0])).length) Slot.unset).toArray = ls at hl ⊢
  have hl : lv_has ls 2 [(0, .ref h_exp), (1, .int p0)] := hl
  have C0 : sx_C p s m _ meth c cExp_count 2 "StateExplorer" A (dC, dI) [(cI, .int), (cL, .long), (cZ, .boolean)] t1 t2 := ⟨hx, hb, hml, hown, hts, hA, hK, hlocks, hX⟩
  rw [m_Exp_count] at hm
  refine lv_iload_n hx hb dExp_count_0 rfl (lv_at hl 1 rfl) ?_
  by_cases c1 : p0 = (0 : Int32)
  · have hm := sx_pos c1 hm
    refine lv_tableIn (off := 55) (tgt := 56) hx hb dExp_count_1 (by rw [c1]; decide) (by rw [c1]; decide) (by rw [c1]; decide) (by decide) ?_
    refine lv_aload_n hx hb dExp_count_56 rfl (lv_at hl 0 rfl) ?_
    refine va_get (D := (dC, dI)) (ci := 4) (v := .ref h_net) (C := RExp) (T := TExp) (N := 5) hx hb hts inExp hown hK hP 3 rfl rfl 0 (by decide) (hts _ tw_193) (fun _ h9 => h9) rfl dExp_count_57 ?_
    refine va_get (D := (dC, dI)) (ci := 0) (v := .int net_gateTotal) (C := RNet) (T := TNet) (N := 10) hx hb hts inNet hown hK hP 0 rfl rfl 6 (by decide) (hts _ tw_77) (fun _ h9 => h9) rfl dExp_count_60 ?_
    obtain rfl := Option.some.inj hm
    exact W.iret (v := net_gateTotal) hx hb hr (fun t ht hW => ⟨rfl, ht⟩) (fun q hq => nomatch hq) dExp_count_63
  · have hm := sx_neg c1 hm
    by_cases c2 : p0 = (1 : Int32)
    · have hm := sx_pos c2 hm
      refine lv_tableIn (off := 63) (tgt := 64) hx hb dExp_count_1 (by rw [c2]; decide) (by rw [c2]; decide) (by rw [c2]; decide) (by decide) ?_
      refine lv_aload_n hx hb dExp_count_64 rfl (lv_at hl 0 rfl) ?_
      refine va_get (D := (dC, dI)) (ci := 4) (v := .ref h_net) (C := RExp) (T := TExp) (N := 5) hx hb hts inExp hown hK hP 3 rfl rfl 0 (by decide) (hts _ tw_193) (fun _ h9 => h9) rfl dExp_count_65 ?_
      obtain ⟨v3, hv3, hm⟩ := sx_bind hm
      have hPc := hP.sub (ws' := [(h_net, .inr (0, [.ref a_net_sorts, .ref a_net_ranks, .ref a_net_starts, .ref a_net_literals, .ref a_net_nextLiterals, .ref a_net_outputs, .int net_gateTotal, .int net_inputTotal, .int net_latchTotal, .int net_outputTotal])), (a_net_starts, .inl (cI, 61, .inl net_starts))]) [0, 4] rfl
      have hDc := hD.sub (ws' := [(h_net, .inr (0, [.ref a_net_sorts, .ref a_net_ranks, .ref a_net_starts, .ref a_net_literals, .ref a_net_nextLiterals, .ref a_net_outputs, .int net_gateTotal, .int net_inputTotal, .int net_latchTotal, .int net_outputTotal])), (a_net_starts, .inl (cI, 61, .inl net_starts))]) [0, 4] (by decide) rfl
      have hFc := va_free (wc := [(h_net, .inr (0, [.ref a_net_sorts, .ref a_net_ranks, .ref a_net_starts, .ref a_net_literals, .ref a_net_nextLiterals, .ref a_net_outputs, .int net_gateTotal, .int net_inputTotal, .int net_latchTotal, .int net_outputTotal])), (a_net_starts, .inl (cI, 61, .inl net_starts))]) hD hS hA [0, 4] rfl
      refine sx_stI (va_runV (As := []) (rest := []) ⟨hx, hb, hml, hown, hts⟩ (k_Net_feedTotal l dC dI cI cL cZ t1 t2 h_net a_net_sorts a_net_ranks a_net_starts a_net_literals a_net_nextLiterals a_net_outputs net_starts net_gateTotal net_inputTotal net_latchTotal net_outputTotal _ v3 hv3) (cwV 0 hts (sx_gV tw_353 tw_354 tw_355 tw_37 tcNet_feedTotal) rfl rfl rfl (by decide +kernel) ⟨Nat.le_of_ble_eq_true rfl, Nat.le_of_ble_eq_true rfl⟩) (sx_pV hK hX hS hPc hDc hFc (va_recv hK hPc (ci := 0) (q0 := 0) rfl rfl)) rfl rfl hl.1 rfl (lv_room (Nat.le_of_ble_eq_true rfl)) dExp_count_68 ⟨Nat.le_of_ble_eq_true rfl, Nat.le_of_ble_eq_true rfl⟩) ?_
      obtain rfl := Option.some.inj hm
      exact W.iret (v := v3) hx hb hr (fun t ht hW => ⟨rfl, ht⟩) (fun q hq => nomatch hq) dExp_count_71
    · have hm := sx_neg c2 hm
      by_cases c5 : p0 = (2 : Int32)
      · have hm := sx_pos c5 hm
        refine lv_tableIn (off := 71) (tgt := 72) hx hb dExp_count_1 (by rw [c5]; decide) (by rw [c5]; decide) (by rw [c5]; decide) (by decide) ?_
        refine lv_aload_n hx hb dExp_count_72 rfl (lv_at hl 0 rfl) ?_
        refine va_get (D := (dC, dI)) (ci := 4) (v := .ref h_net) (C := RExp) (T := TExp) (N := 5) hx hb hts inExp hown hK hP 3 rfl rfl 0 (by decide) (hts _ tw_193) (fun _ h9 => h9) rfl dExp_count_73 ?_
        refine va_get (D := (dC, dI)) (ci := 0) (v := .int net_inputTotal) (C := RNet) (T := TNet) (N := 10) hx hb hts inNet hown hK hP 0 rfl rfl 7 (by decide) (hts _ tw_79) (fun _ h9 => h9) rfl dExp_count_76 ?_
        obtain rfl := Option.some.inj hm
        exact W.iret (v := net_inputTotal) hx hb hr (fun t ht hW => ⟨rfl, ht⟩) (fun q hq => nomatch hq) dExp_count_79
      · have hm := sx_neg c5 hm
        by_cases c6 : p0 = (3 : Int32)
        · have hm := sx_pos c6 hm
          refine lv_tableIn (off := 79) (tgt := 80) hx hb dExp_count_1 (by rw [c6]; decide) (by rw [c6]; decide) (by rw [c6]; decide) (by decide) ?_
          refine lv_aload_n hx hb dExp_count_80 rfl (lv_at hl 0 rfl) ?_
          refine va_get (D := (dC, dI)) (ci := 4) (v := .ref h_net) (C := RExp) (T := TExp) (N := 5) hx hb hts inExp hown hK hP 3 rfl rfl 0 (by decide) (hts _ tw_193) (fun _ h9 => h9) rfl dExp_count_81 ?_
          refine va_get (D := (dC, dI)) (ci := 0) (v := .int net_latchTotal) (C := RNet) (T := TNet) (N := 10) hx hb hts inNet hown hK hP 0 rfl rfl 8 (by decide) (hts _ tw_82) (fun _ h9 => h9) rfl dExp_count_84 ?_
          obtain rfl := Option.some.inj hm
          exact W.iret (v := net_latchTotal) hx hb hr (fun t ht hW => ⟨rfl, ht⟩) (fun q hq => nomatch hq) dExp_count_87
        · have hm := sx_neg c6 hm
          by_cases c7 : p0 = (4 : Int32)
          · have hm := sx_pos c7 hm
            refine lv_tableIn (off := 87) (tgt := 88) hx hb dExp_count_1 (by rw [c7]; decide) (by rw [c7]; decide) (by rw [c7]; decide) (by decide) ?_
            refine lv_aload_n hx hb dExp_count_88 rfl (lv_at hl 0 rfl) ?_
            refine va_get (D := (dC, dI)) (ci := 4) (v := .ref h_net) (C := RExp) (T := TExp) (N := 5) hx hb hts inExp hown hK hP 3 rfl rfl 0 (by decide) (hts _ tw_193) (fun _ h9 => h9) rfl dExp_count_89 ?_
            refine va_get (D := (dC, dI)) (ci := 0) (v := .int net_outputTotal) (C := RNet) (T := TNet) (N := 10) hx hb hts inNet hown hK hP 0 rfl rfl 9 (by decide) (hts _ tw_84) (fun _ h9 => h9) rfl dExp_count_92 ?_
            obtain rfl := Option.some.inj hm
            exact W.iret (v := net_outputTotal) hx hb hr (fun t ht hW => ⟨rfl, ht⟩) (fun q hq => nomatch hq) dExp_count_95
          · have hm := sx_neg c7 hm
            by_cases c8 : p0 = (5 : Int32)
            · have hm := sx_pos c8 hm
              refine lv_tableIn (off := 95) (tgt := 96) hx hb dExp_count_1 (by rw [c8]; decide) (by rw [c8]; decide) (by rw [c8]; decide) (by decide) ?_
              refine lv_aload_n hx hb dExp_count_96 rfl (lv_at hl 0 rfl) ?_
              refine va_get (D := (dC, dI)) (ci := 4) (v := .int exp_explored) (C := RExp) (T := TExp) (N := 5) hx hb hts inExp hown hK hP 3 rfl rfl 4 (by decide) (hts _ tw_197) (fun _ h9 => h9) rfl dExp_count_97 ?_
              refine lv_if_eq (tgt := 107) hx hb dExp_count_100 (by decide) (fun c9 => ?_) (fun c9 => ?_)
              · have hm := sx_pos c9 hm
                refine lv_iconst (v := (0 : Int32)) hx hb dExp_count_107 (by decide) ?_
                obtain rfl := Option.some.inj hm
                exact W.iret (v := (0 : Int32)) hx hb hr (fun t ht hW => ⟨rfl, ht⟩) (fun q hq => nomatch hq) dExp_count_108
              · have hm := sx_neg c9 hm
                refine lv_iconst (v := (1 : Int32)) hx hb dExp_count_103 (by decide) ?_
                refine lv_goto (tgt := 108) hx hb dExp_count_104 (by decide) ?_
                obtain rfl := Option.some.inj hm
                exact W.iret (v := (1 : Int32)) hx hb hr (fun t ht hW => ⟨rfl, ht⟩) (fun q hq => nomatch hq) dExp_count_108
            · have hm := sx_neg c8 hm
              by_cases c10 : p0 = (6 : Int32)
              · have hm := sx_pos c10 hm
                refine lv_tableIn (off := 108) (tgt := 109) hx hb dExp_count_1 (by rw [c10]; decide) (by rw [c10]; decide) (by rw [c10]; decide) (by decide) ?_
                refine lv_aload_n hx hb dExp_count_109 rfl (lv_at hl 0 rfl) ?_
                refine va_get (D := (dC, dI)) (ci := 4) (v := .int exp_explored) (C := RExp) (T := TExp) (N := 5) hx hb hts inExp hown hK hP 3 rfl rfl 4 (by decide) (hts _ tw_197) (fun _ h9 => h9) rfl dExp_count_110 ?_
                refine lv_if_eq (tgt := 126) hx hb dExp_count_113 (by decide) (fun c11 => ?_) (fun c11 => ?_)
                · have hm := sx_pos c11 hm
                  refine lv_iconst (v := (0 : Int32)) hx hb dExp_count_126 (by decide) ?_
                  obtain rfl := Option.some.inj hm
                  exact W.iret (v := (0 : Int32)) hx hb hr (fun t ht hW => ⟨rfl, ht⟩) (fun q hq => nomatch hq) dExp_count_127
                · have hm := sx_neg c11 hm
                  refine lv_aload_n hx hb dExp_count_116 rfl (lv_at hl 0 rfl) ?_
                  refine va_get (D := (dC, dI)) (ci := 4) (v := .ref h_wlk) (C := RExp) (T := TExp) (N := 5) hx hb hts inExp hown hK hP 3 rfl rfl 2 (by decide) (hts _ tw_195) (fun _ h9 => h9) rfl dExp_count_117 ?_
                  refine va_get (D := (dC, dI)) (ci := 3) (v := .int wlk_reached) (C := RWlk) (T := TWlk) (N := 10) hx hb hts inWlk hown hK hP 2 rfl rfl 6 (by decide) (hts _ tw_144) (fun _ h9 => h9) rfl dExp_count_120 ?_
                  refine lv_goto (tgt := 127) hx hb dExp_count_123 (by decide) ?_
                  obtain rfl := Option.some.inj hm
                  exact W.iret (v := wlk_reached) hx hb hr (fun t ht hW => ⟨rfl, ht⟩) (fun q hq => nomatch hq) dExp_count_127
              · have hm := sx_neg c10 hm
                by_cases c12 : p0 = (7 : Int32)
                · have hm := sx_pos c12 hm
                  refine lv_tableIn (off := 127) (tgt := 128) hx hb dExp_count_1 (by rw [c12]; decide) (by rw [c12]; decide) (by rw [c12]; decide) (by decide) ?_
                  refine lv_aload_n hx hb dExp_count_128 rfl (lv_at hl 0 rfl) ?_
                  refine va_get (D := (dC, dI)) (ci := 4) (v := .int exp_explored) (C := RExp) (T := TExp) (N := 5) hx hb hts inExp hown hK hP 3 rfl rfl 4 (by decide) (hts _ tw_197) (fun _ h9 => h9) rfl dExp_count_129 ?_
                  refine lv_if_eq (tgt := 145) hx hb dExp_count_132 (by decide) (fun c13 => ?_) (fun c13 => ?_)
                  · have hm := sx_pos c13 hm
                    refine lv_iconst (v := (0 : Int32)) hx hb dExp_count_145 (by decide) ?_
                    obtain rfl := Option.some.inj hm
                    exact W.iret (v := (0 : Int32)) hx hb hr (fun t ht hW => ⟨rfl, ht⟩) (fun q hq => nomatch hq) dExp_count_146
                  · have hm := sx_neg c13 hm
                    refine lv_aload_n hx hb dExp_count_135 rfl (lv_at hl 0 rfl) ?_
                    refine va_get (D := (dC, dI)) (ci := 4) (v := .ref h_wlk) (C := RExp) (T := TExp) (N := 5) hx hb hts inExp hown hK hP 3 rfl rfl 2 (by decide) (hts _ tw_195) (fun _ h9 => h9) rfl dExp_count_136 ?_
                    obtain ⟨v14, hv14, hm⟩ := sx_bind hm
                    have hPc := hP.sub (ws' := [(h_wlk, .inr (3, [.ref a_wlk_distances, .ref a_wlk_order, .ref a_wlk_parents, .ref a_wlk_steps, .ref a_wlk_settledPairs, .int wlk_words, .int wlk_reached, .int wlk_doubts, .int wlk_doubtState, .int wlk_doubtChoice])), (a_wlk_distances, .inl (cI, 256, .inl wlk_distances)), (a_wlk_order, .inl (cI, 256, .inl wlk_order))]) [2, 5, 6] rfl
                    have hDc := hD.sub (ws' := [(h_wlk, .inr (3, [.ref a_wlk_distances, .ref a_wlk_order, .ref a_wlk_parents, .ref a_wlk_steps, .ref a_wlk_settledPairs, .int wlk_words, .int wlk_reached, .int wlk_doubts, .int wlk_doubtState, .int wlk_doubtChoice])), (a_wlk_distances, .inl (cI, 256, .inl wlk_distances)), (a_wlk_order, .inl (cI, 256, .inl wlk_order))]) [2, 5, 6] (by decide) rfl
                    have hFc := va_free (wc := [(h_wlk, .inr (3, [.ref a_wlk_distances, .ref a_wlk_order, .ref a_wlk_parents, .ref a_wlk_steps, .ref a_wlk_settledPairs, .int wlk_words, .int wlk_reached, .int wlk_doubts, .int wlk_doubtState, .int wlk_doubtChoice])), (a_wlk_distances, .inl (cI, 256, .inl wlk_distances)), (a_wlk_order, .inl (cI, 256, .inl wlk_order))]) hD hS hA [2, 5, 6] rfl
                    refine sx_stI (va_runV (As := []) (rest := []) ⟨hx, hb, hml, hown, hts⟩ (k_Wlk_greatestDistance l dC dI cI cL cZ t1 t2 h_wlk a_wlk_distances a_wlk_order a_wlk_parents a_wlk_steps a_wlk_settledPairs wlk_distances wlk_order wlk_words wlk_reached wlk_doubts wlk_doubtState wlk_doubtChoice _ v14 hv14) (cwV 0 hts (sx_gV tw_357 tw_358 tw_359 tw_39 tcWlk_greatestDistance) rfl rfl rfl (by decide +kernel) ⟨Nat.le_of_ble_eq_true rfl, Nat.le_of_ble_eq_true rfl⟩) (sx_pV hK hX hS hPc hDc hFc (va_recv hK hPc (ci := 3) (q0 := 0) rfl rfl)) rfl rfl hl.1 rfl (lv_room (Nat.le_of_ble_eq_true rfl)) dExp_count_139 ⟨Nat.le_of_ble_eq_true rfl, Nat.le_of_ble_eq_true rfl⟩) ?_
                    refine lv_goto (tgt := 146) hx hb dExp_count_142 (by decide) ?_
                    obtain rfl := Option.some.inj hm
                    exact W.iret (v := v14) hx hb hr (fun t ht hW => ⟨rfl, ht⟩) (fun q hq => nomatch hq) dExp_count_146
                · have hm := sx_neg c12 hm
                  by_cases c16 : p0 = (8 : Int32)
                  · have hm := sx_pos c16 hm
                    refine lv_tableIn (off := 146) (tgt := 147) hx hb dExp_count_1 (by rw [c16]; decide) (by rw [c16]; decide) (by rw [c16]; decide) (by decide) ?_
                    refine lv_aload_n hx hb dExp_count_147 rfl (lv_at hl 0 rfl) ?_
                    refine va_get (D := (dC, dI)) (ci := 4) (v := .int exp_explored) (C := RExp) (T := TExp) (N := 5) hx hb hts inExp hown hK hP 3 rfl rfl 4 (by decide) (hts _ tw_197) (fun _ h9 => h9) rfl dExp_count_148 ?_
                    refine lv_if_eq (tgt := 164) hx hb dExp_count_151 (by decide) (fun c17 => ?_) (fun c17 => ?_)
                    · have hm := sx_pos c17 hm
                      refine lv_iconst (v := (0 : Int32)) hx hb dExp_count_164 (by decide) ?_
                      obtain rfl := Option.some.inj hm
                      exact W.iret (v := (0 : Int32)) hx hb hr (fun t ht hW => ⟨rfl, ht⟩) (fun q hq => nomatch hq) dExp_count_165
                    · have hm := sx_neg c17 hm
                      refine lv_aload_n hx hb dExp_count_154 rfl (lv_at hl 0 rfl) ?_
                      refine va_get (D := (dC, dI)) (ci := 4) (v := .ref h_par) (C := RExp) (T := TExp) (N := 5) hx hb hts inExp hown hK hP 3 rfl rfl 3 (by decide) (hts _ tw_196) (fun _ h9 => h9) rfl dExp_count_155 ?_
                      refine va_get (D := (dC, dI)) (ci := 1) (v := .int par_total) (C := RPar) (T := TPar) (N := 4) hx hb hts inPar hown hK hP 1 rfl rfl 3 (by decide) (hts _ tw_183) (fun _ h9 => h9) rfl dExp_count_158 ?_
                      refine lv_goto (tgt := 165) hx hb dExp_count_161 (by decide) ?_
                      obtain rfl := Option.some.inj hm
                      exact W.iret (v := par_total) hx hb hr (fun t ht hW => ⟨rfl, ht⟩) (fun q hq => nomatch hq) dExp_count_165
                  · have hm := sx_neg c16 hm
                    by_cases c18 : p0 = (9 : Int32)
                    · have hm := sx_pos c18 hm
                      refine lv_tableIn (off := 165) (tgt := 166) hx hb dExp_count_1 (by rw [c18]; decide) (by rw [c18]; decide) (by rw [c18]; decide) (by decide) ?_
                      refine lv_aload_n hx hb dExp_count_166 rfl (lv_at hl 0 rfl) ?_
                      refine va_get (D := (dC, dI)) (ci := 4) (v := .int exp_explored) (C := RExp) (T := TExp) (N := 5) hx hb hts inExp hown hK hP 3 rfl rfl 4 (by decide) (hts _ tw_197) (fun _ h9 => h9) rfl dExp_count_167 ?_
                      refine lv_if_eq (tgt := 183) hx hb dExp_count_170 (by decide) (fun c19 => ?_) (fun c19 => ?_)
                      · have hm := sx_pos c19 hm
                        refine lv_iconst (v := (0 : Int32)) hx hb dExp_count_183 (by decide) ?_
                        obtain rfl := Option.some.inj hm
                        exact W.iret (v := (0 : Int32)) hx hb hr (fun t ht hW => ⟨rfl, ht⟩) (fun q hq => nomatch hq) dExp_count_184
                      · have hm := sx_neg c19 hm
                        refine lv_aload_n hx hb dExp_count_173 rfl (lv_at hl 0 rfl) ?_
                        refine va_get (D := (dC, dI)) (ci := 4) (v := .ref h_wlk) (C := RExp) (T := TExp) (N := 5) hx hb hts inExp hown hK hP 3 rfl rfl 2 (by decide) (hts _ tw_195) (fun _ h9 => h9) rfl dExp_count_174 ?_
                        refine va_get (D := (dC, dI)) (ci := 3) (v := .int wlk_doubts) (C := RWlk) (T := TWlk) (N := 10) hx hb hts inWlk hown hK hP 2 rfl rfl 7 (by decide) (hts _ tw_146) (fun _ h9 => h9) rfl dExp_count_177 ?_
                        refine lv_goto (tgt := 184) hx hb dExp_count_180 (by decide) ?_
                        obtain rfl := Option.some.inj hm
                        exact W.iret (v := wlk_doubts) hx hb hr (fun t ht hW => ⟨rfl, ht⟩) (fun q hq => nomatch hq) dExp_count_184
                    · have hm := sx_neg c18 hm
                      refine lv_tableOut (tgt := 185) hx hb dExp_count_1 (by have z0 := lv_neT c1 (a := 0) (by decide); have z1 := lv_neT c2 (a := 1) (by decide); have z2 := lv_neT c5 (a := 2) (by decide); have z3 := lv_neT c6 (a := 3) (by decide); have z4 := lv_neT c7 (a := 4) (by decide); have z5 := lv_neT c8 (a := 5) (by decide); have z6 := lv_neT c10 (a := 6) (by decide); have z7 := lv_neT c12 (a := 7) (by decide); have z8 := lv_neT c16 (a := 8) (by decide); have z9 := lv_neT c18 (a := 9) (by decide); omega) (by decide) ?_
                      refine lv_iconst (v := (-1 : Int32)) hx hb dExp_count_185 (by decide) ?_
                      obtain rfl := Option.some.inj hm
                      exact W.iret (v := (-1 : Int32)) hx hb hr (fun t ht hW => ⟨rfl, ht⟩) (fun q hq => nomatch hq) dExp_count_186
