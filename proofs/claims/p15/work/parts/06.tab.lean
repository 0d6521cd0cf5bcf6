noncomputable def m_Tab_set (tab_known : Nat → Int64) (p0 : Int32) (p1 : Int64) : Option ((Nat → Int64)) := gd (vp_in (p0 * (2 : Int32)) 120) (gd (vp_in ((p0 * (2 : Int32)) + (1 : Int32)) 120) (some (vp_updL (vp_updL tab_known (p0 * (2 : Int32)).toNatClampNeg p1) ((p0 * (2 : Int32)) + (1 : Int32)).toNatClampNeg (p1 ^^^ (-1 : Int64)))))
def rm_Tab_set : Room := { frames := 0, cells := 0, slots := 0, locals := 0 }
set_option maxHeartbeats 4000000 in
set_option maxRecDepth 100000 in
theorem k_Tab_set (l : Launch) (dC : Nat → ClassId) (dI : Nat → Nat → Nat) (cI cL cZ : ClassId) (t1 t2 : Nat) (h_tab a_tab_known a_tab_settled a_tab_values a_tab_nextStates : Nat) (tab_known : Nat → Int64) (sz : Nat) (p0 : Int32) (p1 : Int64) (v : (Nat → Int64)) (hm : m_Tab_set tab_known p0 p1 = some v) : Met l yTab_set wsTab_set rm_Tab_set (sx_Pc (dC, dI) [(cI, .int), (cL, .long), (cZ, .boolean)] t1 t2 [(h_tab, .inr (2, [.ref a_tab_known, .ref a_tab_settled, .ref a_tab_values, .ref a_tab_nextStates])), (a_tab_known, .inl (cL, 120, .inr (.inl tab_known)))] sz [.ref h_tab, .int p0, .long p1]) (va_Qv (fun (_ : Unit) => True) (fun _ t => sx_W (dC, dI) [(cI, .int), (cL, .long), (cZ, .boolean)] (va_A [(h_tab, .inr (2, [.ref a_tab_known, .ref a_tab_settled, .ref a_tab_values, .ref a_tab_nextStates])), (a_tab_known, .inl (cL, 120, .inr (.inl tab_known)))] sz) [(h_tab, .inr (2, [.ref a_tab_known, .ref a_tab_settled, .ref a_tab_values, .ref a_tab_nextStates])), (a_tab_known, .inl (cL, 120, .inr (.inl v)))] t) (va_A [(h_tab, .inr (2, [.ref a_tab_known, .ref a_tab_settled, .ref a_tab_values, .ref a_tab_nextStates])), (a_tab_known, .inl (cL, 120, .inr (.inl tab_known)))] sz)) 0 0 (va_A [(h_tab, .inr (2, [.ref a_tab_known, .ref a_tab_settled, .ref a_tab_values, .ref a_tab_nextStates])), (a_tab_known, .inl (cL, 120, .inr (.inl tab_known)))] sz) := by
  refine Met.ofW (cc := cTab_set) (maxL := 4) (ret := none) (by decide) rfl ?_
  intro p e s m args below meth c s₁ B hml hv
  obtain ⟨rfl, hsz, hP, hK, hD0, hX⟩ := hv
  have hx := B.exec
  have hb := B.bytes
  have hr := B.returns
  have hts0 := atoms_spec (ws := wsTab_set) B.pre
  have hts : ∀ w ∈ tb, w.before _ s = true := fun w h => hts0 w (List.mem_cons_of_mem _ h)
  have hown : s.vm.findClass "StateExplorer$Table" = some m.cls := findClass_of_methodNamed B.named
  have hlocks := B.notSynchronized
  subst hsz
  have hD := hD0.self (sz := s.heap.size)
  generalize hAe : va_A [(h_tab, .inr (2, [.ref a_tab_known, .ref a_tab_settled, .ref a_tab_values, .ref a_tab_nextStates])), (a_tab_known, .inl (cL, 120, .inr (.inl tab_known)))] s.heap.size = A at hD hX ⊢
  have hA : ∀ q : Nat, s.heap.size ≤ q → A q := fun q h => by rw [← hAe]; exact Or.inr h
  have hS : va_S A s.heap s.heap [] := va_S.rf
  have hl := lv_entry ([.ref h_tab, .int p0, .long p1]) (n := 4) (Nat.le_of_ble_eq_true rfl)
  rw [lg_entry_eq]
  generalize (lg_sl ([.ref h_tab, .int p0, .long p1]) ++ List.replicate (4 - (lg_sl ([.ref h_tab, .int p0, .long p1])).length) Slot.unset).toArray = ls at hl ⊢
  have hl : lv_has ls 4 [(0, .ref h_tab), (1, .int p0), (2, .long p1)] := hl
  have C0 : sx_C p s m _ meth c cTab_set 4 "StateExplorer$Table" A (dC, dI) [(cI, .int), (cL, .long), (cZ, .boolean)] t1 t2 := ⟨hx, hb, hml, hown, hts, hA, hK, hlocks, hX⟩
  rw [m_Tab_set] at hm
  refine lv_aload_n hx hb dTab_set_0 rfl (lv_at hl 0 rfl) ?_
  refine va_get (D := (dC, dI)) (ci := 2) (v := .ref a_tab_known) (C := RTab) (T := TTab) (N := 4) hx hb hts inTab hown hK hP 0 rfl rfl 0 (by decide) (hts _ tw_114) (fun _ h9 => h9) rfl dTab_set_1 ?_
  refine lv_iload_n hx hb dTab_set_4 rfl (lv_at hl 1 rfl) ?_
  refine lv_iconst (v := (2 : Int32)) hx hb dTab_set_5 (by decide) ?_
  refine lv_imul hx hb dTab_set_6 ?_
  refine lv_lload_n hx hb dTab_set_7 rfl (lv_at hl 2 rfl) ?_
  obtain ⟨g1, hm⟩ := gd_el hm
  refine va_last hx hb hK hP hD hS 1 1 rfl rfl g1 dTab_set_8 (fun H locs hP hD hS => ?_)
  have hP : va_P (dC, dI) vwCl [(h_tab, .inr (2, [.ref a_tab_known, .ref a_tab_settled, .ref a_tab_values, .ref a_tab_nextStates])), (a_tab_known, .inl (cL, 120, .inr (.inl (vp_updL tab_known (p0 * (2 : Int32)).toNatClampNeg p1))))] H := hP
  have hD : va_D A [(h_tab, .inr (2, [.ref a_tab_known, .ref a_tab_settled, .ref a_tab_values, .ref a_tab_nextStates])), (a_tab_known, .inl (cL, 120, .inr (.inl (vp_updL tab_known (p0 * (2 : Int32)).toNatClampNeg p1))))] := hD
  refine lv_aload_n hx hb dTab_set_9 rfl (lv_at hl 0 rfl) ?_
  refine va_get (D := (dC, dI)) (ci := 2) (v := .ref a_tab_known) (C := RTab) (T := TTab) (N := 4) hx hb hts inTab hown hK hP 0 rfl rfl 0 (by decide) (hts _ tw_114) (fun _ h9 => h9) rfl dTab_set_10 ?_
  refine lv_iload_n hx hb dTab_set_13 rfl (lv_at hl 1 rfl) ?_
  refine lv_iconst (v := (2 : Int32)) hx hb dTab_set_14 (by decide) ?_
  refine lv_imul hx hb dTab_set_15 ?_
  refine lv_iconst (v := (1 : Int32)) hx hb dTab_set_16 (by decide) ?_
  refine lv_iadd hx hb dTab_set_17 ?_
  refine lv_lload_n hx hb dTab_set_18 rfl (lv_at hl 2 rfl) ?_
  refine lv_ldc2 (v := (-1 : Int64)) hx hb hown (hts _ tw_246) dTab_set_19 ?_
  refine lv_lxor hx hb dTab_set_22 ?_
  obtain ⟨g2, hm⟩ := gd_el hm
  refine va_last hx hb hK hP hD hS 1 1 rfl rfl g2 dTab_set_23 (fun H locs hP hD hS => ?_)
  have hP : va_P (dC, dI) vwCl [(h_tab, .inr (2, [.ref a_tab_known, .ref a_tab_settled, .ref a_tab_values, .ref a_tab_nextStates])), (a_tab_known, .inl (cL, 120, .inr (.inl (vp_updL (vp_updL tab_known (p0 * (2 : Int32)).toNatClampNeg p1) ((p0 * (2 : Int32)) + (1 : Int32)).toNatClampNeg (p1 ^^^ (-1 : Int64))))))] H := hP
  have hD : va_D A [(h_tab, .inr (2, [.ref a_tab_known, .ref a_tab_settled, .ref a_tab_values, .ref a_tab_nextStates])), (a_tab_known, .inl (cL, 120, .inr (.inl (vp_updL (vp_updL tab_known (p0 * (2 : Int32)).toNatClampNeg p1) ((p0 * (2 : Int32)) + (1 : Int32)).toNatClampNeg (p1 ^^^ (-1 : Int64))))))] := hD
  obtain rfl := Option.some.inj hm
  exact W.vret hx hb hr (fun t ht hW => ⟨⟨(), rfl, trivial, sx_Wi hP hK hD ht hW.alike⟩, hS.F ht⟩) hS.2.2 dTab_set_24
noncomputable def m_Tab_latchBits  (p0 : Int32) (p1 : Int32) : Option (Int64) := (if (2 : Int32) ≤ p0 then (if (p1 >>> ((p0 - (2 : Int32)) &&& 31)) &&& (1 : Int32) = (1 : Int32) then some (-1 : Int64) else some (0 : Int64)) else gd (vp_in p0 2) (some (sx_LW p0.toNatClampNeg)))
def rm_Tab_latchBits : Room := { frames := 0, cells := 0, slots := 0, locals := 0 }
set_option maxHeartbeats 4000000 in
set_option maxRecDepth 100000 in
theorem k_Tab_latchBits (l : Launch) (dC : Nat → ClassId) (dI : Nat → Nat → Nat) (cI cL cZ : ClassId) (t1 t2 : Nat)   (sz : Nat) (p0 : Int32) (p1 : Int32) (v : Int64) (hm : m_Tab_latchBits p0 p1 = some v) : Met l yTab_latchBits wsTab_latchBits rm_Tab_latchBits (sx_Pc (dC, dI) [(cI, .int), (cL, .long), (cZ, .boolean)] t1 t2 [] sz [.int p0, .int p1]) (sx_Sl v) 0 0 (fun _ => False) := by
  refine Met.ofW (cc := cTab_latchBits) (maxL := 2) (ret := (some .long)) (by decide) rfl ?_
  intro p e s m args below meth c s₁ B hml hv
  obtain ⟨rfl, hsz, hP, hK, hD0, hX⟩ := hv
  have hx := B.exec
  have hb := B.bytes
  have hr := B.returns
  have hts0 := atoms_spec (ws := wsTab_latchBits) B.pre
  have hts : ∀ w ∈ tb, w.before _ s = true := fun w h => hts0 w (List.mem_cons_of_mem _ h)
  have hown : s.vm.findClass "StateExplorer$Table" = some m.cls := findClass_of_methodNamed B.named
  have hlocks := B.notSynchronized
  subst hsz
  have hD := hD0.self (sz := s.heap.size)
  generalize hAe : va_A [] s.heap.size = A at hD hX 
  have hA : ∀ q : Nat, s.heap.size ≤ q → A q := fun q h => by rw [← hAe]; exact Or.inr h
  have hS : va_S A s.heap s.heap [] := va_S.rf
  have hl := lv_entry ([.int p0, .int p1]) (n := 2) (Nat.le_of_ble_eq_true rfl)
  rw [lg_entry_eq]
  generalize (lg_sl ([.int p0, .int p1]) ++ List.replicate (2 - (lg_sl ([.int p0, .int p1])).length) Slot.unset).toArray = ls at hl ⊢
  have hl : lv_has ls 2 [(0, .int p0), (1, .int p1)] := hl
  have C0 : sx_C p s m _ meth c cTab_latchBits 2 "StateExplorer$Table" A (dC, dI) [(cI, .int), (cL, .long), (cZ, .boolean)] t1 t2 := ⟨hx, hb, hml, hown, hts, hA, hK, hlocks, hX⟩
  rw [m_Tab_latchBits] at hm
  refine lv_iload_n hx hb dTab_latchBits_0 rfl (lv_at hl 0 rfl) ?_
  refine va_gets (v := .ref t2) hx hb hX.2.2.2.1 hS hown (hts _ tw_250) (fun _ h9 => h9) dTab_latchBits_1 ?_
  refine va_tlen (v := (2 : Int32)) hx hb hX.2.2.2.2.1 hS rfl dTab_latchBits_4 ?_
  refine lv_icmp_ge (tgt := 14) hx hb dTab_latchBits_5 (by decide) (fun c1 => ?_) (fun c1 => ?_)
  · have hm := sx_pos c1 hm
    refine lv_iload_n hx hb dTab_latchBits_14 rfl (lv_at hl 1 rfl) ?_
    refine lv_iload_n hx hb dTab_latchBits_15 rfl (lv_at hl 0 rfl) ?_
    refine va_gets (v := .ref t2) hx hb hX.2.2.2.1 hS hown (hts _ tw_250) (fun _ h9 => h9) dTab_latchBits_16 ?_
    refine va_tlen (v := (2 : Int32)) hx hb hX.2.2.2.2.1 hS rfl dTab_latchBits_19 ?_
    refine lv_isub hx hb dTab_latchBits_20 ?_
    refine lv_ishr hx hb dTab_latchBits_21 ?_
    refine lv_iconst (v := (1 : Int32)) hx hb dTab_latchBits_22 (by decide) ?_
    refine lv_iand hx hb dTab_latchBits_23 ?_
    refine lv_iconst (v := (1 : Int32)) hx hb dTab_latchBits_24 (by decide) ?_
    refine lv_icmp_ne (tgt := 34) hx hb dTab_latchBits_25 (by decide) (fun c2 => ?_) (fun c2 => ?_)
    · have hm := sx_neg c2 hm
      refine lv_lconst (v := (0 : Int64)) hx hb dTab_latchBits_34 (by decide) ?_
      obtain rfl := Option.some.inj hm
      exact W.lret (v := (0 : Int64)) hx hb hr (fun t ht hW => ⟨rfl, ht⟩) (fun q hq => nomatch hq) dTab_latchBits_35
    · have hm := sx_pos c2 hm
      refine lv_ldc2 (v := (-1 : Int64)) hx hb hown (hts _ tw_246) dTab_latchBits_28 ?_
      refine lv_goto (tgt := 35) hx hb dTab_latchBits_31 (by decide) ?_
      obtain rfl := Option.some.inj hm
      exact W.lret (v := (-1 : Int64)) hx hb hr (fun t ht hW => ⟨rfl, ht⟩) (fun q hq => nomatch hq) dTab_latchBits_35
  · have hm := sx_neg c1 hm
    refine va_gets (v := .ref t2) hx hb hX.2.2.2.1 hS hown (hts _ tw_250) (fun _ h9 => h9) dTab_latchBits_8 ?_
    refine lv_iload_n hx hb dTab_latchBits_11 rfl (lv_at hl 0 rfl) ?_
    obtain ⟨g3, hm⟩ := gd_el hm
    refine va_tl (v := .long (sx_LW p0.toNatClampNeg)) hx hb hX.2.2.2.2.1 hS g3 rfl dTab_latchBits_12 ?_
    obtain rfl := Option.some.inj hm
    exact W.lret (v := sx_LW p0.toNatClampNeg) hx hb hr (fun t ht hW => ⟨rfl, ht⟩) (fun q hq => nomatch hq) dTab_latchBits_13
noncomputable def L_Tab_begin_2 (net_sorts net_ranks : Nat → Int32) (net_gateTotal : Int32) (x2 : Int32) : Nat → Int32 → (Nat → Int64) → Option ((Nat → Int64))
  | 0, _, _ => none
  | n + 1, x3, tab_known => (if net_gateTotal ≤ x3 then some tab_known else gd (vp_in x3 60) ((if net_sorts x3.toNatClampNeg = (0 : Int32) then gd (vp_in x3 60) (gd (vp_in (net_ranks x3.toNatClampNeg) 4) ((m_Tab_set tab_known x3 (sx_IW (net_ranks x3.toNatClampNeg).toNatClampNeg)).bind (fun v14 => (L_Tab_begin_2 net_sorts net_ranks net_gateTotal x2 n (x3 + (1 : Int32)) v14)))) else (if net_sorts x3.toNatClampNeg = (1 : Int32) then gd (vp_in x3 60) ((m_Tab_latchBits (net_ranks x3.toNatClampNeg) x2).bind (fun v8 => (m_Tab_set tab_known x3 v8).bind (fun v10 => (L_Tab_begin_2 net_sorts net_ranks net_gateTotal x2 n (x3 + (1 : Int32)) v10)))) else gd (vp_in (x3 * (2 : Int32)) 120) (gd (vp_in ((x3 * (2 : Int32)) + (1 : Int32)) 120) ((L_Tab_begin_2 net_sorts net_ranks net_gateTotal x2 n (x3 + (1 : Int32)) (vp_updL (vp_updL tab_known (x3 * (2 : Int32)).toNatClampNeg (0 : Int64)) ((x3 * (2 : Int32)) + (1 : Int32)).toNatClampNeg (0 : Int64)))))))))
noncomputable def m_Tab_begin (net_sorts net_ranks : Nat → Int32) (net_gateTotal : Int32) (tab_known : Nat → Int64) (p1 : Int32) : Option ((Nat → Int64)) := ((L_Tab_begin_2 net_sorts net_ranks net_gateTotal p1 fu (0 : Int32) tab_known).bind (fun v16 => some v16))
def rm_Tab_begin : Room := { frames := 1, cells := 0, slots := 0, locals := 23 }
set_option maxHeartbeats 4000000 in
set_option maxRecDepth 100000 in
theorem w_Tab_begin_2 {p : Program} {l : Launch} {e : Env} {s : State} {m : MethodId} {args : Array Value} {below : List Frame} {meth : Method} {c : Code} {dC : Nat → ClassId} {dI : Nat → Nat → Nat} {cI cL cZ : ClassId} {A : Nat → Prop} {Q : State → Prop} {t1 t2 : Nat} (C0 : sx_C p s m args meth c cTab_begin 5 "StateExplorer$Table" A (dC, dI) [(cI, .int), (cL, .long), (cZ, .boolean)] t1 t2) (h_net a_net_sorts a_net_ranks a_net_starts a_net_literals a_net_nextLiterals a_net_outputs h_tab a_tab_known a_tab_settled a_tab_values a_tab_nextStates : Nat) (net_sorts net_ranks : Nat → Int32) (net_gateTotal net_inputTotal net_latchTotal net_outputTotal : Int32) (x2 : Int32) :
    ∀ (n : Nat) (x3 : Int32) (tab_known : Nat → Int64) (r : (Nat → Int64)), L_Tab_begin_2 net_sorts net_ranks net_gateTotal x2 n x3 tab_known = some r → ∀ (H : Heap) (locs : List Loc) (ls : Array Slot), va_P (dC, dI) vwCl [(h_net, .inr (0, [.ref a_net_sorts, .ref a_net_ranks, .ref a_net_starts, .ref a_net_literals, .ref a_net_nextLiterals, .ref a_net_outputs, .int net_gateTotal, .int net_inputTotal, .int net_latchTotal, .int net_outputTotal])), (h_tab, .inr (2, [.ref a_tab_known, .ref a_tab_settled, .ref a_tab_values, .ref a_tab_nextStates])), (a_net_sorts, .inl (cI, 60, .inl net_sorts)), (a_net_ranks, .inl (cI, 60, .inl net_ranks)), (a_tab_known, .inl (cL, 120, .inr (.inl tab_known)))] H → va_D A [(h_net, .inr (0, [.ref a_net_sorts, .ref a_net_ranks, .ref a_net_starts, .ref a_net_literals, .ref a_net_nextLiterals, .ref a_net_outputs, .int net_gateTotal, .int net_inputTotal, .int net_latchTotal, .int net_outputTotal])), (h_tab, .inr (2, [.ref a_tab_known, .ref a_tab_settled, .ref a_tab_values, .ref a_tab_nextStates])), (a_net_sorts, .inl (cI, 60, .inl net_sorts)), (a_net_ranks, .inl (cI, 60, .inl net_ranks)), (a_tab_known, .inl (cL, 120, .inr (.inl tab_known)))] → va_S A s.heap H locs → lv_has ls 5 [(0, .ref h_tab), (1, .ref h_net), (2, .int x2), (3, .int x3)] →
    (∀ (H : Heap) (locs : List Loc) (ls : Array Slot), va_P (dC, dI) vwCl [(h_net, .inr (0, [.ref a_net_sorts, .ref a_net_ranks, .ref a_net_starts, .ref a_net_literals, .ref a_net_nextLiterals, .ref a_net_outputs, .int net_gateTotal, .int net_inputTotal, .int net_latchTotal, .int net_outputTotal])), (h_tab, .inr (2, [.ref a_tab_known, .ref a_tab_settled, .ref a_tab_values, .ref a_tab_nextStates])), (a_net_sorts, .inl (cI, 60, .inl net_sorts)), (a_net_ranks, .inl (cI, 60, .inl net_ranks)), (a_tab_known, .inl (cL, 120, .inr (.inl r)))] H → va_D A [(h_net, .inr (0, [.ref a_net_sorts, .ref a_net_ranks, .ref a_net_starts, .ref a_net_literals, .ref a_net_nextLiterals, .ref a_net_outputs, .int net_gateTotal, .int net_inputTotal, .int net_latchTotal, .int net_outputTotal])), (h_tab, .inr (2, [.ref a_tab_known, .ref a_tab_settled, .ref a_tab_values, .ref a_tab_nextStates])), (a_net_sorts, .inl (cI, 60, .inl net_sorts)), (a_net_ranks, .inl (cI, 60, .inl net_ranks)), (a_tab_known, .inl (cL, 120, .inr (.inl r)))] → va_S A s.heap H locs → lv_has ls 5 [] → W p l e (headSpec wsTab_begin rm_Tab_begin).room s m args below meth c H locs 0 0 Q (F0 m 91 ls [])) →
    W p l e (headSpec wsTab_begin rm_Tab_begin).room s m args below meth c H locs 0 0 Q (F0 m 2 ls []) := by
  obtain ⟨hx, hb, hml, hown, hts, hA, hK, hlocks, hX⟩ := id C0
  intro n
  induction n with
  | zero => intro x3 tab_known r hm; rw [L_Tab_begin_2] at hm; cases hm
  | succ n ih =>
    intro x3 tab_known r hm H locs ls hP hD hS hl k1
    rw [L_Tab_begin_2] at hm
    refine lv_iload_n hx hb dTab_begin_2 rfl (lv_at hl 3 rfl) ?_
    refine lv_aload_n hx hb dTab_begin_3 rfl (lv_at hl 1 rfl) ?_
    refine va_get (D := (dC, dI)) (ci := 0) (v := .int net_gateTotal) (C := RNet) (T := TNet) (N := 10) hx hb hts inNet hown hK hP 0 rfl rfl 6 (by decide) (hts _ tw_76) (fun _ h9 => h9) rfl dTab_begin_4 ?_
    refine lv_icmp_ge (tgt := 91) hx hb dTab_begin_7 (by decide) (fun c1 => ?_) (fun c1 => ?_)
    · have hm := sx_pos c1 hm
      obtain rfl := Option.some.inj hm
      exact k1 _ _ _ hP hD hS (lv_sub hl [] rfl)
    · have hm := sx_neg c1 hm
      refine lv_aload_n hx hb dTab_begin_10 rfl (lv_at hl 1 rfl) ?_
      refine va_get (D := (dC, dI)) (ci := 0) (v := .ref a_net_sorts) (C := RNet) (T := TNet) (N := 10) hx hb hts inNet hown hK hP 0 rfl rfl 0 (by decide) (hts _ tw_64) (fun _ h9 => h9) rfl dTab_begin_11 ?_
      refine lv_iload_n hx hb dTab_begin_14 rfl (lv_at hl 3 rfl) ?_
      obtain ⟨g2, hm⟩ := gd_el hm
      refine va_iald hx hb hK hP 2 0 rfl rfl g2 dTab_begin_15 ?_
      refine lv_istore (lv' := [(4, .int (net_sorts x3.toNatClampNeg)), (0, .ref h_tab), (1, .ref h_net), (2, .int x2), (3, .int x3)]) hx hb dTab_begin_16 hl (by decide) rfl (fun ls hl => ?_)
      refine lv_iload hx hb dTab_begin_18 (lv_at hl 0 rfl) ?_
      refine lv_if_ne (tgt := 41) hx hb dTab_begin_20 (by decide) (fun c3 => ?_) (fun c3 => ?_)
      · have hm := sx_neg c3 hm
        refine lv_iload hx hb dTab_begin_41 (lv_at hl 0 rfl) ?_
        refine lv_iconst (v := (1 : Int32)) hx hb dTab_begin_43 (by decide) ?_
        refine lv_icmp_ne (tgt := 65) hx hb dTab_begin_44 (by decide) (fun c4 => ?_) (fun c4 => ?_)
        · have hm := sx_neg c4 hm
          refine lv_aload_n hx hb dTab_begin_65 rfl (lv_at hl 1 rfl) ?_
          refine va_get (D := (dC, dI)) (ci := 2) (v := .ref a_tab_known) (C := RTab) (T := TTab) (N := 4) hx hb hts inTab hown hK hP 1 rfl rfl 0 (by decide) (hts _ tw_114) (fun _ h9 => h9) rfl dTab_begin_66 ?_
          refine lv_iload_n hx hb dTab_begin_69 rfl (lv_at hl 4 rfl) ?_
          refine lv_iconst (v := (2 : Int32)) hx hb dTab_begin_70 (by decide) ?_
          refine lv_imul hx hb dTab_begin_71 ?_
          refine lv_lconst (v := (0 : Int64)) hx hb dTab_begin_72 (by decide) ?_
          obtain ⟨g5, hm⟩ := gd_el hm
          refine va_last hx hb hK hP hD hS 4 1 rfl rfl g5 dTab_begin_73 (fun H locs hP hD hS => ?_)
          have hP : va_P (dC, dI) vwCl [(h_net, .inr (0, [.ref a_net_sorts, .ref a_net_ranks, .ref a_net_starts, .ref a_net_literals, .ref a_net_nextLiterals, .ref a_net_outputs, .int net_gateTotal, .int net_inputTotal, .int net_latchTotal, .int net_outputTotal])), (h_tab, .inr (2, [.ref a_tab_known, .ref a_tab_settled, .ref a_tab_values, .ref a_tab_nextStates])), (a_net_sorts, .inl (cI, 60, .inl net_sorts)), (a_net_ranks, .inl (cI, 60, .inl net_ranks)), (a_tab_known, .inl (cL, 120, .inr (.inl (vp_updL tab_known (x3 * (2 : Int32)).toNatClampNeg (0 : Int64)))))] H := hP
          have hD : va_D A [(h_net, .inr (0, [.ref a_net_sorts, .ref a_net_ranks, .ref a_net_starts, .ref a_net_literals, .ref a_net_nextLiterals, .ref a_net_outputs, .int net_gateTotal, .int net_inputTotal, .int net_latchTotal, .int net_outputTotal])), (h_tab, .inr (2, [.ref a_tab_known, .ref a_tab_settled, .ref a_tab_values, .ref a_tab_nextStates])), (a_net_sorts, .inl (cI, 60, .inl net_sorts)), (a_net_ranks, .inl (cI, 60, .inl net_ranks)), (a_tab_known, .inl (cL, 120, .inr (.inl (vp_updL tab_known (x3 * (2 : Int32)).toNatClampNeg (0 : Int64)))))] := hD
          refine lv_aload_n hx hb dTab_begin_74 rfl (lv_at hl 1 rfl) ?_
          refine va_get (D := (dC, dI)) (ci := 2) (v := .ref a_tab_known) (C := RTab) (T := TTab) (N := 4) hx hb hts inTab hown hK hP 1 rfl rfl 0 (by decide) (hts _ tw_114) (fun _ h9 => h9) rfl dTab_begin_75 ?_
          refine lv_iload_n hx hb dTab_begin_78 rfl (lv_at hl 4 rfl) ?_
          refine lv_iconst (v := (2 : Int32)) hx hb dTab_begin_79 (by decide) ?_
          refine lv_imul hx hb dTab_begin_80 ?_
          refine lv_iconst (v := (1 : Int32)) hx hb dTab_begin_81 (by decide) ?_
          refine lv_iadd hx hb dTab_begin_82 ?_
          refine lv_lconst (v := (0 : Int64)) hx hb dTab_begin_83 (by decide) ?_
          obtain ⟨g6, hm⟩ := gd_el hm
          refine va_last hx hb hK hP hD hS 4 1 rfl rfl g6 dTab_begin_84 (fun H locs hP hD hS => ?_)
          have hP : va_P (dC, dI) vwCl [(h_net, .inr (0, [.ref a_net_sorts, .ref a_net_ranks, .ref a_net_starts, .ref a_net_literals, .ref a_net_nextLiterals, .ref a_net_outputs, .int net_gateTotal, .int net_inputTotal, .int net_latchTotal, .int net_outputTotal])), (h_tab, .inr (2, [.ref a_tab_known, .ref a_tab_settled, .ref a_tab_values, .ref a_tab_nextStates])), (a_net_sorts, .inl (cI, 60, .inl net_sorts)), (a_net_ranks, .inl (cI, 60, .inl net_ranks)), (a_tab_known, .inl (cL, 120, .inr (.inl (vp_updL (vp_updL tab_known (x3 * (2 : Int32)).toNatClampNeg (0 : Int64)) ((x3 * (2 : Int32)) + (1 : Int32)).toNatClampNeg (0 : Int64)))))] H := hP
          have hD : va_D A [(h_net, .inr (0, [.ref a_net_sorts, .ref a_net_ranks, .ref a_net_starts, .ref a_net_literals, .ref a_net_nextLiterals, .ref a_net_outputs, .int net_gateTotal, .int net_inputTotal, .int net_latchTotal, .int net_outputTotal])), (h_tab, .inr (2, [.ref a_tab_known, .ref a_tab_settled, .ref a_tab_values, .ref a_tab_nextStates])), (a_net_sorts, .inl (cI, 60, .inl net_sorts)), (a_net_ranks, .inl (cI, 60, .inl net_ranks)), (a_tab_known, .inl (cL, 120, .inr (.inl (vp_updL (vp_updL tab_known (x3 * (2 : Int32)).toNatClampNeg (0 : Int64)) ((x3 * (2 : Int32)) + (1 : Int32)).toNatClampNeg (0 : Int64)))))] := hD
          refine lv_iinc (v := x3 + (1 : Int32)) (lv' := [(3, .int (x3 + (1 : Int32))), (4, .int (net_sorts x3.toNatClampNeg)), (0, .ref h_tab), (1, .ref h_net), (2, .int x2)]) hx hb dTab_begin_85 hl (k := 4) rfl rfl (by decide) rfl (fun ls hl => ?_)
          refine lv_goto (tgt := 2) hx hb dTab_begin_88 (by decide) ?_
          exact ih (x3 + (1 : Int32)) (vp_updL (vp_updL tab_known (x3 * (2 : Int32)).toNatClampNeg (0 : Int64)) ((x3 * (2 : Int32)) + (1 : Int32)).toNatClampNeg (0 : Int64)) r hm _ _ _ hP hD hS (lv_sub hl [2, 3, 4, 0] rfl) k1
        · have hm := sx_pos c4 hm
          refine lv_aload_n hx hb dTab_begin_47 rfl (lv_at hl 1 rfl) ?_
          refine lv_iload_n hx hb dTab_begin_48 rfl (lv_at hl 4 rfl) ?_
          refine lv_aload_n hx hb dTab_begin_49 rfl (lv_at hl 2 rfl) ?_
          refine va_get (D := (dC, dI)) (ci := 0) (v := .ref a_net_ranks) (C := RNet) (T := TNet) (N := 10) hx hb hts inNet hown hK hP 0 rfl rfl 1 (by decide) (hts _ tw_66) (fun _ h9 => h9) rfl dTab_begin_50 ?_
          refine lv_iload_n hx hb dTab_begin_53 rfl (lv_at hl 4 rfl) ?_
          obtain ⟨g7, hm⟩ := gd_el hm
          refine va_iald hx hb hK hP 3 0 rfl rfl g7 dTab_begin_54 ?_
          refine lv_iload_n hx hb dTab_begin_55 rfl (lv_at hl 3 rfl) ?_
          obtain ⟨v8, hv8, hm⟩ := sx_bind hm
          have hPc := hP.sub (ws' := []) [] rfl
          have hDc := hD.sub (ws' := []) [] (by decide) rfl
          have hFc := va_free (wc := []) hD hS hA [] rfl
          refine sx_stL (va_runS (As := [.int (net_ranks x3.toNatClampNeg), .int x2]) (rest := [.int x3, .ref h_tab]) ⟨hx, hb, hml, hown, hts⟩ (k_Tab_latchBits l dC dI cI cL cZ t1 t2  _ (net_ranks x3.toNatClampNeg) x2 v8 hv8) (va_cwS 2 hts (sx_gS tw_247 tw_248 tw_38 tcTab_latchBits) rfl rfl rfl (by decide +kernel) ⟨Nat.le_of_ble_eq_true rfl, Nat.le_of_ble_eq_true rfl⟩) (sx_pS hK hX hS hPc hDc hFc) rfl rfl hl.1 rfl (lv_room (Nat.le_of_ble_eq_true rfl)) dTab_begin_56 ⟨Nat.le_of_ble_eq_true rfl, Nat.le_of_ble_eq_true rfl⟩) ?_
          obtain ⟨v10, hv10, hm⟩ := sx_bind hm
          have hPc := hP.sub (ws' := [(h_tab, .inr (2, [.ref a_tab_known, .ref a_tab_settled, .ref a_tab_values, .ref a_tab_nextStates])), (a_tab_known, .inl (cL, 120, .inr (.inl tab_known)))]) [1, 4] rfl
          have hDc := hD.sub (ws' := [(h_tab, .inr (2, [.ref a_tab_known, .ref a_tab_settled, .ref a_tab_values, .ref a_tab_nextStates])), (a_tab_known, .inl (cL, 120, .inr (.inl tab_known)))]) [1, 4] (by decide) rfl
          have hFc := va_free (wc := [(h_tab, .inr (2, [.ref a_tab_known, .ref a_tab_settled, .ref a_tab_values, .ref a_tab_nextStates])), (a_tab_known, .inl (cL, 120, .inr (.inl tab_known)))]) hD hS hA [1, 4] rfl
          refine va_callv (va_runV (As := [.int x3, .long v8]) (rest := []) ⟨hx, hb, hml, hown, hts⟩ (k_Tab_set l dC dI cI cL cZ t1 t2 h_tab a_tab_known a_tab_settled a_tab_values a_tab_nextStates tab_known _ x3 v8 v10 hv10) (cwV 2 hts (sx_gV tw_242 tw_244 tw_1 tw_38 tcTab_set) rfl rfl rfl (by decide +kernel) ⟨Nat.le_of_ble_eq_true rfl, Nat.le_of_ble_eq_true rfl⟩) (sx_pV hK hX hS hPc hDc hFc (va_recv hK hPc (ci := 2) (q0 := 0) rfl rfl)) rfl rfl hl.1 rfl (lv_room (Nat.le_of_ble_eq_true rfl)) dTab_begin_59 ⟨Nat.le_of_ble_eq_true rfl, Nat.le_of_ble_eq_true rfl⟩) hS (fun q _ h => hFc q h) hFc (fun u_ t_ H locs ht hvm hw hB hz1 hk1 hS => ?_)
          obtain ⟨hP1, -, hD1⟩ := hB
          rw [ht] at hP1
          obtain ⟨hP, hD⟩ := va_join (wr := [(h_net, .inr (0, [.ref a_net_sorts, .ref a_net_ranks, .ref a_net_starts, .ref a_net_literals, .ref a_net_nextLiterals, .ref a_net_outputs, .int net_gateTotal, .int net_inputTotal, .int net_latchTotal, .int net_outputTotal])), (a_net_sorts, .inl (cI, 60, .inl net_sorts)), (a_net_ranks, .inl (cI, 60, .inl net_ranks))]) (w1 := [(h_tab, .inr (2, [.ref a_tab_known, .ref a_tab_settled, .ref a_tab_values, .ref a_tab_nextStates])), (a_tab_known, .inl (cL, 120, .inr (.inl v10)))]) hP hD [1, 4] [0, 2, 3] rfl rfl (by decide) (by decide) hk1 hFc hP1 hD1
          have hP : va_P (dC, dI) vwCl [(h_net, .inr (0, [.ref a_net_sorts, .ref a_net_ranks, .ref a_net_starts, .ref a_net_literals, .ref a_net_nextLiterals, .ref a_net_outputs, .int net_gateTotal, .int net_inputTotal, .int net_latchTotal, .int net_outputTotal])), (a_net_sorts, .inl (cI, 60, .inl net_sorts)), (a_net_ranks, .inl (cI, 60, .inl net_ranks)), (h_tab, .inr (2, [.ref a_tab_known, .ref a_tab_settled, .ref a_tab_values, .ref a_tab_nextStates])), (a_tab_known, .inl (cL, 120, .inr (.inl v10)))] H := hP
          have hD : va_D A [(h_net, .inr (0, [.ref a_net_sorts, .ref a_net_ranks, .ref a_net_starts, .ref a_net_literals, .ref a_net_nextLiterals, .ref a_net_outputs, .int net_gateTotal, .int net_inputTotal, .int net_latchTotal, .int net_outputTotal])), (a_net_sorts, .inl (cI, 60, .inl net_sorts)), (a_net_ranks, .inl (cI, 60, .inl net_ranks)), (h_tab, .inr (2, [.ref a_tab_known, .ref a_tab_settled, .ref a_tab_values, .ref a_tab_nextStates])), (a_tab_known, .inl (cL, 120, .inr (.inl v10)))] := hD
          refine lv_goto (tgt := 85) hx hb dTab_begin_62 (by decide) ?_
          refine lv_iinc (v := x3 + (1 : Int32)) (lv' := [(3, .int (x3 + (1 : Int32))), (4, .int (net_sorts x3.toNatClampNeg)), (0, .ref h_tab), (1, .ref h_net), (2, .int x2)]) hx hb dTab_begin_85 hl (k := 4) rfl rfl (by decide) rfl (fun ls hl => ?_)
          refine lv_goto (tgt := 2) hx hb dTab_begin_88 (by decide) ?_
          exact ih (x3 + (1 : Int32)) v10 r hm _ _ _ (hP.sub (ws' := [(h_net, .inr (0, [.ref a_net_sorts, .ref a_net_ranks, .ref a_net_starts, .ref a_net_literals, .ref a_net_nextLiterals, .ref a_net_outputs, .int net_gateTotal, .int net_inputTotal, .int net_latchTotal, .int net_outputTotal])), (h_tab, .inr (2, [.ref a_tab_known, .ref a_tab_settled, .ref a_tab_values, .ref a_tab_nextStates])), (a_net_sorts, .inl (cI, 60, .inl net_sorts)), (a_net_ranks, .inl (cI, 60, .inl net_ranks)), (a_tab_known, .inl (cL, 120, .inr (.inl v10)))]) [0, 3, 1, 2, 4] rfl) (hD.sub (ws' := [(h_net, .inr (0, [.ref a_net_sorts, .ref a_net_ranks, .ref a_net_starts, .ref a_net_literals, .ref a_net_nextLiterals, .ref a_net_outputs, .int net_gateTotal, .int net_inputTotal, .int net_latchTotal, .int net_outputTotal])), (h_tab, .inr (2, [.ref a_tab_known, .ref a_tab_settled, .ref a_tab_values, .ref a_tab_nextStates])), (a_net_sorts, .inl (cI, 60, .inl net_sorts)), (a_net_ranks, .inl (cI, 60, .inl net_ranks)), (a_tab_known, .inl (cL, 120, .inr (.inl v10)))]) [0, 3, 1, 2, 4] (by decide) rfl) hS (lv_sub hl [2, 3, 4, 0] rfl) k1
      · have hm := sx_pos c3 hm
        refine lv_aload_n hx hb dTab_begin_23 rfl (lv_at hl 1 rfl) ?_
        refine lv_iload_n hx hb dTab_begin_24 rfl (lv_at hl 4 rfl) ?_
        refine va_gets (v := .ref t1) hx hb hX.2.1 hS hown (hts _ tw_240) (fun _ h9 => h9) dTab_begin_25 ?_
        refine lv_aload_n hx hb dTab_begin_28 rfl (lv_at hl 2 rfl) ?_
        refine va_get (D := (dC, dI)) (ci := 0) (v := .ref a_net_ranks) (C := RNet) (T := TNet) (N := 10) hx hb hts inNet hown hK hP 0 rfl rfl 1 (by decide) (hts _ tw_66) (fun _ h9 => h9) rfl dTab_begin_29 ?_
        refine lv_iload_n hx hb dTab_begin_32 rfl (lv_at hl 4 rfl) ?_
        obtain ⟨g12, hm⟩ := gd_el hm
        refine va_iald hx hb hK hP 3 0 rfl rfl g12 dTab_begin_33 ?_
        obtain ⟨g13, hm⟩ := gd_el hm
        refine va_tl (v := .long (sx_IW (net_ranks x3.toNatClampNeg).toNatClampNeg)) hx hb hX.2.2.1 hS g13 rfl dTab_begin_34 ?_
        obtain ⟨v14, hv14, hm⟩ := sx_bind hm
        have hPc := hP.sub (ws' := [(h_tab, .inr (2, [.ref a_tab_known, .ref a_tab_settled, .ref a_tab_values, .ref a_tab_nextStates])), (a_tab_known, .inl (cL, 120, .inr (.inl tab_known)))]) [1, 4] rfl
        have hDc := hD.sub (ws' := [(h_tab, .inr (2, [.ref a_tab_known, .ref a_tab_settled, .ref a_tab_values, .ref a_tab_nextStates])), (a_tab_known, .inl (cL, 120, .inr (.inl tab_known)))]) [1, 4] (by decide) rfl
        have hFc := va_free (wc := [(h_tab, .inr (2, [.ref a_tab_known, .ref a_tab_settled, .ref a_tab_values, .ref a_tab_nextStates])), (a_tab_known, .inl (cL, 120, .inr (.inl tab_known)))]) hD hS hA [1, 4] rfl
        refine va_callv (va_runV (As := [.int x3, .long (sx_IW (net_ranks x3.toNatClampNeg).toNatClampNeg)]) (rest := []) ⟨hx, hb, hml, hown, hts⟩ (k_Tab_set l dC dI cI cL cZ t1 t2 h_tab a_tab_known a_tab_settled a_tab_values a_tab_nextStates tab_known _ x3 (sx_IW (net_ranks x3.toNatClampNeg).toNatClampNeg) v14 hv14) (cwV 2 hts (sx_gV tw_242 tw_244 tw_1 tw_38 tcTab_set) rfl rfl rfl (by decide +kernel) ⟨Nat.le_of_ble_eq_true rfl, Nat.le_of_ble_eq_true rfl⟩) (sx_pV hK hX hS hPc hDc hFc (va_recv hK hPc (ci := 2) (q0 := 0) rfl rfl)) rfl rfl hl.1 rfl (lv_room (Nat.le_of_ble_eq_true rfl)) dTab_begin_35 ⟨Nat.le_of_ble_eq_true rfl, Nat.le_of_ble_eq_true rfl⟩) hS (fun q _ h => hFc q h) hFc (fun u_ t_ H locs ht hvm hw hB hz1 hk1 hS => ?_)
        obtain ⟨hP1, -, hD1⟩ := hB
        rw [ht] at hP1
        obtain ⟨hP, hD⟩ := va_join (wr := [(h_net, .inr (0, [.ref a_net_sorts, .ref a_net_ranks, .ref a_net_starts, .ref a_net_literals, .ref a_net_nextLiterals, .ref a_net_outputs, .int net_gateTotal, .int net_inputTotal, .int net_latchTotal, .int net_outputTotal])), (a_net_sorts, .inl (cI, 60, .inl net_sorts)), (a_net_ranks, .inl (cI, 60, .inl net_ranks))]) (w1 := [(h_tab, .inr (2, [.ref a_tab_known, .ref a_tab_settled, .ref a_tab_values, .ref a_tab_nextStates])), (a_tab_known, .inl (cL, 120, .inr (.inl v14)))]) hP hD [1, 4] [0, 2, 3] rfl rfl (by decide) (by decide) hk1 hFc hP1 hD1
        have hP : va_P (dC, dI) vwCl [(h_net, .inr (0, [.ref a_net_sorts, .ref a_net_ranks, .ref a_net_starts, .ref a_net_literals, .ref a_net_nextLiterals, .ref a_net_outputs, .int net_gateTotal, .int net_inputTotal, .int net_latchTotal, .int net_outputTotal])), (a_net_sorts, .inl (cI, 60, .inl net_sorts)), (a_net_ranks, .inl (cI, 60, .inl net_ranks)), (h_tab, .inr (2, [.ref a_tab_known, .ref a_tab_settled, .ref a_tab_values, .ref a_tab_nextStates])), (a_tab_known, .inl (cL, 120, .inr (.inl v14)))] H := hP
        have hD : va_D A [(h_net, .inr (0, [.ref a_net_sorts, .ref a_net_ranks, .ref a_net_starts, .ref a_net_literals, .ref a_net_nextLiterals, .ref a_net_outputs, .int net_gateTotal, .int net_inputTotal, .int net_latchTotal, .int net_outputTotal])), (a_net_sorts, .inl (cI, 60, .inl net_sorts)), (a_net_ranks, .inl (cI, 60, .inl net_ranks)), (h_tab, .inr (2, [.ref a_tab_known, .ref a_tab_settled, .ref a_tab_values, .ref a_tab_nextStates])), (a_tab_known, .inl (cL, 120, .inr (.inl v14)))] := hD
        refine lv_goto (tgt := 85) hx hb dTab_begin_38 (by decide) ?_
        refine lv_iinc (v := x3 + (1 : Int32)) (lv' := [(3, .int (x3 + (1 : Int32))), (4, .int (net_sorts x3.toNatClampNeg)), (0, .ref h_tab), (1, .ref h_net), (2, .int x2)]) hx hb dTab_begin_85 hl (k := 4) rfl rfl (by decide) rfl (fun ls hl => ?_)
        refine lv_goto (tgt := 2) hx hb dTab_begin_88 (by decide) ?_
        exact ih (x3 + (1 : Int32)) v14 r hm _ _ _ (hP.sub (ws' := [(h_net, .inr (0, [.ref a_net_sorts, .ref a_net_ranks, .ref a_net_starts, .ref a_net_literals, .ref a_net_nextLiterals, .ref a_net_outputs, .int net_gateTotal, .int net_inputTotal, .int net_latchTotal, .int net_outputTotal])), (h_tab, .inr (2, [.ref a_tab_known, .ref a_tab_settled, .ref a_tab_values, .ref a_tab_nextStates])), (a_net_sorts, .inl (cI, 60, .inl net_sorts)), (a_net_ranks, .inl (cI, 60, .inl net_ranks)), (a_tab_known, .inl (cL, 120, .inr (.inl v14)))]) [0, 3, 1, 2, 4] rfl) (hD.sub (ws' := [(h_net, .inr (0, [.ref a_net_sorts, .ref a_net_ranks, .ref a_net_starts, .ref a_net_literals, .ref a_net_nextLiterals, .ref a_net_outputs, .int net_gateTotal, .int net_inputTotal, .int net_latchTotal, .int net_outputTotal])), (h_tab, .inr (2, [.ref a_tab_known, .ref a_tab_settled, .ref a_tab_values, .ref a_tab_nextStates])), (a_net_sorts, .inl (cI, 60, .inl net_sorts)), (a_net_ranks, .inl (cI, 60, .inl net_ranks)), (a_tab_known, .inl (cL, 120, .inr (.inl v14)))]) [0, 3, 1, 2, 4] (by decide) rfl) hS (lv_sub hl [2, 3, 4, 0] rfl) k1
set_option maxHeartbeats 4000000 in
set_option maxRecDepth 100000 in
theorem k_Tab_begin (l : Launch) (dC : Nat → ClassId) (dI : Nat → Nat → Nat) (cI cL cZ : ClassId) (t1 t2 : Nat) (h_net a_net_sorts a_net_ranks a_net_starts a_net_literals a_net_nextLiterals a_net_outputs h_tab a_tab_known a_tab_settled a_tab_values a_tab_nextStates : Nat) (net_sorts net_ranks : Nat → Int32) (net_gateTotal net_inputTotal net_latchTotal net_outputTotal : Int32) (tab_known : Nat → Int64) (sz : Nat) (p1 : Int32) (v : (Nat → Int64)) (hm : m_Tab_begin net_sorts net_ranks net_gateTotal tab_known p1 = some v) : Met l yTab_begin wsTab_begin rm_Tab_begin (sx_Pc (dC, dI) [(cI, .int), (cL, .long), (cZ, .boolean)] t1 t2 [(h_net, .inr (0, [.ref a_net_sorts, .ref a_net_ranks, .ref a_net_starts, .ref a_net_literals, .ref a_net_nextLiterals, .ref a_net_outputs, .int net_gateTotal, .int net_inputTotal, .int net_latchTotal, .int net_outputTotal])), (h_tab, .inr (2, [.ref a_tab_known, .ref a_tab_settled, .ref a_tab_values, .ref a_tab_nextStates])), (a_net_sorts, .inl (cI, 60, .inl net_sorts)), (a_net_ranks, .inl (cI, 60, .inl net_ranks)), (a_tab_known, .inl (cL, 120, .inr (.inl tab_known)))] sz [.ref h_tab, .ref h_net, .int p1]) (va_Qv (fun (_ : Unit) => True) (fun _ t => sx_W (dC, dI) [(cI, .int), (cL, .long), (cZ, .boolean)] (va_A [(h_net, .inr (0, [.ref a_net_sorts, .ref a_net_ranks, .ref a_net_starts, .ref a_net_literals, .ref a_net_nextLiterals, .ref a_net_outputs, .int net_gateTotal, .int net_inputTotal, .int net_latchTotal, .int net_outputTotal])), (h_tab, .inr (2, [.ref a_tab_known, .ref a_tab_settled, .ref a_tab_values, .ref a_tab_nextStates])), (a_net_sorts, .inl (cI, 60, .inl net_sorts)), (a_net_ranks, .inl (cI, 60, .inl net_ranks)), (a_tab_known, .inl (cL, 120, .inr (.inl tab_known)))] sz) [(h_net, .inr (0, [.ref a_net_sorts, .ref a_net_ranks, .ref a_net_starts, .ref a_net_literals, .ref a_net_nextLiterals, .ref a_net_outputs, .int net_gateTotal, .int net_inputTotal, .int net_latchTotal, .int net_outputTotal])), (h_tab, .inr (2, [.ref a_tab_known, .ref a_tab_settled, .ref a_tab_values, .ref a_tab_nextStates])), (a_net_sorts, .inl (cI, 60, .inl net_sorts)), (a_net_ranks, .inl (cI, 60, .inl net_ranks)), (a_tab_known, .inl (cL, 120, .inr (.inl v)))] t) (va_A [(h_net, .inr (0, [.ref a_net_sorts, .ref a_net_ranks, .ref a_net_starts, .ref a_net_literals, .ref a_net_nextLiterals, .ref a_net_outputs, .int net_gateTotal, .int net_inputTotal, .int net_latchTotal, .int net_outputTotal])), (h_tab, .inr (2, [.ref a_tab_known, .ref a_tab_settled, .ref a_tab_values, .ref a_tab_nextStates])), (a_net_sorts, .inl (cI, 60, .inl net_sorts)), (a_net_ranks, .inl (cI, 60, .inl net_ranks)), (a_tab_known, .inl (cL, 120, .inr (.inl tab_known)))] sz)) 0 0 (va_A [(h_net, .inr (0, [.ref a_net_sorts, .ref a_net_ranks, .ref a_net_starts, .ref a_net_literals, .ref a_net_nextLiterals, .ref a_net_outputs, .int net_gateTotal, .int net_inputTotal, .int net_latchTotal, .int net_outputTotal])), (h_tab, .inr (2, [.ref a_tab_known, .ref a_tab_settled, .ref a_tab_values, .ref a_tab_nextStates])), (a_net_sorts, .inl (cI, 60, .inl net_sorts)), (a_net_ranks, .inl (cI, 60, .inl net_ranks)), (a_tab_known, .inl (cL, 120, .inr (.inl tab_known)))] sz) := by
  refine Met.ofW (cc := cTab_begin) (maxL := 5) (ret := none) (by decide) rfl ?_
  intro p e s m args below meth c s₁ B hml hv
  obtain ⟨rfl, hsz, hP, hK, hD0, hX⟩ := hv
  have hx := B.exec
  have hb := B.bytes
  have hr := B.returns
  have hts0 := atoms_spec (ws := wsTab_begin) B.pre
  have hts : ∀ w ∈ tb, w.before _ s = true := fun w h => hts0 w (List.mem_cons_of_mem _ h)
  have hown : s.vm.findClass "StateExplorer$Table" = some m.cls := findClass_of_methodNamed B.named
  have hlocks := B.notSynchronized
  subst hsz
  have hD := hD0.self (sz := s.heap.size)
  generalize hAe : va_A [(h_net, .inr (0, [.ref a_net_sorts, .ref a_net_ranks, .ref a_net_starts, .ref a_net_literals, .ref a_net_nextLiterals, .ref a_net_outputs, .int net_gateTotal, .int net_inputTotal, .int net_latchTotal, .int net_outputTotal])), (h_tab, .inr (2, [.ref a_tab_known, .ref a_tab_settled, .ref a_tab_values, .ref a_tab_nextStates])), (a_net_sorts, .inl (cI, 60, .inl net_sorts)), (a_net_ranks, .inl (cI, 60, .inl net_ranks)), (a_tab_known, .inl (cL, 120, .inr (.inl tab_known)))] s.heap.size = A at hD hX ⊢
  have hA : ∀ q : Nat, s.heap.size ≤ q → A q := fun q h => by rw [← hAe]; exact Or.inr h
  have hS : va_S A s.heap s.heap [] := va_S.rf
  have hl := lv_entry ([.ref h_tab, .ref h_net, .int p1]) (n := 5) (Nat.le_of_ble_eq_true rfl)
  rw [lg_entry_eq]
  generalize (lg_sl ([.ref h_tab, .ref h_net, .int p1]) ++ List.replicate (5 - (lg_sl ([.ref h_tab, .ref h_net, .int p1])).length) Slot.unset).toArray = ls at hl ⊢
  have hl : lv_has ls 5 [(0, .ref h_tab), (1, .ref h_net), (2, .int p1)] := hl
  have C0 : sx_C p s m _ meth c cTab_begin 5 "StateExplorer$Table" A (dC, dI) [(cI, .int), (cL, .long), (cZ, .boolean)] t1 t2 := ⟨hx, hb, hml, hown, hts, hA, hK, hlocks, hX⟩
  rw [m_Tab_begin] at hm
  refine lv_iconst (v := (0 : Int32)) hx hb dTab_begin_0 (by decide) ?_
  refine lv_istore_n (lv' := [(3, .int (0 : Int32)), (0, .ref h_tab), (1, .ref h_net), (2, .int p1)]) hx hb dTab_begin_1 rfl hl (by decide) rfl (fun ls hl => ?_)
  obtain ⟨v16, hv16, hm⟩ := sx_bind hm
  refine w_Tab_begin_2 C0 h_net a_net_sorts a_net_ranks a_net_starts a_net_literals a_net_nextLiterals a_net_outputs h_tab a_tab_known a_tab_settled a_tab_values a_tab_nextStates net_sorts net_ranks net_gateTotal net_inputTotal net_latchTotal net_outputTotal p1 _ (0 : Int32) tab_known v16 hv16 _ _ _ hP hD hS (lv_sub hl [1, 2, 3, 0] rfl) ?_
  intro H locs ls hP hD hS hl
  obtain rfl := Option.some.inj hm
  exact W.vret hx hb hr (fun t ht hW => ⟨⟨(), rfl, trivial, sx_Wi hP hK hD ht hW.alike⟩, hS.F ht⟩) hS.2.2 dTab_begin_91
noncomputable def L_Tab_learn_26 (net_literals : Nat → Int32) (tab_known : Nat → Int64) (x3 : Int32) (x8 : Int32) : Nat → Int64 → Int64 → Int32 → Option (Int64 × Int64)
  | 0, _, _, _ => none
  | n + 1, x4, x6, x9 => (if x8 ≤ x9 then some (x4, x6) else gd (vp_in x9 240) (gd (vp_in ((net_literals x9.toNatClampNeg) ^^^ x3) 120) (gd (vp_in (((net_literals x9.toNatClampNeg) ^^^ x3) ^^^ (1 : Int32)) 120) ((L_Tab_learn_26 net_literals tab_known x3 x8 n (x4 &&& (tab_known ((net_literals x9.toNatClampNeg) ^^^ x3).toNatClampNeg)) (x6 ||| (tab_known (((net_literals x9.toNatClampNeg) ^^^ x3) ^^^ (1 : Int32)).toNatClampNeg)) (x9 + (1 : Int32)))))))
noncomputable def m_Tab_learn (net_starts net_literals : Nat → Int32) (tab_known : Nat → Int64) (p1 : Int32) (p2 : Int32) : Option (Int32 × (Nat → Int64)) := gd (vp_in (p1 + (1 : Int32)) 61) (gd (vp_in p1 61) (((L_Tab_learn_26 net_literals tab_known p2 (net_starts (p1 + (1 : Int32)).toNatClampNeg) fu (-1 : Int64) (0 : Int64) (net_starts p1.toNatClampNeg)).bind (fun v7 => gd (vp_in ((p1 * (2 : Int32)) + p2) 120) ((sx_let (fun (z0J9 : Int32) => gd (vp_in ((p1 * (2 : Int32)) + p2) 120) (gd (vp_in (((p1 * (2 : Int32)) + p2) ^^^ (1 : Int32)) 120) (gd (sx_zok z0J9) (some (z0J9, vp_updL (vp_updL tab_known ((p1 * (2 : Int32)) + p2).toNatClampNeg v7.1) (((p1 * (2 : Int32)) + p2) ^^^ (1 : Int32)).toNatClampNeg v7.2))))) (fun J9 => sx_let (fun (_ : Unit) => (J9 (1 : Int32))) (fun J12 => (if lg_cmp (tab_known ((p1 * (2 : Int32)) + p2).toNatClampNeg) v7.1 = (0 : Int32) then gd (vp_in (((p1 * (2 : Int32)) + p2) ^^^ (1 : Int32)) 120) ((if lg_cmp (tab_known (((p1 * (2 : Int32)) + p2) ^^^ (1 : Int32)).toNatClampNeg) v7.2 = (0 : Int32) then (J9 (0 : Int32)) else (J12 ()))) else (J12 ()))))))))))
def rm_Tab_learn : Room := { frames := 0, cells := 0, slots := 0, locals := 0 }
set_option maxHeartbeats 4000000 in
set_option maxRecDepth 100000 in
theorem w_Tab_learn_26 {p : Program} {l : Launch} {e : Env} {s : State} {m : MethodId} {args : Array Value} {below : List Frame} {meth : Method} {c : Code} {dC : Nat → ClassId} {dI : Nat → Nat → Nat} {cI cL cZ : ClassId} {A : Nat → Prop} {Q : State → Prop} {t1 t2 : Nat} (C0 : sx_C p s m args meth c cTab_learn 11 "StateExplorer$Table" A (dC, dI) [(cI, .int), (cL, .long), (cZ, .boolean)] t1 t2) (h_net a_net_sorts a_net_ranks a_net_starts a_net_literals a_net_nextLiterals a_net_outputs h_tab a_tab_known a_tab_settled a_tab_values a_tab_nextStates : Nat) (net_starts net_literals : Nat → Int32) (net_gateTotal net_inputTotal net_latchTotal net_outputTotal : Int32) (tab_known : Nat → Int64) (x2 : Int32) (x3 : Int32) (x8 : Int32) {H : Heap} {locs : List Loc} (hP : va_P (dC, dI) vwCl [(h_net, .inr (0, [.ref a_net_sorts, .ref a_net_ranks, .ref a_net_starts, .ref a_net_literals, .ref a_net_nextLiterals, .ref a_net_outputs, .int net_gateTotal, .int net_inputTotal, .int net_latchTotal, .int net_outputTotal])), (h_tab, .inr (2, [.ref a_tab_known, .ref a_tab_settled, .ref a_tab_values, .ref a_tab_nextStates])), (a_net_starts, .inl (cI, 61, .inl net_starts)), (a_net_literals, .inl (cI, 240, .inl net_literals)), (a_tab_known, .inl (cL, 120, .inr (.inl tab_known)))] H) (hD : va_D A [(h_net, .inr (0, [.ref a_net_sorts, .ref a_net_ranks, .ref a_net_starts, .ref a_net_literals, .ref a_net_nextLiterals, .ref a_net_outputs, .int net_gateTotal, .int net_inputTotal, .int net_latchTotal, .int net_outputTotal])), (h_tab, .inr (2, [.ref a_tab_known, .ref a_tab_settled, .ref a_tab_values, .ref a_tab_nextStates])), (a_net_starts, .inl (cI, 61, .inl net_starts)), (a_net_literals, .inl (cI, 240, .inl net_literals)), (a_tab_known, .inl (cL, 120, .inr (.inl tab_known)))]) (hS : va_S A s.heap H locs) :
    ∀ (n : Nat) (x4 : Int64) (x6 : Int64) (x9 : Int32)  (r : Int64 × Int64), L_Tab_learn_26 net_literals tab_known x3 x8 n x4 x6 x9 = some r → ∀ (ls : Array Slot), lv_has ls 11 [(0, .ref h_tab), (1, .ref h_net), (2, .int x2), (3, .int x3), (4, .long x4), (6, .long x6), (8, .int x8), (9, .int x9)] →
    (∀ (ls : Array Slot), lv_has ls 11 [(0, .ref h_tab), (2, .int x2), (3, .int x3), (4, .long r.1), (6, .long r.2)] → W p l e (headSpec wsTab_learn rm_Tab_learn).room s m args below meth c H locs 0 0 Q (F0 m 76 ls [])) →
    W p l e (headSpec wsTab_learn rm_Tab_learn).room s m args below meth c H locs 0 0 Q (F0 m 26 ls []) := by
  obtain ⟨hx, hb, hml, hown, hts, hA, hK, hlocks, hX⟩ := id C0
  intro n
  induction n with
  | zero => intro x4 x6 x9 r hm; rw [L_Tab_learn_26] at hm; cases hm
  | succ n ih =>
    intro x4 x6 x9 r hm ls hl k1
    rw [L_Tab_learn_26] at hm
    refine lv_iload hx hb dTab_learn_26 (lv_at hl 7 rfl) ?_
    refine lv_iload hx hb dTab_learn_28 (lv_at hl 6 rfl) ?_
    refine lv_icmp_ge (tgt := 76) hx hb dTab_learn_30 (by decide) (fun c3 => ?_) (fun c3 => ?_)
    · have hm := sx_pos c3 hm
      obtain rfl := Option.some.inj hm
      exact k1 _ (lv_sub hl [0, 2, 3, 4, 5] rfl)
    · have hm := sx_neg c3 hm
      refine lv_aload_n hx hb dTab_learn_33 rfl (lv_at hl 1 rfl) ?_
      refine va_get (D := (dC, dI)) (ci := 0) (v := .ref a_net_literals) (C := RNet) (T := TNet) (N := 10) hx hb hts inNet hown hK hP 0 rfl rfl 3 (by decide) (hts _ tw_70) (fun _ h9 => h9) rfl dTab_learn_34 ?_
      refine lv_iload hx hb dTab_learn_37 (lv_at hl 7 rfl) ?_
      obtain ⟨g4, hm⟩ := gd_el hm
      refine va_iald hx hb hK hP 3 0 rfl rfl g4 dTab_learn_39 ?_
      refine lv_iload_n hx hb dTab_learn_40 rfl (lv_at hl 3 rfl) ?_
      refine lv_ixor hx hb dTab_learn_41 ?_
      refine lv_istore (lv' := [(10, .int ((net_literals x9.toNatClampNeg) ^^^ x3)), (0, .ref h_tab), (1, .ref h_net), (2, .int x2), (3, .int x3), (4, .long x4), (6, .long x6), (8, .int x8), (9, .int x9)]) hx hb dTab_learn_42 hl (by decide) rfl (fun ls hl => ?_)
      refine lv_lload hx hb dTab_learn_44 (lv_at hl 5 rfl) ?_
      refine lv_aload_n hx hb dTab_learn_46 rfl (lv_at hl 1 rfl) ?_
      refine va_get (D := (dC, dI)) (ci := 2) (v := .ref a_tab_known) (C := RTab) (T := TTab) (N := 4) hx hb hts inTab hown hK hP 1 rfl rfl 0 (by decide) (hts _ tw_114) (fun _ h9 => h9) rfl dTab_learn_47 ?_
      refine lv_iload hx hb dTab_learn_50 (lv_at hl 0 rfl) ?_
      obtain ⟨g5, hm⟩ := gd_el hm
      refine va_lald hx hb hK hP 4 1 rfl rfl g5 dTab_learn_52 ?_
      refine lv_land hx hb dTab_learn_53 ?_
      refine lv_lstore (lv' := [(4, .long (x4 &&& (tab_known ((net_literals x9.toNatClampNeg) ^^^ x3).toNatClampNeg))), (10, .int ((net_literals x9.toNatClampNeg) ^^^ x3)), (0, .ref h_tab), (1, .ref h_net), (2, .int x2), (3, .int x3), (6, .long x6), (8, .int x8), (9, .int x9)]) hx hb dTab_learn_54 hl (by decide) rfl (fun ls hl => ?_)
      refine lv_lload hx hb dTab_learn_56 (lv_at hl 6 rfl) ?_
      refine lv_aload_n hx hb dTab_learn_58 rfl (lv_at hl 2 rfl) ?_
      refine va_get (D := (dC, dI)) (ci := 2) (v := .ref a_tab_known) (C := RTab) (T := TTab) (N := 4) hx hb hts inTab hown hK hP 1 rfl rfl 0 (by decide) (hts _ tw_114) (fun _ h9 => h9) rfl dTab_learn_59 ?_
      refine lv_iload hx hb dTab_learn_62 (lv_at hl 1 rfl) ?_
      refine lv_iconst (v := (1 : Int32)) hx hb dTab_learn_64 (by decide) ?_
      refine lv_ixor hx hb dTab_learn_65 ?_
      obtain ⟨g6, hm⟩ := gd_el hm
      refine va_lald hx hb hK hP 4 1 rfl rfl g6 dTab_learn_66 ?_
      refine lv_lor hx hb dTab_learn_67 ?_
      refine lv_lstore (lv' := [(6, .long (x6 ||| (tab_known (((net_literals x9.toNatClampNeg) ^^^ x3) ^^^ (1 : Int32)).toNatClampNeg))), (4, .long (x4 &&& (tab_known ((net_literals x9.toNatClampNeg) ^^^ x3).toNatClampNeg))), (10, .int ((net_literals x9.toNatClampNeg) ^^^ x3)), (0, .ref h_tab), (1, .ref h_net), (2, .int x2), (3, .int x3), (8, .int x8), (9, .int x9)]) hx hb dTab_learn_68 hl (by decide) rfl (fun ls hl => ?_)
      refine lv_iinc (v := x9 + (1 : Int32)) (lv' := [(9, .int (x9 + (1 : Int32))), (6, .long (x6 ||| (tab_known (((net_literals x9.toNatClampNeg) ^^^ x3) ^^^ (1 : Int32)).toNatClampNeg))), (4, .long (x4 &&& (tab_known ((net_literals x9.toNatClampNeg) ^^^ x3).toNatClampNeg))), (10, .int ((net_literals x9.toNatClampNeg) ^^^ x3)), (0, .ref h_tab), (1, .ref h_net), (2, .int x2), (3, .int x3), (8, .int x8)]) hx hb dTab_learn_70 hl (k := 8) rfl rfl (by decide) rfl (fun ls hl => ?_)
      refine lv_goto (tgt := 26) hx hb dTab_learn_73 (by decide) ?_
      exact ih (x4 &&& (tab_known ((net_literals x9.toNatClampNeg) ^^^ x3).toNatClampNeg)) (x6 ||| (tab_known (((net_literals x9.toNatClampNeg) ^^^ x3) ^^^ (1 : Int32)).toNatClampNeg)) (x9 + (1 : Int32)) r hm _ (lv_sub hl [4, 5, 6, 7, 2, 1, 8, 0] rfl) k1
set_option maxHeartbeats 4000000 in
set_option maxRecDepth 100000 in
theorem k_Tab_learn (l : Launch) (dC : Nat → ClassId) (dI : Nat → Nat → Nat) (cI cL cZ : ClassId) (t1 t2 : Nat) (h_net a_net_sorts a_net_ranks a_net_starts a_net_literals a_net_nextLiterals a_net_outputs h_tab a_tab_known a_tab_settled a_tab_values a_tab_nextStates : Nat) (net_starts net_literals : Nat → Int32) (net_gateTotal net_inputTotal net_latchTotal net_outputTotal : Int32) (tab_known : Nat → Int64) (sz : Nat) (p1 : Int32) (p2 : Int32) (v : Int32 × (Nat → Int64)) (hm : m_Tab_learn net_starts net_literals tab_known p1 p2 = some v) : Met l yTab_learn wsTab_learn rm_Tab_learn (sx_Pc (dC, dI) [(cI, .int), (cL, .long), (cZ, .boolean)] t1 t2 [(h_net, .inr (0, [.ref a_net_sorts, .ref a_net_ranks, .ref a_net_starts, .ref a_net_literals, .ref a_net_nextLiterals, .ref a_net_outputs, .int net_gateTotal, .int net_inputTotal, .int net_latchTotal, .int net_outputTotal])), (h_tab, .inr (2, [.ref a_tab_known, .ref a_tab_settled, .ref a_tab_values, .ref a_tab_nextStates])), (a_net_starts, .inl (cI, 61, .inl net_starts)), (a_net_literals, .inl (cI, 240, .inl net_literals)), (a_tab_known, .inl (cL, 120, .inr (.inl tab_known)))] sz [.ref h_tab, .ref h_net, .int p1, .int p2]) (va_Qi (fun (r : Int32) (_ : Unit) => r = v.1) (fun _ t => sx_W (dC, dI) [(cI, .int), (cL, .long), (cZ, .boolean)] (va_A [(h_net, .inr (0, [.ref a_net_sorts, .ref a_net_ranks, .ref a_net_starts, .ref a_net_literals, .ref a_net_nextLiterals, .ref a_net_outputs, .int net_gateTotal, .int net_inputTotal, .int net_latchTotal, .int net_outputTotal])), (h_tab, .inr (2, [.ref a_tab_known, .ref a_tab_settled, .ref a_tab_values, .ref a_tab_nextStates])), (a_net_starts, .inl (cI, 61, .inl net_starts)), (a_net_literals, .inl (cI, 240, .inl net_literals)), (a_tab_known, .inl (cL, 120, .inr (.inl tab_known)))] sz) [(h_net, .inr (0, [.ref a_net_sorts, .ref a_net_ranks, .ref a_net_starts, .ref a_net_literals, .ref a_net_nextLiterals, .ref a_net_outputs, .int net_gateTotal, .int net_inputTotal, .int net_latchTotal, .int net_outputTotal])), (h_tab, .inr (2, [.ref a_tab_known, .ref a_tab_settled, .ref a_tab_values, .ref a_tab_nextStates])), (a_net_starts, .inl (cI, 61, .inl net_starts)), (a_net_literals, .inl (cI, 240, .inl net_literals)), (a_tab_known, .inl (cL, 120, .inr (.inl v.2)))] t) (va_A [(h_net, .inr (0, [.ref a_net_sorts, .ref a_net_ranks, .ref a_net_starts, .ref a_net_literals, .ref a_net_nextLiterals, .ref a_net_outputs, .int net_gateTotal, .int net_inputTotal, .int net_latchTotal, .int net_outputTotal])), (h_tab, .inr (2, [.ref a_tab_known, .ref a_tab_settled, .ref a_tab_values, .ref a_tab_nextStates])), (a_net_starts, .inl (cI, 61, .inl net_starts)), (a_net_literals, .inl (cI, 240, .inl net_literals)), (a_tab_known, .inl (cL, 120, .inr (.inl tab_known)))] sz)) 0 0 (va_A [(h_net, .inr (0, [.ref a_net_sorts, .ref a_net_ranks, .ref a_net_starts, .ref a_net_literals, .ref a_net_nextLiterals, .ref a_net_outputs, .int net_gateTotal, .int net_inputTotal, .int net_latchTotal, .int net_outputTotal])), (h_tab, .inr (2, [.ref a_tab_known, .ref a_tab_settled, .ref a_tab_values, .ref a_tab_nextStates])), (a_net_starts, .inl (cI, 61, .inl net_starts)), (a_net_literals, .inl (cI, 240, .inl net_literals)), (a_tab_known, .inl (cL, 120, .inr (.inl tab_known)))] sz) := by
  refine Met.ofW (cc := cTab_learn) (maxL := 11) (ret := (some .boolean)) (by decide) rfl ?_
  intro p e s m args below meth c s₁ B hml hv
  obtain ⟨rfl, hsz, hP, hK, hD0, hX⟩ := hv
  have hx := B.exec
  have hb := B.bytes
  have hr := B.returns
  have hts0 := atoms_spec (ws := wsTab_learn) B.pre
  have hts : ∀ w ∈ tb, w.before _ s = true := fun w h => hts0 w (List.mem_cons_of_mem _ h)
  have hown : s.vm.findClass "StateExplorer$Table" = some m.cls := findClass_of_methodNamed B.named
  have hlocks := B.notSynchronized
  subst hsz
  have hD := hD0.self (sz := s.heap.size)
  generalize hAe : va_A [(h_net, .inr (0, [.ref a_net_sorts, .ref a_net_ranks, .ref a_net_starts, .ref a_net_literals, .ref a_net_nextLiterals, .ref a_net_outputs, .int net_gateTotal, .int net_inputTotal, .int net_latchTotal, .int net_outputTotal])), (h_tab, .inr (2, [.ref a_tab_known, .ref a_tab_settled, .ref a_tab_values, .ref a_tab_nextStates])), (a_net_starts, .inl (cI, 61, .inl net_starts)), (a_net_literals, .inl (cI, 240, .inl net_literals)), (a_tab_known, .inl (cL, 120, .inr (.inl tab_known)))] s.heap.size = A at hD hX ⊢
  have hA : ∀ q : Nat, s.heap.size ≤ q → A q := fun q h => by rw [← hAe]; exact Or.inr h
  have hS : va_S A s.heap s.heap [] := va_S.rf
  have hl := lv_entry ([.ref h_tab, .ref h_net, .int p1, .int p2]) (n := 11) (Nat.le_of_ble_eq_true rfl)
  rw [lg_entry_eq]
  generalize (lg_sl ([.ref h_tab, .ref h_net, .int p1, .int p2]) ++ List.replicate (11 - (lg_sl ([.ref h_tab, .ref h_net, .int p1, .int p2])).length) Slot.unset).toArray = ls at hl ⊢
  have hl : lv_has ls 11 [(0, .ref h_tab), (1, .ref h_net), (2, .int p1), (3, .int p2)] := hl
  have C0 : sx_C p s m _ meth c cTab_learn 11 "StateExplorer$Table" A (dC, dI) [(cI, .int), (cL, .long), (cZ, .boolean)] t1 t2 := ⟨hx, hb, hml, hown, hts, hA, hK, hlocks, hX⟩
  rw [m_Tab_learn] at hm
  refine lv_ldc2 (v := (-1 : Int64)) hx hb hown (hts _ tw_246) dTab_learn_0 ?_
  refine lv_lstore (lv' := [(4, .long (-1 : Int64)), (0, .ref h_tab), (1, .ref h_net), (2, .int p1), (3, .int p2)]) hx hb dTab_learn_3 hl (by decide) rfl (fun ls hl => ?_)
  refine lv_lconst (v := (0 : Int64)) hx hb dTab_learn_5 (by decide) ?_
  refine lv_lstore (lv' := [(6, .long (0 : Int64)), (4, .long (-1 : Int64)), (0, .ref h_tab), (1, .ref h_net), (2, .int p1), (3, .int p2)]) hx hb dTab_learn_6 hl (by decide) rfl (fun ls hl => ?_)
  refine lv_aload_n hx hb dTab_learn_8 rfl (lv_at hl 3 rfl) ?_
  refine va_get (D := (dC, dI)) (ci := 0) (v := .ref a_net_starts) (C := RNet) (T := TNet) (N := 10) hx hb hts inNet hown hK hP 0 rfl rfl 2 (by decide) (hts _ tw_68) (fun _ h9 => h9) rfl dTab_learn_9 ?_
  refine lv_iload_n hx hb dTab_learn_12 rfl (lv_at hl 4 rfl) ?_
  refine lv_iconst (v := (1 : Int32)) hx hb dTab_learn_13 (by decide) ?_
  refine lv_iadd hx hb dTab_learn_14 ?_
  obtain ⟨g1, hm⟩ := gd_el hm
  refine va_iald hx hb hK hP 2 0 rfl rfl g1 dTab_learn_15 ?_
  refine lv_istore (lv' := [(8, .int (net_starts (p1 + (1 : Int32)).toNatClampNeg)), (6, .long (0 : Int64)), (4, .long (-1 : Int64)), (0, .ref h_tab), (1, .ref h_net), (2, .int p1), (3, .int p2)]) hx hb dTab_learn_16 hl (by decide) rfl (fun ls hl => ?_)
  refine lv_aload_n hx hb dTab_learn_18 rfl (lv_at hl 4 rfl) ?_
  refine va_get (D := (dC, dI)) (ci := 0) (v := .ref a_net_starts) (C := RNet) (T := TNet) (N := 10) hx hb hts inNet hown hK hP 0 rfl rfl 2 (by decide) (hts _ tw_68) (fun _ h9 => h9) rfl dTab_learn_19 ?_
  refine lv_iload_n hx hb dTab_learn_22 rfl (lv_at hl 5 rfl) ?_
  obtain ⟨g2, hm⟩ := gd_el hm
  refine va_iald hx hb hK hP 2 0 rfl rfl g2 dTab_learn_23 ?_
  refine lv_istore (lv' := [(9, .int (net_starts p1.toNatClampNeg)), (8, .int (net_starts (p1 + (1 : Int32)).toNatClampNeg)), (6, .long (0 : Int64)), (4, .long (-1 : Int64)), (0, .ref h_tab), (1, .ref h_net), (2, .int p1), (3, .int p2)]) hx hb dTab_learn_24 hl (by decide) rfl (fun ls hl => ?_)
  obtain ⟨v7, hv7, hm⟩ := sx_bind hm
  refine w_Tab_learn_26 C0 h_net a_net_sorts a_net_ranks a_net_starts a_net_literals a_net_nextLiterals a_net_outputs h_tab a_tab_known a_tab_settled a_tab_values a_tab_nextStates net_starts net_literals net_gateTotal net_inputTotal net_latchTotal net_outputTotal tab_known p1 p2 (net_starts (p1 + (1 : Int32)).toNatClampNeg) hP hD hS _ (-1 : Int64) (0 : Int64) (net_starts p1.toNatClampNeg) v7 hv7 _ (lv_sub hl [4, 5, 6, 7, 3, 2, 1, 0] rfl) ?_
  intro ls hl
  refine lv_iload_n hx hb dTab_learn_76 rfl (lv_at hl 1 rfl) ?_
  refine lv_iconst (v := (2 : Int32)) hx hb dTab_learn_77 (by decide) ?_
  refine lv_imul hx hb dTab_learn_78 ?_
  refine lv_iload_n hx hb dTab_learn_79 rfl (lv_at hl 2 rfl) ?_
  refine lv_iadd hx hb dTab_learn_80 ?_
  refine lv_istore (lv' := [(9, .int ((p1 * (2 : Int32)) + p2)), (0, .ref h_tab), (2, .int p1), (3, .int p2), (4, .long v7.1), (6, .long v7.2)]) hx hb dTab_learn_81 hl (by decide) rfl (fun ls hl => ?_)
  refine lv_aload_n hx hb dTab_learn_83 rfl (lv_at hl 1 rfl) ?_
  refine va_get (D := (dC, dI)) (ci := 2) (v := .ref a_tab_known) (C := RTab) (T := TTab) (N := 4) hx hb hts inTab hown hK hP 1 rfl rfl 0 (by decide) (hts _ tw_114) (fun _ h9 => h9) rfl dTab_learn_84 ?_
  refine lv_iload hx hb dTab_learn_87 (lv_at hl 0 rfl) ?_
  obtain ⟨g8, hm⟩ := gd_el hm
  refine va_lald hx hb hK hP 4 1 rfl rfl g8 dTab_learn_89 ?_
  refine lv_lload hx hb dTab_learn_90 (lv_at hl 4 rfl) ?_
  refine W.lcmp hx hb dTab_learn_92 ?_
  obtain ⟨J9, hJ9, hm⟩ := sx_lj hm
  have jJ9 : ∀ (z0J9 : Int32), J9 z0J9 = some v → ∀ (ls : Array Slot), lv_has ls 11 [(0, .ref h_tab), (4, .long v7.1), (6, .long v7.2), (9, .int ((p1 * (2 : Int32)) + p2))] → W p l e (headSpec wsTab_learn rm_Tab_learn).room s m ([.ref h_tab, .ref h_net, .int p1, .int p2]).toArray below meth c s.heap [] 0 0 (MQ below (va_Qi (fun (r : Int32) (_ : Unit) => r = v.1) (fun _ t => sx_W (dC, dI) [(cI, .int), (cL, .long), (cZ, .boolean)] A [(h_net, .inr (0, [.ref a_net_sorts, .ref a_net_ranks, .ref a_net_starts, .ref a_net_literals, .ref a_net_nextLiterals, .ref a_net_outputs, .int net_gateTotal, .int net_inputTotal, .int net_latchTotal, .int net_outputTotal])), (h_tab, .inr (2, [.ref a_tab_known, .ref a_tab_settled, .ref a_tab_values, .ref a_tab_nextStates])), (a_net_starts, .inl (cI, 61, .inl net_starts)), (a_net_literals, .inl (cI, 240, .inl net_literals)), (a_tab_known, .inl (cL, 120, .inr (.inl v.2)))] t) A) ([.ref h_tab, .ref h_net, .int p1, .int p2]).toArray s 0 0 A) (F0 m 116 ls [.int z0J9]) := by
    intro z0J9 hm ls hl
    rw [hJ9] at hm
    dsimp only at hm
    refine lv_istore (lv' := [(10, .int z0J9), (0, .ref h_tab), (4, .long v7.1), (6, .long v7.2), (9, .int ((p1 * (2 : Int32)) + p2))]) hx hb dTab_learn_116 hl (by decide) rfl (fun ls hl => ?_)
    refine lv_aload_n hx hb dTab_learn_118 rfl (lv_at hl 1 rfl) ?_
    refine va_get (D := (dC, dI)) (ci := 2) (v := .ref a_tab_known) (C := RTab) (T := TTab) (N := 4) hx hb hts inTab hown hK hP 1 rfl rfl 0 (by decide) (hts _ tw_114) (fun _ h9 => h9) rfl dTab_learn_119 ?_
    refine lv_iload hx hb dTab_learn_122 (lv_at hl 4 rfl) ?_
    refine lv_lload hx hb dTab_learn_124 (lv_at hl 2 rfl) ?_
    obtain ⟨g10, hm⟩ := gd_el hm
    refine va_last hx hb hK hP hD hS 4 1 rfl rfl g10 dTab_learn_126 (fun H locs hP hD hS => ?_)
    have hP : va_P (dC, dI) vwCl [(h_net, .inr (0, [.ref a_net_sorts, .ref a_net_ranks, .ref a_net_starts, .ref a_net_literals, .ref a_net_nextLiterals, .ref a_net_outputs, .int net_gateTotal, .int net_inputTotal, .int net_latchTotal, .int net_outputTotal])), (h_tab, .inr (2, [.ref a_tab_known, .ref a_tab_settled, .ref a_tab_values, .ref a_tab_nextStates])), (a_net_starts, .inl (cI, 61, .inl net_starts)), (a_net_literals, .inl (cI, 240, .inl net_literals)), (a_tab_known, .inl (cL, 120, .inr (.inl (vp_updL tab_known ((p1 * (2 : Int32)) + p2).toNatClampNeg v7.1))))] H := hP
    have hD : va_D A [(h_net, .inr (0, [.ref a_net_sorts, .ref a_net_ranks, .ref a_net_starts, .ref a_net_literals, .ref a_net_nextLiterals, .ref a_net_outputs, .int net_gateTotal, .int net_inputTotal, .int net_latchTotal, .int net_outputTotal])), (h_tab, .inr (2, [.ref a_tab_known, .ref a_tab_settled, .ref a_tab_values, .ref a_tab_nextStates])), (a_net_starts, .inl (cI, 61, .inl net_starts)), (a_net_literals, .inl (cI, 240, .inl net_literals)), (a_tab_known, .inl (cL, 120, .inr (.inl (vp_updL tab_known ((p1 * (2 : Int32)) + p2).toNatClampNeg v7.1))))] := hD
    refine lv_aload_n hx hb dTab_learn_127 rfl (lv_at hl 1 rfl) ?_
    refine va_get (D := (dC, dI)) (ci := 2) (v := .ref a_tab_known) (C := RTab) (T := TTab) (N := 4) hx hb hts inTab hown hK hP 1 rfl rfl 0 (by decide) (hts _ tw_114) (fun _ h9 => h9) rfl dTab_learn_128 ?_
    refine lv_iload hx hb dTab_learn_131 (lv_at hl 4 rfl) ?_
    refine lv_iconst (v := (1 : Int32)) hx hb dTab_learn_133 (by decide) ?_
    refine lv_ixor hx hb dTab_learn_134 ?_
    refine lv_lload hx hb dTab_learn_135 (lv_at hl 3 rfl) ?_
    obtain ⟨g11, hm⟩ := gd_el hm
    refine va_last hx hb hK hP hD hS 4 1 rfl rfl g11 dTab_learn_137 (fun H locs hP hD hS => ?_)
    have hP : va_P (dC, dI) vwCl [(h_net, .inr (0, [.ref a_net_sorts, .ref a_net_ranks, .ref a_net_starts, .ref a_net_literals, .ref a_net_nextLiterals, .ref a_net_outputs, .int net_gateTotal, .int net_inputTotal, .int net_latchTotal, .int net_outputTotal])), (h_tab, .inr (2, [.ref a_tab_known, .ref a_tab_settled, .ref a_tab_values, .ref a_tab_nextStates])), (a_net_starts, .inl (cI, 61, .inl net_starts)), (a_net_literals, .inl (cI, 240, .inl net_literals)), (a_tab_known, .inl (cL, 120, .inr (.inl (vp_updL (vp_updL tab_known ((p1 * (2 : Int32)) + p2).toNatClampNeg v7.1) (((p1 * (2 : Int32)) + p2) ^^^ (1 : Int32)).toNatClampNeg v7.2))))] H := hP
    have hD : va_D A [(h_net, .inr (0, [.ref a_net_sorts, .ref a_net_ranks, .ref a_net_starts, .ref a_net_literals, .ref a_net_nextLiterals, .ref a_net_outputs, .int net_gateTotal, .int net_inputTotal, .int net_latchTotal, .int net_outputTotal])), (h_tab, .inr (2, [.ref a_tab_known, .ref a_tab_settled, .ref a_tab_values, .ref a_tab_nextStates])), (a_net_starts, .inl (cI, 61, .inl net_starts)), (a_net_literals, .inl (cI, 240, .inl net_literals)), (a_tab_known, .inl (cL, 120, .inr (.inl (vp_updL (vp_updL tab_known ((p1 * (2 : Int32)) + p2).toNatClampNeg v7.1) (((p1 * (2 : Int32)) + p2) ^^^ (1 : Int32)).toNatClampNeg v7.2))))] := hD
    refine lv_iload hx hb dTab_learn_138 (lv_at hl 0 rfl) ?_
    obtain ⟨hz9, hm⟩ := gd_el hm
    obtain rfl := Option.some.inj hm
    exact W.zret (v := z0J9) hx hb hr hz9 (fun t ht hW => ⟨⟨z0J9, (), rfl, rfl, sx_Wi hP hK hD ht hW.alike⟩, hS.F ht⟩) hS.2.2 dTab_learn_140
  obtain ⟨J12, hJ12, hm⟩ := sx_lj hm
  have jJ12 : ∀ (_ : Unit), J12 () = some v → ∀ (ls : Array Slot), lv_has ls 11 [(0, .ref h_tab), (4, .long v7.1), (6, .long v7.2), (9, .int ((p1 * (2 : Int32)) + p2))] → W p l e (headSpec wsTab_learn rm_Tab_learn).room s m ([.ref h_tab, .ref h_net, .int p1, .int p2]).toArray below meth c s.heap [] 0 0 (MQ below (va_Qi (fun (r : Int32) (_ : Unit) => r = v.1) (fun _ t => sx_W (dC, dI) [(cI, .int), (cL, .long), (cZ, .boolean)] A [(h_net, .inr (0, [.ref a_net_sorts, .ref a_net_ranks, .ref a_net_starts, .ref a_net_literals, .ref a_net_nextLiterals, .ref a_net_outputs, .int net_gateTotal, .int net_inputTotal, .int net_latchTotal, .int net_outputTotal])), (h_tab, .inr (2, [.ref a_tab_known, .ref a_tab_settled, .ref a_tab_values, .ref a_tab_nextStates])), (a_net_starts, .inl (cI, 61, .inl net_starts)), (a_net_literals, .inl (cI, 240, .inl net_literals)), (a_tab_known, .inl (cL, 120, .inr (.inl v.2)))] t) A) ([.ref h_tab, .ref h_net, .int p1, .int p2]).toArray s 0 0 A) (F0 m 111 ls []) := by
    intro _ hm ls hl
    rw [hJ12] at hm
    dsimp only at hm
    refine lv_iconst (v := (1 : Int32)) hx hb dTab_learn_111 (by decide) ?_
    refine lv_goto (tgt := 116) hx hb dTab_learn_112 (by decide) ?_
    exact jJ9 (1 : Int32) hm _ (hl)
  refine lv_if_ne (tgt := 111) hx hb dTab_learn_93 (by decide) (fun c13 => ?_) (fun c13 => ?_)
  · have hm := sx_neg c13 hm
    exact jJ12 () hm _ (lv_sub hl [1, 4, 5, 0] rfl)
  · have hm := sx_pos c13 hm
    refine lv_aload_n hx hb dTab_learn_96 rfl (lv_at hl 1 rfl) ?_
    refine va_get (D := (dC, dI)) (ci := 2) (v := .ref a_tab_known) (C := RTab) (T := TTab) (N := 4) hx hb hts inTab hown hK hP 1 rfl rfl 0 (by decide) (hts _ tw_114) (fun _ h9 => h9) rfl dTab_learn_97 ?_
    refine lv_iload hx hb dTab_learn_100 (lv_at hl 0 rfl) ?_
    refine lv_iconst (v := (1 : Int32)) hx hb dTab_learn_102 (by decide) ?_
    refine lv_ixor hx hb dTab_learn_103 ?_
    obtain ⟨g14, hm⟩ := gd_el hm
    refine va_lald hx hb hK hP 4 1 rfl rfl g14 dTab_learn_104 ?_
    refine lv_lload hx hb dTab_learn_105 (lv_at hl 5 rfl) ?_
    refine W.lcmp hx hb dTab_learn_107 ?_
    refine lv_if_eq (tgt := 115) hx hb dTab_learn_108 (by decide) (fun c15 => ?_) (fun c15 => ?_)
    · have hm := sx_pos c15 hm
      refine lv_iconst (v := (0 : Int32)) hx hb dTab_learn_115 (by decide) ?_
      exact jJ9 (0 : Int32) hm _ (lv_sub hl [1, 4, 5, 0] rfl)
    · have hm := sx_neg c15 hm
      exact jJ12 () hm _ (lv_sub hl [1, 4, 5, 0] rfl)
noncomputable def L_Tab_sweepOnce_4 (net_sorts net_starts net_literals : Nat → Int32) (net_gateTotal : Int32) : Nat → Int32 → Int32 → (Nat → Int64) → Option (Int32 × (Nat → Int64))
  | 0, _, _, _ => none
  | n + 1, x2, x3, tab_known => (if net_gateTotal ≤ x3 then some (x2, tab_known) else gd (vp_in x3 60) ((sx_let (fun (_ : Unit) => (if net_sorts x3.toNatClampNeg = (2 : Int32) then (m_Tab_learn net_starts net_literals tab_known x3 (0 : Int32)).bind (fun v8 => (if v8.1 = (0 : Int32) then (L_Tab_sweepOnce_4 net_sorts net_starts net_literals net_gateTotal n x2 (x3 + (1 : Int32)) v8.2) else (L_Tab_sweepOnce_4 net_sorts net_starts net_literals net_gateTotal n (1 : Int32) (x3 + (1 : Int32)) v8.2))) else (m_Tab_learn net_starts net_literals tab_known x3 (1 : Int32)).bind (fun v5 => (if v5.1 = (0 : Int32) then (L_Tab_sweepOnce_4 net_sorts net_starts net_literals net_gateTotal n x2 (x3 + (1 : Int32)) v5.2) else (L_Tab_sweepOnce_4 net_sorts net_starts net_literals net_gateTotal n (1 : Int32) (x3 + (1 : Int32)) v5.2))))) (fun J3 => (if net_sorts x3.toNatClampNeg = (2 : Int32) then (J3 ()) else (if net_sorts x3.toNatClampNeg = (3 : Int32) then (J3 ()) else (L_Tab_sweepOnce_4 net_sorts net_starts net_literals net_gateTotal n x2 (x3 + (1 : Int32)) tab_known)))))))
noncomputable def m_Tab_sweepOnce (net_sorts net_starts net_literals : Nat → Int32) (net_gateTotal : Int32) (tab_known : Nat → Int64)  : Option (Int32 × (Nat → Int64)) := ((L_Tab_sweepOnce_4 net_sorts net_starts net_literals net_gateTotal fu (0 : Int32) (0 : Int32) tab_known).bind (fun v13 => gd (sx_zok v13.1) (some (v13.1, v13.2))))
def rm_Tab_sweepOnce : Room := { frames := 1, cells := 0, slots := 0, locals := 30 }
set_option maxHeartbeats 4000000 in
set_option maxRecDepth 100000 in
theorem w_Tab_sweepOnce_4 {p : Program} {l : Launch} {e : Env} {s : State} {m : MethodId} {args : Array Value} {below : List Frame} {meth : Method} {c : Code} {dC : Nat → ClassId} {dI : Nat → Nat → Nat} {cI cL cZ : ClassId} {A : Nat → Prop} {Q : State → Prop} {t1 t2 : Nat} (C0 : sx_C p s m args meth c cTab_sweepOnce 5 "StateExplorer$Table" A (dC, dI) [(cI, .int), (cL, .long), (cZ, .boolean)] t1 t2) (h_net a_net_sorts a_net_ranks a_net_starts a_net_literals a_net_nextLiterals a_net_outputs h_tab a_tab_known a_tab_settled a_tab_values a_tab_nextStates : Nat) (net_sorts net_starts net_literals : Nat → Int32) (net_gateTotal net_inputTotal net_latchTotal net_outputTotal : Int32)  :
    ∀ (n : Nat) (x2 : Int32) (x3 : Int32) (tab_known : Nat → Int64) (r : Int32 × (Nat → Int64)), L_Tab_sweepOnce_4 net_sorts net_starts net_literals net_gateTotal n x2 x3 tab_known = some r → ∀ (H : Heap) (locs : List Loc) (ls : Array Slot), va_P (dC, dI) vwCl [(h_net, .inr (0, [.ref a_net_sorts, .ref a_net_ranks, .ref a_net_starts, .ref a_net_literals, .ref a_net_nextLiterals, .ref a_net_outputs, .int net_gateTotal, .int net_inputTotal, .int net_latchTotal, .int net_outputTotal])), (h_tab, .inr (2, [.ref a_tab_known, .ref a_tab_settled, .ref a_tab_values, .ref a_tab_nextStates])), (a_net_sorts, .inl (cI, 60, .inl net_sorts)), (a_net_starts, .inl (cI, 61, .inl net_starts)), (a_net_literals, .inl (cI, 240, .inl net_literals)), (a_tab_known, .inl (cL, 120, .inr (.inl tab_known)))] H → va_D A [(h_net, .inr (0, [.ref a_net_sorts, .ref a_net_ranks, .ref a_net_starts, .ref a_net_literals, .ref a_net_nextLiterals, .ref a_net_outputs, .int net_gateTotal, .int net_inputTotal, .int net_latchTotal, .int net_outputTotal])), (h_tab, .inr (2, [.ref a_tab_known, .ref a_tab_settled, .ref a_tab_values, .ref a_tab_nextStates])), (a_net_sorts, .inl (cI, 60, .inl net_sorts)), (a_net_starts, .inl (cI, 61, .inl net_starts)), (a_net_literals, .inl (cI, 240, .inl net_literals)), (a_tab_known, .inl (cL, 120, .inr (.inl tab_known)))] → va_S A s.heap H locs → lv_has ls 5 [(0, .ref h_tab), (1, .ref h_net), (2, .int x2), (3, .int x3)] →
    (∀ (H : Heap) (locs : List Loc) (ls : Array Slot), va_P (dC, dI) vwCl [(h_net, .inr (0, [.ref a_net_sorts, .ref a_net_ranks, .ref a_net_starts, .ref a_net_literals, .ref a_net_nextLiterals, .ref a_net_outputs, .int net_gateTotal, .int net_inputTotal, .int net_latchTotal, .int net_outputTotal])), (h_tab, .inr (2, [.ref a_tab_known, .ref a_tab_settled, .ref a_tab_values, .ref a_tab_nextStates])), (a_net_sorts, .inl (cI, 60, .inl net_sorts)), (a_net_starts, .inl (cI, 61, .inl net_starts)), (a_net_literals, .inl (cI, 240, .inl net_literals)), (a_tab_known, .inl (cL, 120, .inr (.inl r.2)))] H → va_D A [(h_net, .inr (0, [.ref a_net_sorts, .ref a_net_ranks, .ref a_net_starts, .ref a_net_literals, .ref a_net_nextLiterals, .ref a_net_outputs, .int net_gateTotal, .int net_inputTotal, .int net_latchTotal, .int net_outputTotal])), (h_tab, .inr (2, [.ref a_tab_known, .ref a_tab_settled, .ref a_tab_values, .ref a_tab_nextStates])), (a_net_sorts, .inl (cI, 60, .inl net_sorts)), (a_net_starts, .inl (cI, 61, .inl net_starts)), (a_net_literals, .inl (cI, 240, .inl net_literals)), (a_tab_known, .inl (cL, 120, .inr (.inl r.2)))] → va_S A s.heap H locs → lv_has ls 5 [(2, .int r.1)] → W p l e (headSpec wsTab_sweepOnce rm_Tab_sweepOnce).room s m args below meth c H locs 0 0 Q (F0 m 60 ls [])) →
    W p l e (headSpec wsTab_sweepOnce rm_Tab_sweepOnce).room s m args below meth c H locs 0 0 Q (F0 m 4 ls []) := by
  obtain ⟨hx, hb, hml, hown, hts, hA, hK, hlocks, hX⟩ := id C0
  intro n
  induction n with
  | zero => intro x2 x3 tab_known r hm; rw [L_Tab_sweepOnce_4] at hm; cases hm
  | succ n ih =>
    intro x2 x3 tab_known r hm H locs ls hP hD hS hl k1
    rw [L_Tab_sweepOnce_4] at hm
    refine lv_iload_n hx hb dTab_sweepOnce_4 rfl (lv_at hl 3 rfl) ?_
    refine lv_aload_n hx hb dTab_sweepOnce_5 rfl (lv_at hl 1 rfl) ?_
    refine va_get (D := (dC, dI)) (ci := 0) (v := .int net_gateTotal) (C := RNet) (T := TNet) (N := 10) hx hb hts inNet hown hK hP 0 rfl rfl 6 (by decide) (hts _ tw_76) (fun _ h9 => h9) rfl dTab_sweepOnce_6 ?_
    refine lv_icmp_ge (tgt := 60) hx hb dTab_sweepOnce_9 (by decide) (fun c1 => ?_) (fun c1 => ?_)
    · have hm := sx_pos c1 hm
      obtain rfl := Option.some.inj hm
      exact k1 _ _ _ hP hD hS (lv_sub hl [2] rfl)
    · have hm := sx_neg c1 hm
      refine lv_aload_n hx hb dTab_sweepOnce_12 rfl (lv_at hl 1 rfl) ?_
      refine va_get (D := (dC, dI)) (ci := 0) (v := .ref a_net_sorts) (C := RNet) (T := TNet) (N := 10) hx hb hts inNet hown hK hP 0 rfl rfl 0 (by decide) (hts _ tw_64) (fun _ h9 => h9) rfl dTab_sweepOnce_13 ?_
      refine lv_iload_n hx hb dTab_sweepOnce_16 rfl (lv_at hl 3 rfl) ?_
      obtain ⟨g2, hm⟩ := gd_el hm
      refine va_iald hx hb hK hP 2 0 rfl rfl g2 dTab_sweepOnce_17 ?_
      refine lv_istore (lv' := [(4, .int (net_sorts x3.toNatClampNeg)), (0, .ref h_tab), (1, .ref h_net), (2, .int x2), (3, .int x3)]) hx hb dTab_sweepOnce_18 hl (by decide) rfl (fun ls hl => ?_)
      refine lv_iload hx hb dTab_sweepOnce_20 (lv_at hl 0 rfl) ?_
      refine lv_iconst (v := (2 : Int32)) hx hb dTab_sweepOnce_22 (by decide) ?_
      obtain ⟨J3, hJ3, hm⟩ := sx_lj hm
      have jJ3 : ∀ (_ : Unit), J3 () = some r → ∀ (ls : Array Slot), lv_has ls 5 [(0, .ref h_tab), (1, .ref h_net), (2, .int x2), (3, .int x3), (4, .int (net_sorts x3.toNatClampNeg))] → W p l e (headSpec wsTab_sweepOnce rm_Tab_sweepOnce).room s m args below meth c H locs 0 0 Q (F0 m 32 ls []) := by
        intro _ hm ls hl
        rw [hJ3] at hm
        dsimp only at hm
        refine lv_aload_n hx hb dTab_sweepOnce_32 rfl (lv_at hl 0 rfl) ?_
        refine lv_aload_n hx hb dTab_sweepOnce_33 rfl (lv_at hl 1 rfl) ?_
        refine lv_iload_n hx hb dTab_sweepOnce_34 rfl (lv_at hl 3 rfl) ?_
        refine lv_iload hx hb dTab_sweepOnce_35 (lv_at hl 4 rfl) ?_
        refine lv_iconst (v := (2 : Int32)) hx hb dTab_sweepOnce_37 (by decide) ?_
        refine lv_icmp_ne (tgt := 45) hx hb dTab_sweepOnce_38 (by decide) (fun c4 => ?_) (fun c4 => ?_)
        · have hm := sx_neg c4 hm
          refine lv_iconst (v := (1 : Int32)) hx hb dTab_sweepOnce_45 (by decide) ?_
          obtain ⟨v5, hv5, hm⟩ := sx_bind hm
          have hPc := hP.sub (ws' := [(h_net, .inr (0, [.ref a_net_sorts, .ref a_net_ranks, .ref a_net_starts, .ref a_net_literals, .ref a_net_nextLiterals, .ref a_net_outputs, .int net_gateTotal, .int net_inputTotal, .int net_latchTotal, .int net_outputTotal])), (h_tab, .inr (2, [.ref a_tab_known, .ref a_tab_settled, .ref a_tab_values, .ref a_tab_nextStates])), (a_net_starts, .inl (cI, 61, .inl net_starts)), (a_net_literals, .inl (cI, 240, .inl net_literals)), (a_tab_known, .inl (cL, 120, .inr (.inl tab_known)))]) [0, 1, 3, 4, 5] rfl
          have hDc := hD.sub (ws' := [(h_net, .inr (0, [.ref a_net_sorts, .ref a_net_ranks, .ref a_net_starts, .ref a_net_literals, .ref a_net_nextLiterals, .ref a_net_outputs, .int net_gateTotal, .int net_inputTotal, .int net_latchTotal, .int net_outputTotal])), (h_tab, .inr (2, [.ref a_tab_known, .ref a_tab_settled, .ref a_tab_values, .ref a_tab_nextStates])), (a_net_starts, .inl (cI, 61, .inl net_starts)), (a_net_literals, .inl (cI, 240, .inl net_literals)), (a_tab_known, .inl (cL, 120, .inr (.inl tab_known)))]) [0, 1, 3, 4, 5] (by decide) rfl
          have hFc := va_free (wc := [(h_net, .inr (0, [.ref a_net_sorts, .ref a_net_ranks, .ref a_net_starts, .ref a_net_literals, .ref a_net_nextLiterals, .ref a_net_outputs, .int net_gateTotal, .int net_inputTotal, .int net_latchTotal, .int net_outputTotal])), (h_tab, .inr (2, [.ref a_tab_known, .ref a_tab_settled, .ref a_tab_values, .ref a_tab_nextStates])), (a_net_starts, .inl (cI, 61, .inl net_starts)), (a_net_literals, .inl (cI, 240, .inl net_literals)), (a_tab_known, .inl (cL, 120, .inr (.inl tab_known)))]) hD hS hA [0, 1, 3, 4, 5] rfl
          refine va_calli (va_runV (As := [.ref h_net, .int x3, .int (1 : Int32)]) (rest := []) ⟨hx, hb, hml, hown, hts⟩ (k_Tab_learn l dC dI cI cL cZ t1 t2 h_net a_net_sorts a_net_ranks a_net_starts a_net_literals a_net_nextLiterals a_net_outputs h_tab a_tab_known a_tab_settled a_tab_values a_tab_nextStates net_starts net_literals net_gateTotal net_inputTotal net_latchTotal net_outputTotal tab_known _ x3 (1 : Int32) v5 hv5) (cwV 3 hts (sx_gV tw_260 tw_262 tw_4 tw_38 tcTab_learn) rfl rfl rfl (by decide +kernel) ⟨Nat.le_of_ble_eq_true rfl, Nat.le_of_ble_eq_true rfl⟩) (sx_pV hK hX hS hPc hDc hFc (va_recv hK hPc (ci := 2) (q0 := 1) rfl rfl)) rfl rfl hl.1 rfl (lv_room (Nat.le_of_ble_eq_true rfl)) dTab_sweepOnce_46 ⟨Nat.le_of_ble_eq_true rfl, Nat.le_of_ble_eq_true rfl⟩) hS (fun q _ h => hFc q h) hFc (fun r6 u_ t_ H locs ht hvm hw hB hz1 hk1 hS => ?_)
          obtain ⟨hP1, -, hD1⟩ := hB
          rw [ht] at hP1
          obtain ⟨hP, hD⟩ := va_join (wr := [(a_net_sorts, .inl (cI, 60, .inl net_sorts))]) (w1 := [(h_net, .inr (0, [.ref a_net_sorts, .ref a_net_ranks, .ref a_net_starts, .ref a_net_literals, .ref a_net_nextLiterals, .ref a_net_outputs, .int net_gateTotal, .int net_inputTotal, .int net_latchTotal, .int net_outputTotal])), (h_tab, .inr (2, [.ref a_tab_known, .ref a_tab_settled, .ref a_tab_values, .ref a_tab_nextStates])), (a_net_starts, .inl (cI, 61, .inl net_starts)), (a_net_literals, .inl (cI, 240, .inl net_literals)), (a_tab_known, .inl (cL, 120, .inr (.inl v5.2)))]) hP hD [0, 1, 3, 4, 5] [2] rfl rfl (by decide) (by decide) hk1 hFc hP1 hD1
          have hP : va_P (dC, dI) vwCl [(a_net_sorts, .inl (cI, 60, .inl net_sorts)), (h_net, .inr (0, [.ref a_net_sorts, .ref a_net_ranks, .ref a_net_starts, .ref a_net_literals, .ref a_net_nextLiterals, .ref a_net_outputs, .int net_gateTotal, .int net_inputTotal, .int net_latchTotal, .int net_outputTotal])), (h_tab, .inr (2, [.ref a_tab_known, .ref a_tab_settled, .ref a_tab_values, .ref a_tab_nextStates])), (a_net_starts, .inl (cI, 61, .inl net_starts)), (a_net_literals, .inl (cI, 240, .inl net_literals)), (a_tab_known, .inl (cL, 120, .inr (.inl v5.2)))] H := hP
          have hD : va_D A [(a_net_sorts, .inl (cI, 60, .inl net_sorts)), (h_net, .inr (0, [.ref a_net_sorts, .ref a_net_ranks, .ref a_net_starts, .ref a_net_literals, .ref a_net_nextLiterals, .ref a_net_outputs, .int net_gateTotal, .int net_inputTotal, .int net_latchTotal, .int net_outputTotal])), (h_tab, .inr (2, [.ref a_tab_known, .ref a_tab_settled, .ref a_tab_values, .ref a_tab_nextStates])), (a_net_starts, .inl (cI, 61, .inl net_starts)), (a_net_literals, .inl (cI, 240, .inl net_literals)), (a_tab_known, .inl (cL, 120, .inr (.inl v5.2)))] := hD
          have hw9 := hw.symm
          subst hw9
          refine lv_if_eq (tgt := 54) hx hb dTab_sweepOnce_49 (by decide) (fun c7 => ?_) (fun c7 => ?_)
          · have hm := sx_pos c7 hm
            refine lv_iinc (v := x3 + (1 : Int32)) (lv' := [(3, .int (x3 + (1 : Int32))), (0, .ref h_tab), (1, .ref h_net), (2, .int x2), (4, .int (net_sorts x3.toNatClampNeg))]) hx hb dTab_sweepOnce_54 hl (k := 3) rfl rfl (by decide) rfl (fun ls hl => ?_)
            refine lv_goto (tgt := 4) hx hb dTab_sweepOnce_57 (by decide) ?_
            exact ih x2 (x3 + (1 : Int32)) v5.2 r hm _ _ _ (hP.sub (ws' := [(h_net, .inr (0, [.ref a_net_sorts, .ref a_net_ranks, .ref a_net_starts, .ref a_net_literals, .ref a_net_nextLiterals, .ref a_net_outputs, .int net_gateTotal, .int net_inputTotal, .int net_latchTotal, .int net_outputTotal])), (h_tab, .inr (2, [.ref a_tab_known, .ref a_tab_settled, .ref a_tab_values, .ref a_tab_nextStates])), (a_net_sorts, .inl (cI, 60, .inl net_sorts)), (a_net_starts, .inl (cI, 61, .inl net_starts)), (a_net_literals, .inl (cI, 240, .inl net_literals)), (a_tab_known, .inl (cL, 120, .inr (.inl v5.2)))]) [1, 2, 0, 3, 4, 5] rfl) (hD.sub (ws' := [(h_net, .inr (0, [.ref a_net_sorts, .ref a_net_ranks, .ref a_net_starts, .ref a_net_literals, .ref a_net_nextLiterals, .ref a_net_outputs, .int net_gateTotal, .int net_inputTotal, .int net_latchTotal, .int net_outputTotal])), (h_tab, .inr (2, [.ref a_tab_known, .ref a_tab_settled, .ref a_tab_values, .ref a_tab_nextStates])), (a_net_sorts, .inl (cI, 60, .inl net_sorts)), (a_net_starts, .inl (cI, 61, .inl net_starts)), (a_net_literals, .inl (cI, 240, .inl net_literals)), (a_tab_known, .inl (cL, 120, .inr (.inl v5.2)))]) [1, 2, 0, 3, 4, 5] (by decide) rfl) hS (lv_sub hl [1, 2, 3, 0] rfl) k1
          · have hm := sx_neg c7 hm
            refine lv_iconst (v := (1 : Int32)) hx hb dTab_sweepOnce_52 (by decide) ?_
            refine lv_istore_n (lv' := [(2, .int (1 : Int32)), (0, .ref h_tab), (1, .ref h_net), (3, .int x3), (4, .int (net_sorts x3.toNatClampNeg))]) hx hb dTab_sweepOnce_53 rfl hl (by decide) rfl (fun ls hl => ?_)
            refine lv_iinc (v := x3 + (1 : Int32)) (lv' := [(3, .int (x3 + (1 : Int32))), (2, .int (1 : Int32)), (0, .ref h_tab), (1, .ref h_net), (4, .int (net_sorts x3.toNatClampNeg))]) hx hb dTab_sweepOnce_54 hl (k := 3) rfl rfl (by decide) rfl (fun ls hl => ?_)
            refine lv_goto (tgt := 4) hx hb dTab_sweepOnce_57 (by decide) ?_
            exact ih (1 : Int32) (x3 + (1 : Int32)) v5.2 r hm _ _ _ (hP.sub (ws' := [(h_net, .inr (0, [.ref a_net_sorts, .ref a_net_ranks, .ref a_net_starts, .ref a_net_literals, .ref a_net_nextLiterals, .ref a_net_outputs, .int net_gateTotal, .int net_inputTotal, .int net_latchTotal, .int net_outputTotal])), (h_tab, .inr (2, [.ref a_tab_known, .ref a_tab_settled, .ref a_tab_values, .ref a_tab_nextStates])), (a_net_sorts, .inl (cI, 60, .inl net_sorts)), (a_net_starts, .inl (cI, 61, .inl net_starts)), (a_net_literals, .inl (cI, 240, .inl net_literals)), (a_tab_known, .inl (cL, 120, .inr (.inl v5.2)))]) [1, 2, 0, 3, 4, 5] rfl) (hD.sub (ws' := [(h_net, .inr (0, [.ref a_net_sorts, .ref a_net_ranks, .ref a_net_starts, .ref a_net_literals, .ref a_net_nextLiterals, .ref a_net_outputs, .int net_gateTotal, .int net_inputTotal, .int net_latchTotal, .int net_outputTotal])), (h_tab, .inr (2, [.ref a_tab_known, .ref a_tab_settled, .ref a_tab_values, .ref a_tab_nextStates])), (a_net_sorts, .inl (cI, 60, .inl net_sorts)), (a_net_starts, .inl (cI, 61, .inl net_starts)), (a_net_literals, .inl (cI, 240, .inl net_literals)), (a_tab_known, .inl (cL, 120, .inr (.inl v5.2)))]) [1, 2, 0, 3, 4, 5] (by decide) rfl) hS (lv_sub hl [2, 3, 1, 0] rfl) k1
        · have hm := sx_pos c4 hm
          refine lv_iconst (v := (0 : Int32)) hx hb dTab_sweepOnce_41 (by decide) ?_
          refine lv_goto (tgt := 46) hx hb dTab_sweepOnce_42 (by decide) ?_
          obtain ⟨v8, hv8, hm⟩ := sx_bind hm
          have hPc := hP.sub (ws' := [(h_net, .inr (0, [.ref a_net_sorts, .ref a_net_ranks, .ref a_net_starts, .ref a_net_literals, .ref a_net_nextLiterals, .ref a_net_outputs, .int net_gateTotal, .int net_inputTotal, .int net_latchTotal, .int net_outputTotal])), (h_tab, .inr (2, [.ref a_tab_known, .ref a_tab_settled, .ref a_tab_values, .ref a_tab_nextStates])), (a_net_starts, .inl (cI, 61, .inl net_starts)), (a_net_literals, .inl (cI, 240, .inl net_literals)), (a_tab_known, .inl (cL, 120, .inr (.inl tab_known)))]) [0, 1, 3, 4, 5] rfl
          have hDc := hD.sub (ws' := [(h_net, .inr (0, [.ref a_net_sorts, .ref a_net_ranks, .ref a_net_starts, .ref a_net_literals, .ref a_net_nextLiterals, .ref a_net_outputs, .int net_gateTotal, .int net_inputTotal, .int net_latchTotal, .int net_outputTotal])), (h_tab, .inr (2, [.ref a_tab_known, .ref a_tab_settled, .ref a_tab_values, .ref a_tab_nextStates])), (a_net_starts, .inl (cI, 61, .inl net_starts)), (a_net_literals, .inl (cI, 240, .inl net_literals)), (a_tab_known, .inl (cL, 120, .inr (.inl tab_known)))]) [0, 1, 3, 4, 5] (by decide) rfl
          have hFc := va_free (wc := [(h_net, .inr (0, [.ref a_net_sorts, .ref a_net_ranks, .ref a_net_starts, .ref a_net_literals, .ref a_net_nextLiterals, .ref a_net_outputs, .int net_gateTotal, .int net_inputTotal, .int net_latchTotal, .int net_outputTotal])), (h_tab, .inr (2, [.ref a_tab_known, .ref a_tab_settled, .ref a_tab_values, .ref a_tab_nextStates])), (a_net_starts, .inl (cI, 61, .inl net_starts)), (a_net_literals, .inl (cI, 240, .inl net_literals)), (a_tab_known, .inl (cL, 120, .inr (.inl tab_known)))]) hD hS hA [0, 1, 3, 4, 5] rfl
          refine va_calli (va_runV (As := [.ref h_net, .int x3, .int (0 : Int32)]) (rest := []) ⟨hx, hb, hml, hown, hts⟩ (k_Tab_learn l dC dI cI cL cZ t1 t2 h_net a_net_sorts a_net_ranks a_net_starts a_net_literals a_net_nextLiterals a_net_outputs h_tab a_tab_known a_tab_settled a_tab_values a_tab_nextStates net_starts net_literals net_gateTotal net_inputTotal net_latchTotal net_outputTotal tab_known _ x3 (0 : Int32) v8 hv8) (cwV 3 hts (sx_gV tw_260 tw_262 tw_4 tw_38 tcTab_learn) rfl rfl rfl (by decide +kernel) ⟨Nat.le_of_ble_eq_true rfl, Nat.le_of_ble_eq_true rfl⟩) (sx_pV hK hX hS hPc hDc hFc (va_recv hK hPc (ci := 2) (q0 := 1) rfl rfl)) rfl rfl hl.1 rfl (lv_room (Nat.le_of_ble_eq_true rfl)) dTab_sweepOnce_46 ⟨Nat.le_of_ble_eq_true rfl, Nat.le_of_ble_eq_true rfl⟩) hS (fun q _ h => hFc q h) hFc (fun r9 u_ t_ H locs ht hvm hw hB hz1 hk1 hS => ?_)
          obtain ⟨hP1, -, hD1⟩ := hB
          rw [ht] at hP1
          obtain ⟨hP, hD⟩ := va_join (wr := [(a_net_sorts, .inl (cI, 60, .inl net_sorts))]) (w1 := [(h_net, .inr (0, [.ref a_net_sorts, .ref a_net_ranks, .ref a_net_starts, .ref a_net_literals, .ref a_net_nextLiterals, .ref a_net_outputs, .int net_gateTotal, .int net_inputTotal, .int net_latchTotal, .int net_outputTotal])), (h_tab, .inr (2, [.ref a_tab_known, .ref a_tab_settled, .ref a_tab_values, .ref a_tab_nextStates])), (a_net_starts, .inl (cI, 61, .inl net_starts)), (a_net_literals, .inl (cI, 240, .inl net_literals)), (a_tab_known, .inl (cL, 120, .inr (.inl v8.2)))]) hP hD [0, 1, 3, 4, 5] [2] rfl rfl (by decide) (by decide) hk1 hFc hP1 hD1
          have hP : va_P (dC, dI) vwCl [(a_net_sorts, .inl (cI, 60, .inl net_sorts)), (h_net, .inr (0, [.ref a_net_sorts, .ref a_net_ranks, .ref a_net_starts, .ref a_net_literals, .ref a_net_nextLiterals, .ref a_net_outputs, .int net_gateTotal, .int net_inputTotal, .int net_latchTotal, .int net_outputTotal])), (h_tab, .inr (2, [.ref a_tab_known, .ref a_tab_settled, .ref a_tab_values, .ref a_tab_nextStates])), (a_net_starts, .inl (cI, 61, .inl net_starts)), (a_net_literals, .inl (cI, 240, .inl net_literals)), (a_tab_known, .inl (cL, 120, .inr (.inl v8.2)))] H := hP
          have hD : va_D A [(a_net_sorts, .inl (cI, 60, .inl net_sorts)), (h_net, .inr (0, [.ref a_net_sorts, .ref a_net_ranks, .ref a_net_starts, .ref a_net_literals, .ref a_net_nextLiterals, .ref a_net_outputs, .int net_gateTotal, .int net_inputTotal, .int net_latchTotal, .int net_outputTotal])), (h_tab, .inr (2, [.ref a_tab_known, .ref a_tab_settled, .ref a_tab_values, .ref a_tab_nextStates])), (a_net_starts, .inl (cI, 61, .inl net_starts)), (a_net_literals, .inl (cI, 240, .inl net_literals)), (a_tab_known, .inl (cL, 120, .inr (.inl v8.2)))] := hD
          have hw9 := hw.symm
          subst hw9
          refine lv_if_eq (tgt := 54) hx hb dTab_sweepOnce_49 (by decide) (fun c10 => ?_) (fun c10 => ?_)
          · have hm := sx_pos c10 hm
            refine lv_iinc (v := x3 + (1 : Int32)) (lv' := [(3, .int (x3 + (1 : Int32))), (0, .ref h_tab), (1, .ref h_net), (2, .int x2), (4, .int (net_sorts x3.toNatClampNeg))]) hx hb dTab_sweepOnce_54 hl (k := 3) rfl rfl (by decide) rfl (fun ls hl => ?_)
            refine lv_goto (tgt := 4) hx hb dTab_sweepOnce_57 (by decide) ?_
            exact ih x2 (x3 + (1 : Int32)) v8.2 r hm _ _ _ (hP.sub (ws' := [(h_net, .inr (0, [.ref a_net_sorts, .ref a_net_ranks, .ref a_net_starts, .ref a_net_literals, .ref a_net_nextLiterals, .ref a_net_outputs, .int net_gateTotal, .int net_inputTotal, .int net_latchTotal, .int net_outputTotal])), (h_tab, .inr (2, [.ref a_tab_known, .ref a_tab_settled, .ref a_tab_values, .ref a_tab_nextStates])), (a_net_sorts, .inl (cI, 60, .inl net_sorts)), (a_net_starts, .inl (cI, 61, .inl net_starts)), (a_net_literals, .inl (cI, 240, .inl net_literals)), (a_tab_known, .inl (cL, 120, .inr (.inl v8.2)))]) [1, 2, 0, 3, 4, 5] rfl) (hD.sub (ws' := [(h_net, .inr (0, [.ref a_net_sorts, .ref a_net_ranks, .ref a_net_starts, .ref a_net_literals, .ref a_net_nextLiterals, .ref a_net_outputs, .int net_gateTotal, .int net_inputTotal, .int net_latchTotal, .int net_outputTotal])), (h_tab, .inr (2, [.ref a_tab_known, .ref a_tab_settled, .ref a_tab_values, .ref a_tab_nextStates])), (a_net_sorts, .inl (cI, 60, .inl net_sorts)), (a_net_starts, .inl (cI, 61, .inl net_starts)), (a_net_literals, .inl (cI, 240, .inl net_literals)), (a_tab_known, .inl (cL, 120, .inr (.inl v8.2)))]) [1, 2, 0, 3, 4, 5] (by decide) rfl) hS (lv_sub hl [1, 2, 3, 0] rfl) k1
          · have hm := sx_neg c10 hm
            refine lv_iconst (v := (1 : Int32)) hx hb dTab_sweepOnce_52 (by decide) ?_
            refine lv_istore_n (lv' := [(2, .int (1 : Int32)), (0, .ref h_tab), (1, .ref h_net), (3, .int x3), (4, .int (net_sorts x3.toNatClampNeg))]) hx hb dTab_sweepOnce_53 rfl hl (by decide) rfl (fun ls hl => ?_)
            refine lv_iinc (v := x3 + (1 : Int32)) (lv' := [(3, .int (x3 + (1 : Int32))), (2, .int (1 : Int32)), (0, .ref h_tab), (1, .ref h_net), (4, .int (net_sorts x3.toNatClampNeg))]) hx hb dTab_sweepOnce_54 hl (k := 3) rfl rfl (by decide) rfl (fun ls hl => ?_)
            refine lv_goto (tgt := 4) hx hb dTab_sweepOnce_57 (by decide) ?_
            exact ih (1 : Int32) (x3 + (1 : Int32)) v8.2 r hm _ _ _ (hP.sub (ws' := [(h_net, .inr (0, [.ref a_net_sorts, .ref a_net_ranks, .ref a_net_starts, .ref a_net_literals, .ref a_net_nextLiterals, .ref a_net_outputs, .int net_gateTotal, .int net_inputTotal, .int net_latchTotal, .int net_outputTotal])), (h_tab, .inr (2, [.ref a_tab_known, .ref a_tab_settled, .ref a_tab_values, .ref a_tab_nextStates])), (a_net_sorts, .inl (cI, 60, .inl net_sorts)), (a_net_starts, .inl (cI, 61, .inl net_starts)), (a_net_literals, .inl (cI, 240, .inl net_literals)), (a_tab_known, .inl (cL, 120, .inr (.inl v8.2)))]) [1, 2, 0, 3, 4, 5] rfl) (hD.sub (ws' := [(h_net, .inr (0, [.ref a_net_sorts, .ref a_net_ranks, .ref a_net_starts, .ref a_net_literals, .ref a_net_nextLiterals, .ref a_net_outputs, .int net_gateTotal, .int net_inputTotal, .int net_latchTotal, .int net_outputTotal])), (h_tab, .inr (2, [.ref a_tab_known, .ref a_tab_settled, .ref a_tab_values, .ref a_tab_nextStates])), (a_net_sorts, .inl (cI, 60, .inl net_sorts)), (a_net_starts, .inl (cI, 61, .inl net_starts)), (a_net_literals, .inl (cI, 240, .inl net_literals)), (a_tab_known, .inl (cL, 120, .inr (.inl v8.2)))]) [1, 2, 0, 3, 4, 5] (by decide) rfl) hS (lv_sub hl [2, 3, 1, 0] rfl) k1
      refine lv_icmp_eq (tgt := 32) hx hb dTab_sweepOnce_23 (by decide) (fun c11 => ?_) (fun c11 => ?_)
      · have hm := sx_pos c11 hm
        exact jJ3 () hm _ (lv_sub hl [1, 2, 3, 4, 0] rfl)
      · have hm := sx_neg c11 hm
        refine lv_iload hx hb dTab_sweepOnce_26 (lv_at hl 0 rfl) ?_
        refine lv_iconst (v := (3 : Int32)) hx hb dTab_sweepOnce_28 (by decide) ?_
        refine lv_icmp_ne (tgt := 54) hx hb dTab_sweepOnce_29 (by decide) (fun c12 => ?_) (fun c12 => ?_)
        · have hm := sx_neg c12 hm
          refine lv_iinc (v := x3 + (1 : Int32)) (lv' := [(3, .int (x3 + (1 : Int32))), (4, .int (net_sorts x3.toNatClampNeg)), (0, .ref h_tab), (1, .ref h_net), (2, .int x2)]) hx hb dTab_sweepOnce_54 hl (k := 4) rfl rfl (by decide) rfl (fun ls hl => ?_)
          refine lv_goto (tgt := 4) hx hb dTab_sweepOnce_57 (by decide) ?_
          exact ih x2 (x3 + (1 : Int32)) tab_known r hm _ _ _ hP hD hS (lv_sub hl [2, 3, 4, 0] rfl) k1
        · have hm := sx_pos c12 hm
          exact jJ3 () hm _ (lv_sub hl [1, 2, 3, 4, 0] rfl)
set_option maxHeartbeats 4000000 in
set_option maxRecDepth 100000 in
theorem k_Tab_sweepOnce (l : Launch) (dC : Nat → ClassId) (dI : Nat → Nat → Nat) (cI cL cZ : ClassId) (t1 t2 : Nat) (h_net a_net_sorts a_net_ranks a_net_starts a_net_literals a_net_nextLiterals a_net_outputs h_tab a_tab_known a_tab_settled a_tab_values a_tab_nextStates : Nat) (net_sorts net_starts net_literals : Nat → Int32) (net_gateTotal net_inputTotal net_latchTotal net_outputTotal : Int32) (tab_known : Nat → Int64) (sz : Nat)  (v : Int32 × (Nat → Int64)) (hm : m_Tab_sweepOnce net_sorts net_starts net_literals net_gateTotal tab_known = some v) : Met l yTab_sweepOnce wsTab_sweepOnce rm_Tab_sweepOnce (sx_Pc (dC, dI) [(cI, .int), (cL, .long), (cZ, .boolean)] t1 t2 [(h_net, .inr (0, [.ref a_net_sorts, .ref a_net_ranks, .ref a_net_starts, .ref a_net_literals, .ref a_net_nextLiterals, .ref a_net_outputs, .int net_gateTotal, .int net_inputTotal, .int net_latchTotal, .int net_outputTotal])), (h_tab, .inr (2, [.ref a_tab_known, .ref a_tab_settled, .ref a_tab_values, .ref a_tab_nextStates])), (a_net_sorts, .inl (cI, 60, .inl net_sorts)), (a_net_starts, .inl (cI, 61, .inl net_starts)), (a_net_literals, .inl (cI, 240, .inl net_literals)), (a_tab_known, .inl (cL, 120, .inr (.inl tab_known)))] sz [.ref h_tab, .ref h_net]) (va_Qi (fun (r : Int32) (_ : Unit) => r = v.1) (fun _ t => sx_W (dC, dI) [(cI, .int), (cL, .long), (cZ, .boolean)] (va_A [(h_net, .inr (0, [.ref a_net_sorts, .ref a_net_ranks, .ref a_net_starts, .ref a_net_literals, .ref a_net_nextLiterals, .ref a_net_outputs, .int net_gateTotal, .int net_inputTotal, .int net_latchTotal, .int net_outputTotal])), (h_tab, .inr (2, [.ref a_tab_known, .ref a_tab_settled, .ref a_tab_values, .ref a_tab_nextStates])), (a_net_sorts, .inl (cI, 60, .inl net_sorts)), (a_net_starts, .inl (cI, 61, .inl net_starts)), (a_net_literals, .inl (cI, 240, .inl net_literals)), (a_tab_known, .inl (cL, 120, .inr (.inl tab_known)))] sz) [(h_net, .inr (0, [.ref a_net_sorts, .ref a_net_ranks, .ref a_net_starts, .ref a_net_literals, .ref a_net_nextLiterals, .ref a_net_outputs, .int net_gateTotal, .int net_inputTotal, .int net_latchTotal, .int net_outputTotal])), (h_tab, .inr (2, [.ref a_tab_known, .ref a_tab_settled, .ref a_tab_values, .ref a_tab_nextStates])), (a_net_sorts, .inl (cI, 60, .inl net_sorts)), (a_net_starts, .inl (cI, 61, .inl net_starts)), (a_net_literals, .inl (cI, 240, .inl net_literals)), (a_tab_known, .inl (cL, 120, .inr (.inl v.2)))] t) (va_A [(h_net, .inr (0, [.ref a_net_sorts, .ref a_net_ranks, .ref a_net_starts, .ref a_net_literals, .ref a_net_nextLiterals, .ref a_net_outputs, .int net_gateTotal, .int net_inputTotal, .int net_latchTotal, .int net_outputTotal])), (h_tab, .inr (2, [.ref a_tab_known, .ref a_tab_settled, .ref a_tab_values, .ref a_tab_nextStates])), (a_net_sorts, .inl (cI, 60, .inl net_sorts)), (a_net_starts, .inl (cI, 61, .inl net_starts)), (a_net_literals, .inl (cI, 240, .inl net_literals)), (a_tab_known, .inl (cL, 120, .inr (.inl tab_known)))] sz)) 0 0 (va_A [(h_net, .inr (0, [.ref a_net_sorts, .ref a_net_ranks, .ref a_net_starts, .ref a_net_literals, .ref a_net_nextLiterals, .ref a_net_outputs, .int net_gateTotal, .int net_inputTotal, .int net_latchTotal, .int net_outputTotal])), (h_tab, .inr (2, [.ref a_tab_known, .ref a_tab_settled, .ref a_tab_values, .ref a_tab_nextStates])), (a_net_sorts, .inl (cI, 60, .inl net_sorts)), (a_net_starts, .inl (cI, 61, .inl net_starts)), (a_net_literals, .inl (cI, 240, .inl net_literals)), (a_tab_known, .inl (cL, 120, .inr (.inl tab_known)))] sz) := by
  refine Met.ofW (cc := cTab_sweepOnce) (maxL := 5) (ret := (some .boolean)) (by decide) rfl ?_
  intro p e s m args below meth c s₁ B hml hv
  obtain ⟨rfl, hsz, hP, hK, hD0, hX⟩ := hv
  have hx := B.exec
  have hb := B.bytes
  have hr := B.returns
  have hts0 := atoms_spec (ws := wsTab_sweepOnce) B.pre
  have hts : ∀ w ∈ tb, w.before _ s = true := fun w h => hts0 w (List.mem_cons_of_mem _ h)
  have hown : s.vm.findClass "StateExplorer$Table" = some m.cls := findClass_of_methodNamed B.named
  have hlocks := B.notSynchronized
  subst hsz
  have hD := hD0.self (sz := s.heap.size)
  generalize hAe : va_A [(h_net, .inr (0, [.ref a_net_sorts, .ref a_net_ranks, .ref a_net_starts, .ref a_net_literals, .ref a_net_nextLiterals, .ref a_net_outputs, .int net_gateTotal, .int net_inputTotal, .int net_latchTotal, .int net_outputTotal])), (h_tab, .inr (2, [.ref a_tab_known, .ref a_tab_settled, .ref a_tab_values, .ref a_tab_nextStates])), (a_net_sorts, .inl (cI, 60, .inl net_sorts)), (a_net_starts, .inl (cI, 61, .inl net_starts)), (a_net_literals, .inl (cI, 240, .inl net_literals)), (a_tab_known, .inl (cL, 120, .inr (.inl tab_known)))] s.heap.size = A at hD hX ⊢
  have hA : ∀ q : Nat, s.heap.size ≤ q → A q := fun q h => by rw [← hAe]; exact Or.inr h
  have hS : va_S A s.heap s.heap [] := va_S.rf
  have hl := lv_entry ([.ref h_tab, .ref h_net]) (n := 5) (Nat.le_of_ble_eq_true rfl)
  rw [lg_entry_eq]
  generalize (lg_sl ([.ref h_tab, .ref h_net]) ++ List.replicate (5 - (lg_sl ([.ref h_tab, .ref h_net])).length) Slot.unset).toArray = ls at hl ⊢
  have hl : lv_has ls 5 [(0, .ref h_tab), (1, .ref h_net)] := hl
  have C0 : sx_C p s m _ meth c cTab_sweepOnce 5 "StateExplorer$Table" A (dC, dI) [(cI, .int), (cL, .long), (cZ, .boolean)] t1 t2 := ⟨hx, hb, hml, hown, hts, hA, hK, hlocks, hX⟩
  rw [m_Tab_sweepOnce] at hm
  refine lv_iconst (v := (0 : Int32)) hx hb dTab_sweepOnce_0 (by decide) ?_
  refine lv_istore_n (lv' := [(2, .int (0 : Int32)), (0, .ref h_tab), (1, .ref h_net)]) hx hb dTab_sweepOnce_1 rfl hl (by decide) rfl (fun ls hl => ?_)
  refine lv_iconst (v := (0 : Int32)) hx hb dTab_sweepOnce_2 (by decide) ?_
  refine lv_istore_n (lv' := [(3, .int (0 : Int32)), (2, .int (0 : Int32)), (0, .ref h_tab), (1, .ref h_net)]) hx hb dTab_sweepOnce_3 rfl hl (by decide) rfl (fun ls hl => ?_)
  obtain ⟨v13, hv13, hm⟩ := sx_bind hm
  refine w_Tab_sweepOnce_4 C0 h_net a_net_sorts a_net_ranks a_net_starts a_net_literals a_net_nextLiterals a_net_outputs h_tab a_tab_known a_tab_settled a_tab_values a_tab_nextStates net_sorts net_starts net_literals net_gateTotal net_inputTotal net_latchTotal net_outputTotal _ (0 : Int32) (0 : Int32) tab_known v13 hv13 _ _ _ hP hD hS (lv_sub hl [2, 3, 1, 0] rfl) ?_
  intro H locs ls hP hD hS hl
  refine lv_iload_n hx hb dTab_sweepOnce_60 rfl (lv_at hl 0 rfl) ?_
  obtain ⟨hz9, hm⟩ := gd_el hm
  obtain rfl := Option.some.inj hm
  exact W.zret (v := v13.1) hx hb hr hz9 (fun t ht hW => ⟨⟨v13.1, (), rfl, rfl, sx_Wi hP hK hD ht hW.alike⟩, hS.F ht⟩) hS.2.2 dTab_sweepOnce_61
noncomputable def L_Tab_settle_2 (net_sorts net_starts net_literals : Nat → Int32) (net_gateTotal : Int32) : Nat → Int32 → (Nat → Int64) → Option (((Nat → Int64)) ⊕ ((Nat → Int64)))
  | 0, _, _ => none
  | n + 1, x2, tab_known => (if net_gateTotal ≤ x2 then some (.inr tab_known) else (m_Tab_sweepOnce net_sorts net_starts net_literals net_gateTotal tab_known).bind (fun v2 => (if v2.1 = (0 : Int32) then some (.inl v2.2) else (L_Tab_settle_2 net_sorts net_starts net_literals net_gateTotal n (x2 + (1 : Int32)) v2.2))))
noncomputable def m_Tab_settle (net_sorts net_starts net_literals : Nat → Int32) (net_gateTotal : Int32) (tab_known : Nat → Int64)  : Option ((Nat → Int64)) := ((L_Tab_settle_2 net_sorts net_starts net_literals net_gateTotal fu (0 : Int32) tab_known).bind (Sum.elim (fun v6 => some v6) (fun v7 => some v7)))
def rm_Tab_settle : Room := { frames := 2, cells := 0, slots := 0, locals := 54 }
set_option maxHeartbeats 4000000 in
set_option maxRecDepth 100000 in
theorem w_Tab_settle_2 {p : Program} {l : Launch} {e : Env} {s : State} {m : MethodId} {args : Array Value} {below : List Frame} {meth : Method} {c : Code} {dC : Nat → ClassId} {dI : Nat → Nat → Nat} {cI cL cZ : ClassId} {A : Nat → Prop} {Q : State → Prop} {t1 t2 : Nat} (C0 : sx_C p s m args meth c cTab_settle 3 "StateExplorer$Table" A (dC, dI) [(cI, .int), (cL, .long), (cZ, .boolean)] t1 t2) (h_net a_net_sorts a_net_ranks a_net_starts a_net_literals a_net_nextLiterals a_net_outputs h_tab a_tab_known a_tab_settled a_tab_values a_tab_nextStates : Nat) (net_sorts net_starts net_literals : Nat → Int32) (net_gateTotal net_inputTotal net_latchTotal net_outputTotal : Int32)  :
    ∀ (n : Nat) (x2 : Int32) (tab_known : Nat → Int64) (r : ((Nat → Int64)) ⊕ ((Nat → Int64))), L_Tab_settle_2 net_sorts net_starts net_literals net_gateTotal n x2 tab_known = some r → ∀ (H : Heap) (locs : List Loc) (ls : Array Slot), va_P (dC, dI) vwCl [(h_net, .inr (0, [.ref a_net_sorts, .ref a_net_ranks, .ref a_net_starts, .ref a_net_literals, .ref a_net_nextLiterals, .ref a_net_outputs, .int net_gateTotal, .int net_inputTotal, .int net_latchTotal, .int net_outputTotal])), (h_tab, .inr (2, [.ref a_tab_known, .ref a_tab_settled, .ref a_tab_values, .ref a_tab_nextStates])), (a_net_sorts, .inl (cI, 60, .inl net_sorts)), (a_net_starts, .inl (cI, 61, .inl net_starts)), (a_net_literals, .inl (cI, 240, .inl net_literals)), (a_tab_known, .inl (cL, 120, .inr (.inl tab_known)))] H → va_D A [(h_net, .inr (0, [.ref a_net_sorts, .ref a_net_ranks, .ref a_net_starts, .ref a_net_literals, .ref a_net_nextLiterals, .ref a_net_outputs, .int net_gateTotal, .int net_inputTotal, .int net_latchTotal, .int net_outputTotal])), (h_tab, .inr (2, [.ref a_tab_known, .ref a_tab_settled, .ref a_tab_values, .ref a_tab_nextStates])), (a_net_sorts, .inl (cI, 60, .inl net_sorts)), (a_net_starts, .inl (cI, 61, .inl net_starts)), (a_net_literals, .inl (cI, 240, .inl net_literals)), (a_tab_known, .inl (cL, 120, .inr (.inl tab_known)))] → va_S A s.heap H locs → lv_has ls 3 [(0, .ref h_tab), (1, .ref h_net), (2, .int x2)] →
    (∀ (y : (Nat → Int64)), r = .inl y → ∀ (H : Heap) (locs : List Loc) (ls : Array Slot), va_P (dC, dI) vwCl [(h_net, .inr (0, [.ref a_net_sorts, .ref a_net_ranks, .ref a_net_starts, .ref a_net_literals, .ref a_net_nextLiterals, .ref a_net_outputs, .int net_gateTotal, .int net_inputTotal, .int net_latchTotal, .int net_outputTotal])), (h_tab, .inr (2, [.ref a_tab_known, .ref a_tab_settled, .ref a_tab_values, .ref a_tab_nextStates])), (a_net_sorts, .inl (cI, 60, .inl net_sorts)), (a_net_starts, .inl (cI, 61, .inl net_starts)), (a_net_literals, .inl (cI, 240, .inl net_literals)), (a_tab_known, .inl (cL, 120, .inr (.inl y)))] H → va_D A [(h_net, .inr (0, [.ref a_net_sorts, .ref a_net_ranks, .ref a_net_starts, .ref a_net_literals, .ref a_net_nextLiterals, .ref a_net_outputs, .int net_gateTotal, .int net_inputTotal, .int net_latchTotal, .int net_outputTotal])), (h_tab, .inr (2, [.ref a_tab_known, .ref a_tab_settled, .ref a_tab_values, .ref a_tab_nextStates])), (a_net_sorts, .inl (cI, 60, .inl net_sorts)), (a_net_starts, .inl (cI, 61, .inl net_starts)), (a_net_literals, .inl (cI, 240, .inl net_literals)), (a_tab_known, .inl (cL, 120, .inr (.inl y)))] → va_S A s.heap H locs → lv_has ls 3 [] → W p l e (headSpec wsTab_settle rm_Tab_settle).room s m args below meth c H locs 0 0 Q (F0 m 18 ls [])) →
    (∀ (y : (Nat → Int64)), r = .inr y → ∀ (H : Heap) (locs : List Loc) (ls : Array Slot), va_P (dC, dI) vwCl [(h_net, .inr (0, [.ref a_net_sorts, .ref a_net_ranks, .ref a_net_starts, .ref a_net_literals, .ref a_net_nextLiterals, .ref a_net_outputs, .int net_gateTotal, .int net_inputTotal, .int net_latchTotal, .int net_outputTotal])), (h_tab, .inr (2, [.ref a_tab_known, .ref a_tab_settled, .ref a_tab_values, .ref a_tab_nextStates])), (a_net_sorts, .inl (cI, 60, .inl net_sorts)), (a_net_starts, .inl (cI, 61, .inl net_starts)), (a_net_literals, .inl (cI, 240, .inl net_literals)), (a_tab_known, .inl (cL, 120, .inr (.inl y)))] H → va_D A [(h_net, .inr (0, [.ref a_net_sorts, .ref a_net_ranks, .ref a_net_starts, .ref a_net_literals, .ref a_net_nextLiterals, .ref a_net_outputs, .int net_gateTotal, .int net_inputTotal, .int net_latchTotal, .int net_outputTotal])), (h_tab, .inr (2, [.ref a_tab_known, .ref a_tab_settled, .ref a_tab_values, .ref a_tab_nextStates])), (a_net_sorts, .inl (cI, 60, .inl net_sorts)), (a_net_starts, .inl (cI, 61, .inl net_starts)), (a_net_literals, .inl (cI, 240, .inl net_literals)), (a_tab_known, .inl (cL, 120, .inr (.inl y)))] → va_S A s.heap H locs → lv_has ls 3 [] → W p l e (headSpec wsTab_settle rm_Tab_settle).room s m args below meth c H locs 0 0 Q (F0 m 25 ls [])) →
    W p l e (headSpec wsTab_settle rm_Tab_settle).room s m args below meth c H locs 0 0 Q (F0 m 2 ls []) := by
  obtain ⟨hx, hb, hml, hown, hts, hA, hK, hlocks, hX⟩ := id C0
  intro n
  induction n with
  | zero => intro x2 tab_known r hm; rw [L_Tab_settle_2] at hm; cases hm
  | succ n ih =>
    intro x2 tab_known r hm H locs ls hP hD hS hl k1 k2
    rw [L_Tab_settle_2] at hm
    refine lv_iload_n hx hb dTab_settle_2 rfl (lv_at hl 2 rfl) ?_
    refine lv_aload_n hx hb dTab_settle_3 rfl (lv_at hl 1 rfl) ?_
    refine va_get (D := (dC, dI)) (ci := 0) (v := .int net_gateTotal) (C := RNet) (T := TNet) (N := 10) hx hb hts inNet hown hK hP 0 rfl rfl 6 (by decide) (hts _ tw_76) (fun _ h9 => h9) rfl dTab_settle_4 ?_
    refine lv_icmp_ge (tgt := 25) hx hb dTab_settle_7 (by decide) (fun c1 => ?_) (fun c1 => ?_)
    · have hm := sx_pos c1 hm
      obtain rfl := Option.some.inj hm
      exact k2 _ rfl _ _ _ hP hD hS (lv_sub hl [] rfl)
    · have hm := sx_neg c1 hm
      refine lv_aload_n hx hb dTab_settle_10 rfl (lv_at hl 0 rfl) ?_
      refine lv_aload_n hx hb dTab_settle_11 rfl (lv_at hl 1 rfl) ?_
      obtain ⟨v2, hv2, hm⟩ := sx_bind hm
      have hPc := hP.sub (ws' := [(h_net, .inr (0, [.ref a_net_sorts, .ref a_net_ranks, .ref a_net_starts, .ref a_net_literals, .ref a_net_nextLiterals, .ref a_net_outputs, .int net_gateTotal, .int net_inputTotal, .int net_latchTotal, .int net_outputTotal])), (h_tab, .inr (2, [.ref a_tab_known, .ref a_tab_settled, .ref a_tab_values, .ref a_tab_nextStates])), (a_net_sorts, .inl (cI, 60, .inl net_sorts)), (a_net_starts, .inl (cI, 61, .inl net_starts)), (a_net_literals, .inl (cI, 240, .inl net_literals)), (a_tab_known, .inl (cL, 120, .inr (.inl tab_known)))]) [0, 1, 2, 3, 4, 5] rfl
      have hDc := hD.sub (ws' := [(h_net, .inr (0, [.ref a_net_sorts, .ref a_net_ranks, .ref a_net_starts, .ref a_net_literals, .ref a_net_nextLiterals, .ref a_net_outputs, .int net_gateTotal, .int net_inputTotal, .int net_latchTotal, .int net_outputTotal])), (h_tab, .inr (2, [.ref a_tab_known, .ref a_tab_settled, .ref a_tab_values, .ref a_tab_nextStates])), (a_net_sorts, .inl (cI, 60, .inl net_sorts)), (a_net_starts, .inl (cI, 61, .inl net_starts)), (a_net_literals, .inl (cI, 240, .inl net_literals)), (a_tab_known, .inl (cL, 120, .inr (.inl tab_known)))]) [0, 1, 2, 3, 4, 5] (by decide) rfl
      have hFc := va_free (wc := [(h_net, .inr (0, [.ref a_net_sorts, .ref a_net_ranks, .ref a_net_starts, .ref a_net_literals, .ref a_net_nextLiterals, .ref a_net_outputs, .int net_gateTotal, .int net_inputTotal, .int net_latchTotal, .int net_outputTotal])), (h_tab, .inr (2, [.ref a_tab_known, .ref a_tab_settled, .ref a_tab_values, .ref a_tab_nextStates])), (a_net_sorts, .inl (cI, 60, .inl net_sorts)), (a_net_starts, .inl (cI, 61, .inl net_starts)), (a_net_literals, .inl (cI, 240, .inl net_literals)), (a_tab_known, .inl (cL, 120, .inr (.inl tab_known)))]) hD hS hA [0, 1, 2, 3, 4, 5] rfl
      refine va_calli (va_runV (As := [.ref h_net]) (rest := []) ⟨hx, hb, hml, hown, hts⟩ (k_Tab_sweepOnce l dC dI cI cL cZ t1 t2 h_net a_net_sorts a_net_ranks a_net_starts a_net_literals a_net_nextLiterals a_net_outputs h_tab a_tab_known a_tab_settled a_tab_values a_tab_nextStates net_sorts net_starts net_literals net_gateTotal net_inputTotal net_latchTotal net_outputTotal tab_known _ v2 hv2) (cwV 1 hts (sx_gV tw_256 tw_258 tw_3 tw_38 tcTab_sweepOnce) rfl rfl rfl (by decide +kernel) ⟨Nat.le_of_ble_eq_true rfl, Nat.le_of_ble_eq_true rfl⟩) (sx_pV hK hX hS hPc hDc hFc (va_recv hK hPc (ci := 2) (q0 := 1) rfl rfl)) rfl rfl hl.1 rfl (lv_room (Nat.le_of_ble_eq_true rfl)) dTab_settle_12 ⟨Nat.le_of_ble_eq_true rfl, Nat.le_of_ble_eq_true rfl⟩) hS (fun q _ h => hFc q h) hFc (fun r3 u_ t_ H locs ht hvm hw hB hz1 hk1 hS => ?_)
      obtain ⟨hP1, -, hD1⟩ := hB
      rw [ht] at hP1
      obtain ⟨hP, hD⟩ := va_join (wr := []) (w1 := [(h_net, .inr (0, [.ref a_net_sorts, .ref a_net_ranks, .ref a_net_starts, .ref a_net_literals, .ref a_net_nextLiterals, .ref a_net_outputs, .int net_gateTotal, .int net_inputTotal, .int net_latchTotal, .int net_outputTotal])), (h_tab, .inr (2, [.ref a_tab_known, .ref a_tab_settled, .ref a_tab_values, .ref a_tab_nextStates])), (a_net_sorts, .inl (cI, 60, .inl net_sorts)), (a_net_starts, .inl (cI, 61, .inl net_starts)), (a_net_literals, .inl (cI, 240, .inl net_literals)), (a_tab_known, .inl (cL, 120, .inr (.inl v2.2)))]) hP hD [0, 1, 2, 3, 4, 5] [] rfl rfl (by decide) (by decide) hk1 hFc hP1 hD1
      have hP : va_P (dC, dI) vwCl [(h_net, .inr (0, [.ref a_net_sorts, .ref a_net_ranks, .ref a_net_starts, .ref a_net_literals, .ref a_net_nextLiterals, .ref a_net_outputs, .int net_gateTotal, .int net_inputTotal, .int net_latchTotal, .int net_outputTotal])), (h_tab, .inr (2, [.ref a_tab_known, .ref a_tab_settled, .ref a_tab_values, .ref a_tab_nextStates])), (a_net_sorts, .inl (cI, 60, .inl net_sorts)), (a_net_starts, .inl (cI, 61, .inl net_starts)), (a_net_literals, .inl (cI, 240, .inl net_literals)), (a_tab_known, .inl (cL, 120, .inr (.inl v2.2)))] H := hP
      have hD : va_D A [(h_net, .inr (0, [.ref a_net_sorts, .ref a_net_ranks, .ref a_net_starts, .ref a_net_literals, .ref a_net_nextLiterals, .ref a_net_outputs, .int net_gateTotal, .int net_inputTotal, .int net_latchTotal, .int net_outputTotal])), (h_tab, .inr (2, [.ref a_tab_known, .ref a_tab_settled, .ref a_tab_values, .ref a_tab_nextStates])), (a_net_sorts, .inl (cI, 60, .inl net_sorts)), (a_net_starts, .inl (cI, 61, .inl net_starts)), (a_net_literals, .inl (cI, 240, .inl net_literals)), (a_tab_known, .inl (cL, 120, .inr (.inl v2.2)))] := hD
      have hw9 := hw.symm
      subst hw9
      refine lv_if_ne (tgt := 19) hx hb dTab_settle_15 (by decide) (fun c4 => ?_) (fun c4 => ?_)
      · have hm := sx_neg c4 hm
        refine lv_iinc (v := x2 + (1 : Int32)) (lv' := [(2, .int (x2 + (1 : Int32))), (0, .ref h_tab), (1, .ref h_net)]) hx hb dTab_settle_19 hl (k := 2) rfl rfl (by decide) rfl (fun ls hl => ?_)
        refine lv_goto (tgt := 2) hx hb dTab_settle_22 (by decide) ?_
        exact ih (x2 + (1 : Int32)) v2.2 r hm _ _ _ hP hD hS (lv_sub hl [1, 2, 0] rfl) k1 k2
      · have hm := sx_pos c4 hm
        obtain rfl := Option.some.inj hm
        exact k1 _ rfl _ _ _ hP hD hS (lv_sub hl [] rfl)
set_option maxHeartbeats 4000000 in
set_option maxRecDepth 100000 in
theorem k_Tab_settle (l : Launch) (dC : Nat → ClassId) (dI : Nat → Nat → Nat) (cI cL cZ : ClassId) (t1 t2 : Nat) (h_net a_net_sorts a_net_ranks a_net_starts a_net_literals a_net_nextLiterals a_net_outputs h_tab a_tab_known a_tab_settled a_tab_values a_tab_nextStates : Nat) (net_sorts net_starts net_literals : Nat → Int32) (net_gateTotal net_inputTotal net_latchTotal net_outputTotal : Int32) (tab_known : Nat → Int64) (sz : Nat)  (v : (Nat → Int64)) (hm : m_Tab_settle net_sorts net_starts net_literals net_gateTotal tab_known = some v) : Met l yTab_settle wsTab_settle rm_Tab_settle (sx_Pc (dC, dI) [(cI, .int), (cL, .long), (cZ, .boolean)] t1 t2 [(h_net, .inr (0, [.ref a_net_sorts, .ref a_net_ranks, .ref a_net_starts, .ref a_net_literals, .ref a_net_nextLiterals, .ref a_net_outputs, .int net_gateTotal, .int net_inputTotal, .int net_latchTotal, .int net_outputTotal])), (h_tab, .inr (2, [.ref a_tab_known, .ref a_tab_settled, .ref a_tab_values, .ref a_tab_nextStates])), (a_net_sorts, .inl (cI, 60, .inl net_sorts)), (a_net_starts, .inl (cI, 61, .inl net_starts)), (a_net_literals, .inl (cI, 240, .inl net_literals)), (a_tab_known, .inl (cL, 120, .inr (.inl tab_known)))] sz [.ref h_tab, .ref h_net]) (va_Qv (fun (_ : Unit) => True) (fun _ t => sx_W (dC, dI) [(cI, .int), (cL, .long), (cZ, .boolean)] (va_A [(h_net, .inr (0, [.ref a_net_sorts, .ref a_net_ranks, .ref a_net_starts, .ref a_net_literals, .ref a_net_nextLiterals, .ref a_net_outputs, .int net_gateTotal, .int net_inputTotal, .int net_latchTotal, .int net_outputTotal])), (h_tab, .inr (2, [.ref a_tab_known, .ref a_tab_settled, .ref a_tab_values, .ref a_tab_nextStates])), (a_net_sorts, .inl (cI, 60, .inl net_sorts)), (a_net_starts, .inl (cI, 61, .inl net_starts)), (a_net_literals, .inl (cI, 240, .inl net_literals)), (a_tab_known, .inl (cL, 120, .inr (.inl tab_known)))] sz) [(h_net, .inr (0, [.ref a_net_sorts, .ref a_net_ranks, .ref a_net_starts, .ref a_net_literals, .ref a_net_nextLiterals, .ref a_net_outputs, .int net_gateTotal, .int net_inputTotal, .int net_latchTotal, .int net_outputTotal])), (h_tab, .inr (2, [.ref a_tab_known, .ref a_tab_settled, .ref a_tab_values, .ref a_tab_nextStates])), (a_net_sorts, .inl (cI, 60, .inl net_sorts)), (a_net_starts, .inl (cI, 61, .inl net_starts)), (a_net_literals, .inl (cI, 240, .inl net_literals)), (a_tab_known, .inl (cL, 120, .inr (.inl v)))] t) (va_A [(h_net, .inr (0, [.ref a_net_sorts, .ref a_net_ranks, .ref a_net_starts, .ref a_net_literals, .ref a_net_nextLiterals, .ref a_net_outputs, .int net_gateTotal, .int net_inputTotal, .int net_latchTotal, .int net_outputTotal])), (h_tab, .inr (2, [.ref a_tab_known, .ref a_tab_settled, .ref a_tab_values, .ref a_tab_nextStates])), (a_net_sorts, .inl (cI, 60, .inl net_sorts)), (a_net_starts, .inl (cI, 61, .inl net_starts)), (a_net_literals, .inl (cI, 240, .inl net_literals)), (a_tab_known, .inl (cL, 120, .inr (.inl tab_known)))] sz)) 0 0 (va_A [(h_net, .inr (0, [.ref a_net_sorts, .ref a_net_ranks, .ref a_net_starts, .ref a_net_literals, .ref a_net_nextLiterals, .ref a_net_outputs, .int net_gateTotal, .int net_inputTotal, .int net_latchTotal, .int net_outputTotal])), (h_tab, .inr (2, [.ref a_tab_known, .ref a_tab_settled, .ref a_tab_values, .ref a_tab_nextStates])), (a_net_sorts, .inl (cI, 60, .inl net_sorts)), (a_net_starts, .inl (cI, 61, .inl net_starts)), (a_net_literals, .inl (cI, 240, .inl net_literals)), (a_tab_known, .inl (cL, 120, .inr (.inl tab_known)))] sz) := by
  refine Met.ofW (cc := cTab_settle) (maxL := 3) (ret := none) (by decide) rfl ?_
  intro p e s m args below meth c s₁ B hml hv
  obtain ⟨rfl, hsz, hP, hK, hD0, hX⟩ := hv
  have hx := B.exec
  have hb := B.bytes
  have hr := B.returns
  have hts0 := atoms_spec (ws := wsTab_settle) B.pre
  have hts : ∀ w ∈ tb, w.before _ s = true := fun w h => hts0 w (List.mem_cons_of_mem _ h)
  have hown : s.vm.findClass "StateExplorer$Table" = some m.cls := findClass_of_methodNamed B.named
  have hlocks := B.notSynchronized
  subst hsz
  have hD := hD0.self (sz := s.heap.size)
  generalize hAe : va_A [(h_net, .inr (0, [.ref a_net_sorts, .ref a_net_ranks, .ref a_net_starts, .ref a_net_literals, .ref a_net_nextLiterals, .ref a_net_outputs, .int net_gateTotal, .int net_inputTotal, .int net_latchTotal, .int net_outputTotal])), (h_tab, .inr (2, [.ref a_tab_known, .ref a_tab_settled, .ref a_tab_values, .ref a_tab_nextStates])), (a_net_sorts, .inl (cI, 60, .inl net_sorts)), (a_net_starts, .inl (cI, 61, .inl net_starts)), (a_net_literals, .inl (cI, 240, .inl net_literals)), (a_tab_known, .inl (cL, 120, .inr (.inl tab_known)))] s.heap.size = A at hD hX ⊢
  have hA : ∀ q : Nat, s.heap.size ≤ q → A q := fun q h => by rw [← hAe]; exact Or.inr h
  have hS : va_S A s.heap s.heap [] := va_S.rf
  have hl := lv_entry ([.ref h_tab, .ref h_net]) (n := 3) (Nat.le_of_ble_eq_true rfl)
  rw [lg_entry_eq]
  generalize (lg_sl ([.ref h_tab, .ref h_net]) ++ List.replicate (3 - (lg_sl ([.ref h_tab, .ref h_net])).length) Slot.unset).toArray = ls at hl ⊢
  have hl : lv_has ls 3 [(0, .ref h_tab), (1, .ref h_net)] := hl
  have C0 : sx_C p s m _ meth c cTab_settle 3 "StateExplorer$Table" A (dC, dI) [(cI, .int), (cL, .long), (cZ, .boolean)] t1 t2 := ⟨hx, hb, hml, hown, hts, hA, hK, hlocks, hX⟩
  rw [m_Tab_settle] at hm
  refine lv_iconst (v := (0 : Int32)) hx hb dTab_settle_0 (by decide) ?_
  refine lv_istore_n (lv' := [(2, .int (0 : Int32)), (0, .ref h_tab), (1, .ref h_net)]) hx hb dTab_settle_1 rfl hl (by decide) rfl (fun ls hl => ?_)
  obtain ⟨v5, hv5, hm⟩ := sx_bind hm
  refine w_Tab_settle_2 C0 h_net a_net_sorts a_net_ranks a_net_starts a_net_literals a_net_nextLiterals a_net_outputs h_tab a_tab_known a_tab_settled a_tab_values a_tab_nextStates net_sorts net_starts net_literals net_gateTotal net_inputTotal net_latchTotal net_outputTotal _ (0 : Int32) tab_known v5 hv5 _ _ _ hP hD hS (lv_sub hl [1, 2, 0] rfl) ?_ ?_
  · intro v6 he H locs ls hP hD hS hl
    subst he
    obtain rfl := Option.some.inj hm
    exact W.vret hx hb hr (fun t ht hW => ⟨⟨(), rfl, trivial, sx_Wi hP hK hD ht hW.alike⟩, hS.F ht⟩) hS.2.2 dTab_settle_18
  · intro v7 he H locs ls hP hD hS hl
    subst he
    obtain rfl := Option.some.inj hm
    exact W.vret hx hb hr (fun t ht hW => ⟨⟨(), rfl, trivial, sx_Wi hP hK hD ht hW.alike⟩, hS.F ht⟩) hS.2.2 dTab_settle_25
noncomputable def L_Tab_keep_7 (net_gateTotal : Int32) (tab_known : Nat → Int64) (x2 : Int32) : Nat → Int64 → Int32 → (Nat → Int64) → Option (Int64 × (Nat → Int64))
  | 0, _, _, _ => none
  | n + 1, x3, x5, tab_values => (if net_gateTotal ≤ x5 then some (x3, tab_values) else gd (vp_in (x5 * (2 : Int32)) 120) (gd (vp_in ((x5 * (2 : Int32)) + (1 : Int32)) 120) (gd (vp_in (x5 * (2 : Int32)) 120) (gd (vp_in ((x5 * (64 : Int32)) + x2) 3840) ((L_Tab_keep_7 net_gateTotal tab_known x2 n (x3 &&& ((tab_known (x5 * (2 : Int32)).toNatClampNeg) ||| (tab_known ((x5 * (2 : Int32)) + (1 : Int32)).toNatClampNeg))) (x5 + (1 : Int32)) (vp_updL tab_values ((x5 * (64 : Int32)) + x2).toNatClampNeg (tab_known (x5 * (2 : Int32)).toNatClampNeg))))))))
noncomputable def m_Tab_keep (net_gateTotal : Int32) (tab_known tab_settled tab_values : Nat → Int64) (p1 : Int32) : Option ((Nat → Int64) × (Nat → Int64)) := ((L_Tab_keep_7 net_gateTotal tab_known p1 fu (-1 : Int64) (0 : Int32) tab_values).bind (fun v6 => gd (vp_in p1 64) (some (vp_updL tab_settled p1.toNatClampNeg v6.1, v6.2))))
def rm_Tab_keep : Room := { frames := 0, cells := 0, slots := 0, locals := 0 }
set_option maxHeartbeats 4000000 in
set_option maxRecDepth 100000 in
theorem w_Tab_keep_7 {p : Program} {l : Launch} {e : Env} {s : State} {m : MethodId} {args : Array Value} {below : List Frame} {meth : Method} {c : Code} {dC : Nat → ClassId} {dI : Nat → Nat → Nat} {cI cL cZ : ClassId} {A : Nat → Prop} {Q : State → Prop} {t1 t2 : Nat} (C0 : sx_C p s m args meth c cTab_keep 6 "StateExplorer$Table" A (dC, dI) [(cI, .int), (cL, .long), (cZ, .boolean)] t1 t2) (h_net a_net_sorts a_net_ranks a_net_starts a_net_literals a_net_nextLiterals a_net_outputs h_tab a_tab_known a_tab_settled a_tab_values a_tab_nextStates : Nat) (net_gateTotal net_inputTotal net_latchTotal net_outputTotal : Int32) (tab_known tab_settled : Nat → Int64) (x2 : Int32) :
    ∀ (n : Nat) (x3 : Int64) (x5 : Int32) (tab_values : Nat → Int64) (r : Int64 × (Nat → Int64)), L_Tab_keep_7 net_gateTotal tab_known x2 n x3 x5 tab_values = some r → ∀ (H : Heap) (locs : List Loc) (ls : Array Slot), va_P (dC, dI) vwCl [(h_net, .inr (0, [.ref a_net_sorts, .ref a_net_ranks, .ref a_net_starts, .ref a_net_literals, .ref a_net_nextLiterals, .ref a_net_outputs, .int net_gateTotal, .int net_inputTotal, .int net_latchTotal, .int net_outputTotal])), (h_tab, .inr (2, [.ref a_tab_known, .ref a_tab_settled, .ref a_tab_values, .ref a_tab_nextStates])), (a_tab_known, .inl (cL, 120, .inr (.inl tab_known))), (a_tab_settled, .inl (cL, 64, .inr (.inl tab_settled))), (a_tab_values, .inl (cL, 3840, .inr (.inl tab_values)))] H → va_D A [(h_net, .inr (0, [.ref a_net_sorts, .ref a_net_ranks, .ref a_net_starts, .ref a_net_literals, .ref a_net_nextLiterals, .ref a_net_outputs, .int net_gateTotal, .int net_inputTotal, .int net_latchTotal, .int net_outputTotal])), (h_tab, .inr (2, [.ref a_tab_known, .ref a_tab_settled, .ref a_tab_values, .ref a_tab_nextStates])), (a_tab_known, .inl (cL, 120, .inr (.inl tab_known))), (a_tab_settled, .inl (cL, 64, .inr (.inl tab_settled))), (a_tab_values, .inl (cL, 3840, .inr (.inl tab_values)))] → va_S A s.heap H locs → lv_has ls 6 [(0, .ref h_tab), (1, .ref h_net), (2, .int x2), (3, .long x3), (5, .int x5)] →
    (∀ (H : Heap) (locs : List Loc) (ls : Array Slot), va_P (dC, dI) vwCl [(h_net, .inr (0, [.ref a_net_sorts, .ref a_net_ranks, .ref a_net_starts, .ref a_net_literals, .ref a_net_nextLiterals, .ref a_net_outputs, .int net_gateTotal, .int net_inputTotal, .int net_latchTotal, .int net_outputTotal])), (h_tab, .inr (2, [.ref a_tab_known, .ref a_tab_settled, .ref a_tab_values, .ref a_tab_nextStates])), (a_tab_known, .inl (cL, 120, .inr (.inl tab_known))), (a_tab_settled, .inl (cL, 64, .inr (.inl tab_settled))), (a_tab_values, .inl (cL, 3840, .inr (.inl r.2)))] H → va_D A [(h_net, .inr (0, [.ref a_net_sorts, .ref a_net_ranks, .ref a_net_starts, .ref a_net_literals, .ref a_net_nextLiterals, .ref a_net_outputs, .int net_gateTotal, .int net_inputTotal, .int net_latchTotal, .int net_outputTotal])), (h_tab, .inr (2, [.ref a_tab_known, .ref a_tab_settled, .ref a_tab_values, .ref a_tab_nextStates])), (a_tab_known, .inl (cL, 120, .inr (.inl tab_known))), (a_tab_settled, .inl (cL, 64, .inr (.inl tab_settled))), (a_tab_values, .inl (cL, 3840, .inr (.inl r.2)))] → va_S A s.heap H locs → lv_has ls 6 [(0, .ref h_tab), (2, .int x2), (3, .long r.1)] → W p l e (headSpec wsTab_keep rm_Tab_keep).room s m args below meth c H locs 0 0 Q (F0 m 67 ls [])) →
    W p l e (headSpec wsTab_keep rm_Tab_keep).room s m args below meth c H locs 0 0 Q (F0 m 7 ls []) := by
  obtain ⟨hx, hb, hml, hown, hts, hA, hK, hlocks, hX⟩ := id C0
  intro n
  induction n with
  | zero => intro x3 x5 tab_values r hm; rw [L_Tab_keep_7] at hm; cases hm
  | succ n ih =>
    intro x3 x5 tab_values r hm H locs ls hP hD hS hl k1
    rw [L_Tab_keep_7] at hm
    refine lv_iload hx hb dTab_keep_7 (lv_at hl 4 rfl) ?_
    refine lv_aload_n hx hb dTab_keep_9 rfl (lv_at hl 1 rfl) ?_
    refine va_get (D := (dC, dI)) (ci := 0) (v := .int net_gateTotal) (C := RNet) (T := TNet) (N := 10) hx hb hts inNet hown hK hP 0 rfl rfl 6 (by decide) (hts _ tw_76) (fun _ h9 => h9) rfl dTab_keep_10 ?_
    refine lv_icmp_ge (tgt := 67) hx hb dTab_keep_13 (by decide) (fun c1 => ?_) (fun c1 => ?_)
    · have hm := sx_pos c1 hm
      obtain rfl := Option.some.inj hm
      exact k1 _ _ _ hP hD hS (lv_sub hl [0, 2, 3] rfl)
    · have hm := sx_neg c1 hm
      refine lv_lload_n hx hb dTab_keep_16 rfl (lv_at hl 3 rfl) ?_
      refine lv_aload_n hx hb dTab_keep_17 rfl (lv_at hl 0 rfl) ?_
      refine va_get (D := (dC, dI)) (ci := 2) (v := .ref a_tab_known) (C := RTab) (T := TTab) (N := 4) hx hb hts inTab hown hK hP 1 rfl rfl 0 (by decide) (hts _ tw_114) (fun _ h9 => h9) rfl dTab_keep_18 ?_
      refine lv_iload hx hb dTab_keep_21 (lv_at hl 4 rfl) ?_
      refine lv_iconst (v := (2 : Int32)) hx hb dTab_keep_23 (by decide) ?_
      refine lv_imul hx hb dTab_keep_24 ?_
      obtain ⟨g2, hm⟩ := gd_el hm
      refine va_lald hx hb hK hP 2 1 rfl rfl g2 dTab_keep_25 ?_
      refine lv_aload_n hx hb dTab_keep_26 rfl (lv_at hl 0 rfl) ?_
      refine va_get (D := (dC, dI)) (ci := 2) (v := .ref a_tab_known) (C := RTab) (T := TTab) (N := 4) hx hb hts inTab hown hK hP 1 rfl rfl 0 (by decide) (hts _ tw_114) (fun _ h9 => h9) rfl dTab_keep_27 ?_
      refine lv_iload hx hb dTab_keep_30 (lv_at hl 4 rfl) ?_
      refine lv_iconst (v := (2 : Int32)) hx hb dTab_keep_32 (by decide) ?_
      refine lv_imul hx hb dTab_keep_33 ?_
      refine lv_iconst (v := (1 : Int32)) hx hb dTab_keep_34 (by decide) ?_
      refine lv_iadd hx hb dTab_keep_35 ?_
      obtain ⟨g3, hm⟩ := gd_el hm
      refine va_lald hx hb hK hP 2 1 rfl rfl g3 dTab_keep_36 ?_
      refine lv_lor hx hb dTab_keep_37 ?_
      refine lv_land hx hb dTab_keep_38 ?_
      refine lv_lstore_n (lv' := [(3, .long (x3 &&& ((tab_known (x5 * (2 : Int32)).toNatClampNeg) ||| (tab_known ((x5 * (2 : Int32)) + (1 : Int32)).toNatClampNeg)))), (0, .ref h_tab), (1, .ref h_net), (2, .int x2), (5, .int x5)]) hx hb dTab_keep_39 rfl hl (by decide) rfl (fun ls hl => ?_)
      refine lv_aload_n hx hb dTab_keep_40 rfl (lv_at hl 1 rfl) ?_
      refine va_get (D := (dC, dI)) (ci := 2) (v := .ref a_tab_values) (C := RTab) (T := TTab) (N := 4) hx hb hts inTab hown hK hP 1 rfl rfl 2 (by decide) (hts _ tw_116) (fun _ h9 => h9) rfl dTab_keep_41 ?_
      refine lv_iload hx hb dTab_keep_44 (lv_at hl 4 rfl) ?_
      refine lv_bipush (v := (64 : Int32)) hx hb dTab_keep_46 (by decide) ?_
      refine lv_imul hx hb dTab_keep_48 ?_
      refine lv_iload_n hx hb dTab_keep_49 rfl (lv_at hl 3 rfl) ?_
      refine lv_iadd hx hb dTab_keep_50 ?_
      refine lv_aload_n hx hb dTab_keep_51 rfl (lv_at hl 1 rfl) ?_
      refine va_get (D := (dC, dI)) (ci := 2) (v := .ref a_tab_known) (C := RTab) (T := TTab) (N := 4) hx hb hts inTab hown hK hP 1 rfl rfl 0 (by decide) (hts _ tw_114) (fun _ h9 => h9) rfl dTab_keep_52 ?_
      refine lv_iload hx hb dTab_keep_55 (lv_at hl 4 rfl) ?_
      refine lv_iconst (v := (2 : Int32)) hx hb dTab_keep_57 (by decide) ?_
      refine lv_imul hx hb dTab_keep_58 ?_
      obtain ⟨g4, hm⟩ := gd_el hm
      refine va_lald hx hb hK hP 2 1 rfl rfl g4 dTab_keep_59 ?_
      obtain ⟨g5, hm⟩ := gd_el hm
      refine va_last hx hb hK hP hD hS 4 1 rfl rfl g5 dTab_keep_60 (fun H locs hP hD hS => ?_)
      have hP : va_P (dC, dI) vwCl [(h_net, .inr (0, [.ref a_net_sorts, .ref a_net_ranks, .ref a_net_starts, .ref a_net_literals, .ref a_net_nextLiterals, .ref a_net_outputs, .int net_gateTotal, .int net_inputTotal, .int net_latchTotal, .int net_outputTotal])), (h_tab, .inr (2, [.ref a_tab_known, .ref a_tab_settled, .ref a_tab_values, .ref a_tab_nextStates])), (a_tab_known, .inl (cL, 120, .inr (.inl tab_known))), (a_tab_settled, .inl (cL, 64, .inr (.inl tab_settled))), (a_tab_values, .inl (cL, 3840, .inr (.inl (vp_updL tab_values ((x5 * (64 : Int32)) + x2).toNatClampNeg (tab_known (x5 * (2 : Int32)).toNatClampNeg)))))] H := hP
      have hD : va_D A [(h_net, .inr (0, [.ref a_net_sorts, .ref a_net_ranks, .ref a_net_starts, .ref a_net_literals, .ref a_net_nextLiterals, .ref a_net_outputs, .int net_gateTotal, .int net_inputTotal, .int net_latchTotal, .int net_outputTotal])), (h_tab, .inr (2, [.ref a_tab_known, .ref a_tab_settled, .ref a_tab_values, .ref a_tab_nextStates])), (a_tab_known, .inl (cL, 120, .inr (.inl tab_known))), (a_tab_settled, .inl (cL, 64, .inr (.inl tab_settled))), (a_tab_values, .inl (cL, 3840, .inr (.inl (vp_updL tab_values ((x5 * (64 : Int32)) + x2).toNatClampNeg (tab_known (x5 * (2 : Int32)).toNatClampNeg)))))] := hD
      refine lv_iinc (v := x5 + (1 : Int32)) (lv' := [(5, .int (x5 + (1 : Int32))), (3, .long (x3 &&& ((tab_known (x5 * (2 : Int32)).toNatClampNeg) ||| (tab_known ((x5 * (2 : Int32)) + (1 : Int32)).toNatClampNeg)))), (0, .ref h_tab), (1, .ref h_net), (2, .int x2)]) hx hb dTab_keep_61 hl (k := 4) rfl rfl (by decide) rfl (fun ls hl => ?_)
      refine lv_goto (tgt := 7) hx hb dTab_keep_64 (by decide) ?_
      exact ih (x3 &&& ((tab_known (x5 * (2 : Int32)).toNatClampNeg) ||| (tab_known ((x5 * (2 : Int32)) + (1 : Int32)).toNatClampNeg))) (x5 + (1 : Int32)) (vp_updL tab_values ((x5 * (64 : Int32)) + x2).toNatClampNeg (tab_known (x5 * (2 : Int32)).toNatClampNeg)) r hm _ _ _ hP hD hS (lv_sub hl [2, 3, 4, 1, 0] rfl) k1
set_option maxHeartbeats 4000000 in
set_option maxRecDepth 100000 in
theorem k_Tab_keep (l : Launch) (dC : Nat → ClassId) (dI : Nat → Nat → Nat) (cI cL cZ : ClassId) (t1 t2 : Nat) (h_net a_net_sorts a_net_ranks a_net_starts a_net_literals a_net_nextLiterals a_net_outputs h_tab a_tab_known a_tab_settled a_tab_values a_tab_nextStates : Nat) (net_gateTotal net_inputTotal net_latchTotal net_outputTotal : Int32) (tab_known tab_settled tab_values : Nat → Int64) (sz : Nat) (p1 : Int32) (v : (Nat → Int64) × (Nat → Int64)) (hm : m_Tab_keep net_gateTotal tab_known tab_settled tab_values p1 = some v) : Met l yTab_keep wsTab_keep rm_Tab_keep (sx_Pc (dC, dI) [(cI, .int), (cL, .long), (cZ, .boolean)] t1 t2 [(h_net, .inr (0, [.ref a_net_sorts, .ref a_net_ranks, .ref a_net_starts, .ref a_net_literals, .ref a_net_nextLiterals, .ref a_net_outputs, .int net_gateTotal, .int net_inputTotal, .int net_latchTotal, .int net_outputTotal])), (h_tab, .inr (2, [.ref a_tab_known, .ref a_tab_settled, .ref a_tab_values, .ref a_tab_nextStates])), (a_tab_known, .inl (cL, 120, .inr (.inl tab_known))), (a_tab_settled, .inl (cL, 64, .inr (.inl tab_settled))), (a_tab_values, .inl (cL, 3840, .inr (.inl tab_values)))] sz [.ref h_tab, .ref h_net, .int p1]) (va_Qv (fun (_ : Unit) => True) (fun _ t => sx_W (dC, dI) [(cI, .int), (cL, .long), (cZ, .boolean)] (va_A [(h_net, .inr (0, [.ref a_net_sorts, .ref a_net_ranks, .ref a_net_starts, .ref a_net_literals, .ref a_net_nextLiterals, .ref a_net_outputs, .int net_gateTotal, .int net_inputTotal, .int net_latchTotal, .int net_outputTotal])), (h_tab, .inr (2, [.ref a_tab_known, .ref a_tab_settled, .ref a_tab_values, .ref a_tab_nextStates])), (a_tab_known, .inl (cL, 120, .inr (.inl tab_known))), (a_tab_settled, .inl (cL, 64, .inr (.inl tab_settled))), (a_tab_values, .inl (cL, 3840, .inr (.inl tab_values)))] sz) [(h_net, .inr (0, [.ref a_net_sorts, .ref a_net_ranks, .ref a_net_starts, .ref a_net_literals, .ref a_net_nextLiterals, .ref a_net_outputs, .int net_gateTotal, .int net_inputTotal, .int net_latchTotal, .int net_outputTotal])), (h_tab, .inr (2, [.ref a_tab_known, .ref a_tab_settled, .ref a_tab_values, .ref a_tab_nextStates])), (a_tab_known, .inl (cL, 120, .inr (.inl tab_known))), (a_tab_settled, .inl (cL, 64, .inr (.inl v.1))), (a_tab_values, .inl (cL, 3840, .inr (.inl v.2)))] t) (va_A [(h_net, .inr (0, [.ref a_net_sorts, .ref a_net_ranks, .ref a_net_starts, .ref a_net_literals, .ref a_net_nextLiterals, .ref a_net_outputs, .int net_gateTotal, .int net_inputTotal, .int net_latchTotal, .int net_outputTotal])), (h_tab, .inr (2, [.ref a_tab_known, .ref a_tab_settled, .ref a_tab_values, .ref a_tab_nextStates])), (a_tab_known, .inl (cL, 120, .inr (.inl tab_known))), (a_tab_settled, .inl (cL, 64, .inr (.inl tab_settled))), (a_tab_values, .inl (cL, 3840, .inr (.inl tab_values)))] sz)) 0 0 (va_A [(h_net, .inr (0, [.ref a_net_sorts, .ref a_net_ranks, .ref a_net_starts, .ref a_net_literals, .ref a_net_nextLiterals, .ref a_net_outputs, .int net_gateTotal, .int net_inputTotal, .int net_latchTotal, .int net_outputTotal])), (h_tab, .inr (2, [.ref a_tab_known, .ref a_tab_settled, .ref a_tab_values, .ref a_tab_nextStates])), (a_tab_known, .inl (cL, 120, .inr (.inl tab_known))), (a_tab_settled, .inl (cL, 64, .inr (.inl tab_settled))), (a_tab_values, .inl (cL, 3840, .inr (.inl tab_values)))] sz) := by
  refine Met.ofW (cc := cTab_keep) (maxL := 6) (ret := none) (by decide) rfl ?_
  intro p e s m args below meth c s₁ B hml hv
  obtain ⟨rfl, hsz, hP, hK, hD0, hX⟩ := hv
  have hx := B.exec
  have hb := B.bytes
  have hr := B.returns
  have hts0 := atoms_spec (ws := wsTab_keep) B.pre
  have hts : ∀ w ∈ tb, w.before _ s = true := fun w h => hts0 w (List.mem_cons_of_mem _ h)
  have hown : s.vm.findClass "StateExplorer$Table" = some m.cls := findClass_of_methodNamed B.named
  have hlocks := B.notSynchronized
  subst hsz
  have hD := hD0.self (sz := s.heap.size)
  generalize hAe : va_A [(h_net, .inr (0, [.ref a_net_sorts, .ref a_net_ranks, .ref a_net_starts, .ref a_net_literals, .ref a_net_nextLiterals, .ref a_net_outputs, .int net_gateTotal, .int net_inputTotal, .int net_latchTotal, .int net_outputTotal])), (h_tab, .inr (2, [.ref a_tab_known, .ref a_tab_settled, .ref a_tab_values, .ref a_tab_nextStates])), (a_tab_known, .inl (cL, 120, .inr (.inl tab_known))), (a_tab_settled, .inl (cL, 64, .inr (.inl tab_settled))), (a_tab_values, .inl (cL, 3840, .inr (.inl tab_values)))] s.heap.size = A at hD hX ⊢
  have hA : ∀ q : Nat, s.heap.size ≤ q → A q := fun q h => by rw [← hAe]; exact Or.inr h
  have hS : va_S A s.heap s.heap [] := va_S.rf
  have hl := lv_entry ([.ref h_tab, .ref h_net, .int p1]) (n := 6) (Nat.le_of_ble_eq_true rfl)
  rw [lg_entry_eq]
  generalize (lg_sl ([.ref h_tab, .ref h_net, .int p1]) ++ List.replicate (6 - (lg_sl ([.ref h_tab, .ref h_net, .int p1])).length) Slot.unset).toArray = ls at hl ⊢
  have hl : lv_has ls 6 [(0, .ref h_tab), (1, .ref h_net), (2, .int p1)] := hl
  have C0 : sx_C p s m _ meth c cTab_keep 6 "StateExplorer$Table" A (dC, dI) [(cI, .int), (cL, .long), (cZ, .boolean)] t1 t2 := ⟨hx, hb, hml, hown, hts, hA, hK, hlocks, hX⟩
  rw [m_Tab_keep] at hm
  refine lv_ldc2 (v := (-1 : Int64)) hx hb hown (hts _ tw_246) dTab_keep_0 ?_
  refine lv_lstore_n (lv' := [(3, .long (-1 : Int64)), (0, .ref h_tab), (1, .ref h_net), (2, .int p1)]) hx hb dTab_keep_3 rfl hl (by decide) rfl (fun ls hl => ?_)
  refine lv_iconst (v := (0 : Int32)) hx hb dTab_keep_4 (by decide) ?_
  refine lv_istore (lv' := [(5, .int (0 : Int32)), (3, .long (-1 : Int64)), (0, .ref h_tab), (1, .ref h_net), (2, .int p1)]) hx hb dTab_keep_5 hl (by decide) rfl (fun ls hl => ?_)
  obtain ⟨v6, hv6, hm⟩ := sx_bind hm
  refine w_Tab_keep_7 C0 h_net a_net_sorts a_net_ranks a_net_starts a_net_literals a_net_nextLiterals a_net_outputs h_tab a_tab_known a_tab_settled a_tab_values a_tab_nextStates net_gateTotal net_inputTotal net_latchTotal net_outputTotal tab_known tab_settled p1 _ (-1 : Int64) (0 : Int32) tab_values v6 hv6 _ _ _ hP hD hS (lv_sub hl [2, 3, 4, 1, 0] rfl) ?_
  intro H locs ls hP hD hS hl
  refine lv_aload_n hx hb dTab_keep_67 rfl (lv_at hl 0 rfl) ?_
  refine va_get (D := (dC, dI)) (ci := 2) (v := .ref a_tab_settled) (C := RTab) (T := TTab) (N := 4) hx hb hts inTab hown hK hP 1 rfl rfl 1 (by decide) (hts _ tw_115) (fun _ h9 => h9) rfl dTab_keep_68 ?_
  refine lv_iload_n hx hb dTab_keep_71 rfl (lv_at hl 1 rfl) ?_
  refine lv_lload_n hx hb dTab_keep_72 rfl (lv_at hl 2 rfl) ?_
  obtain ⟨g7, hm⟩ := gd_el hm
  refine va_last hx hb hK hP hD hS 3 1 rfl rfl g7 dTab_keep_73 (fun H locs hP hD hS => ?_)
  have hP : va_P (dC, dI) vwCl [(h_net, .inr (0, [.ref a_net_sorts, .ref a_net_ranks, .ref a_net_starts, .ref a_net_literals, .ref a_net_nextLiterals, .ref a_net_outputs, .int net_gateTotal, .int net_inputTotal, .int net_latchTotal, .int net_outputTotal])), (h_tab, .inr (2, [.ref a_tab_known, .ref a_tab_settled, .ref a_tab_values, .ref a_tab_nextStates])), (a_tab_known, .inl (cL, 120, .inr (.inl tab_known))), (a_tab_settled, .inl (cL, 64, .inr (.inl (vp_updL tab_settled p1.toNatClampNeg v6.1)))), (a_tab_values, .inl (cL, 3840, .inr (.inl v6.2)))] H := hP
  have hD : va_D A [(h_net, .inr (0, [.ref a_net_sorts, .ref a_net_ranks, .ref a_net_starts, .ref a_net_literals, .ref a_net_nextLiterals, .ref a_net_outputs, .int net_gateTotal, .int net_inputTotal, .int net_latchTotal, .int net_outputTotal])), (h_tab, .inr (2, [.ref a_tab_known, .ref a_tab_settled, .ref a_tab_values, .ref a_tab_nextStates])), (a_tab_known, .inl (cL, 120, .inr (.inl tab_known))), (a_tab_settled, .inl (cL, 64, .inr (.inl (vp_updL tab_settled p1.toNatClampNeg v6.1)))), (a_tab_values, .inl (cL, 3840, .inr (.inl v6.2)))] := hD
  obtain rfl := Option.some.inj hm
  exact W.vret hx hb hr (fun t ht hW => ⟨⟨(), rfl, trivial, sx_Wi hP hK hD ht hW.alike⟩, hS.F ht⟩) hS.2.2 dTab_keep_74
noncomputable def L_Tab_findNext_39 (net_nextLiterals : Nat → Int32) (net_latchTotal : Int32) (tab_values : Nat → Int64) (x4 : Int32) (x5 : Int32) : Nat → Int32 → Int32 → Option (Int32)
  | 0, _, _ => none
  | n + 1, x6, x7 => (if net_latchTotal ≤ x7 then some x6 else gd (vp_in x7 8) (gd (vp_in ((((net_nextLiterals x7.toNatClampNeg) >>> ((1 : Int32) &&& 31)) * (64 : Int32)) + x4) 3840) ((L_Tab_findNext_39 net_nextLiterals net_latchTotal tab_values x4 x5 n (x6 ||| (((((((tab_values ((((net_nextLiterals x7.toNatClampNeg) >>> ((1 : Int32) &&& 31)) * (64 : Int32)) + x4).toNatClampNeg).toUInt64 >>> (x5.toInt64.toUInt64 &&& Int64.toUInt64 63)).toInt64).toInt32) ^^^ (net_nextLiterals x7.toNatClampNeg)) &&& (1 : Int32)) <<< (x7 &&& 31))) (x7 + (1 : Int32))))))
noncomputable def m_Tab_findNext (net_nextLiterals : Nat → Int32) (net_latchTotal : Int32) (tab_settled tab_values : Nat → Int64) (p1 : Int32) (p2 : Int32) : Option (Int32) := (m_Exp_wordOf p1).bind (fun v1 => (m_Exp_shiftOf p1).bind (fun v3 => gd (vp_in v1 64) ((if lg_cmp ((((tab_settled v1.toNatClampNeg).toUInt64 >>> ((v3 + p2).toInt64.toUInt64 &&& Int64.toUInt64 63)).toInt64) &&& (1 : Int64)) (0 : Int64) = (0 : Int32) then some (-1 : Int32) else ((L_Tab_findNext_39 net_nextLiterals net_latchTotal tab_values v1 (v3 + p2) fu (0 : Int32) (0 : Int32)).bind (fun v10 => some v10))))))
def rm_Tab_findNext : Room := { frames := 1, cells := 0, slots := 0, locals := 20 }
set_option maxHeartbeats 4000000 in
set_option maxRecDepth 100000 in
theorem w_Tab_findNext_39 {p : Program} {l : Launch} {e : Env} {s : State} {m : MethodId} {args : Array Value} {below : List Frame} {meth : Method} {c : Code} {dC : Nat → ClassId} {dI : Nat → Nat → Nat} {cI cL cZ : ClassId} {A : Nat → Prop} {Q : State → Prop} {t1 t2 : Nat} (C0 : sx_C p s m args meth c cTab_findNext 11 "StateExplorer$Table" A (dC, dI) [(cI, .int), (cL, .long), (cZ, .boolean)] t1 t2) (h_net a_net_sorts a_net_ranks a_net_starts a_net_literals a_net_nextLiterals a_net_outputs h_tab a_tab_known a_tab_settled a_tab_values a_tab_nextStates : Nat) (net_nextLiterals : Nat → Int32) (net_gateTotal net_inputTotal net_latchTotal net_outputTotal : Int32) (tab_settled tab_values : Nat → Int64) (x4 : Int32) (x5 : Int32) {H : Heap} {locs : List Loc} (hP : va_P (dC, dI) vwCl [(h_net, .inr (0, [.ref a_net_sorts, .ref a_net_ranks, .ref a_net_starts, .ref a_net_literals, .ref a_net_nextLiterals, .ref a_net_outputs, .int net_gateTotal, .int net_inputTotal, .int net_latchTotal, .int net_outputTotal])), (h_tab, .inr (2, [.ref a_tab_known, .ref a_tab_settled, .ref a_tab_values, .ref a_tab_nextStates])), (a_net_nextLiterals, .inl (cI, 8, .inl net_nextLiterals)), (a_tab_settled, .inl (cL, 64, .inr (.inl tab_settled))), (a_tab_values, .inl (cL, 3840, .inr (.inl tab_values)))] H) (hD : va_D A [(h_net, .inr (0, [.ref a_net_sorts, .ref a_net_ranks, .ref a_net_starts, .ref a_net_literals, .ref a_net_nextLiterals, .ref a_net_outputs, .int net_gateTotal, .int net_inputTotal, .int net_latchTotal, .int net_outputTotal])), (h_tab, .inr (2, [.ref a_tab_known, .ref a_tab_settled, .ref a_tab_values, .ref a_tab_nextStates])), (a_net_nextLiterals, .inl (cI, 8, .inl net_nextLiterals)), (a_tab_settled, .inl (cL, 64, .inr (.inl tab_settled))), (a_tab_values, .inl (cL, 3840, .inr (.inl tab_values)))]) (hS : va_S A s.heap H locs) :
    ∀ (n : Nat) (x6 : Int32) (x7 : Int32)  (r : Int32), L_Tab_findNext_39 net_nextLiterals net_latchTotal tab_values x4 x5 n x6 x7 = some r → ∀ (ls : Array Slot), lv_has ls 11 [(0, .ref h_tab), (1, .ref h_net), (4, .int x4), (5, .int x5), (6, .int x6), (7, .int x7)] →
    (∀ (ls : Array Slot), lv_has ls 11 [(6, .int r)] → W p l e (headSpec wsTab_findNext rm_Tab_findNext).room s m args below meth c H locs 0 0 Q (F0 m 99 ls [])) →
    W p l e (headSpec wsTab_findNext rm_Tab_findNext).room s m args below meth c H locs 0 0 Q (F0 m 39 ls []) := by
  obtain ⟨hx, hb, hml, hown, hts, hA, hK, hlocks, hX⟩ := id C0
  intro n
  induction n with
  | zero => intro x6 x7 r hm; rw [L_Tab_findNext_39] at hm; cases hm
  | succ n ih =>
    intro x6 x7 r hm ls hl k1
    rw [L_Tab_findNext_39] at hm
    refine lv_iload hx hb dTab_findNext_39 (lv_at hl 5 rfl) ?_
    refine lv_aload_n hx hb dTab_findNext_41 rfl (lv_at hl 1 rfl) ?_
    refine va_get (D := (dC, dI)) (ci := 0) (v := .int net_latchTotal) (C := RNet) (T := TNet) (N := 10) hx hb hts inNet hown hK hP 0 rfl rfl 8 (by decide) (hts _ tw_81) (fun _ h9 => h9) rfl dTab_findNext_42 ?_
    refine lv_icmp_ge (tgt := 99) hx hb dTab_findNext_45 (by decide) (fun c7 => ?_) (fun c7 => ?_)
    · have hm := sx_pos c7 hm
      obtain rfl := Option.some.inj hm
      exact k1 _ (lv_sub hl [4] rfl)
    · have hm := sx_neg c7 hm
      refine lv_aload_n hx hb dTab_findNext_48 rfl (lv_at hl 1 rfl) ?_
      refine va_get (D := (dC, dI)) (ci := 0) (v := .ref a_net_nextLiterals) (C := RNet) (T := TNet) (N := 10) hx hb hts inNet hown hK hP 0 rfl rfl 4 (by decide) (hts _ tw_72) (fun _ h9 => h9) rfl dTab_findNext_49 ?_
      refine lv_iload hx hb dTab_findNext_52 (lv_at hl 5 rfl) ?_
      obtain ⟨g8, hm⟩ := gd_el hm
      refine va_iald hx hb hK hP 2 0 rfl rfl g8 dTab_findNext_54 ?_
      refine lv_istore (lv' := [(8, .int (net_nextLiterals x7.toNatClampNeg)), (0, .ref h_tab), (1, .ref h_net), (4, .int x4), (5, .int x5), (6, .int x6), (7, .int x7)]) hx hb dTab_findNext_55 hl (by decide) rfl (fun ls hl => ?_)
      refine lv_aload_n hx hb dTab_findNext_57 rfl (lv_at hl 1 rfl) ?_
      refine va_get (D := (dC, dI)) (ci := 2) (v := .ref a_tab_values) (C := RTab) (T := TTab) (N := 4) hx hb hts inTab hown hK hP 1 rfl rfl 2 (by decide) (hts _ tw_116) (fun _ h9 => h9) rfl dTab_findNext_58 ?_
      refine lv_iload hx hb dTab_findNext_61 (lv_at hl 0 rfl) ?_
      refine lv_iconst (v := (1 : Int32)) hx hb dTab_findNext_63 (by decide) ?_
      refine lv_ishr hx hb dTab_findNext_64 ?_
      refine lv_bipush (v := (64 : Int32)) hx hb dTab_findNext_65 (by decide) ?_
      refine lv_imul hx hb dTab_findNext_67 ?_
      refine lv_iload hx hb dTab_findNext_68 (lv_at hl 3 rfl) ?_
      refine lv_iadd hx hb dTab_findNext_70 ?_
      obtain ⟨g9, hm⟩ := gd_el hm
      refine va_lald hx hb hK hP 4 1 rfl rfl g9 dTab_findNext_71 ?_
      refine lv_iload hx hb dTab_findNext_72 (lv_at hl 4 rfl) ?_
      refine lv_lushr hx hb dTab_findNext_74 rfl ?_
      refine lv_lstore (lv' := [(9, .long (((tab_values ((((net_nextLiterals x7.toNatClampNeg) >>> ((1 : Int32) &&& 31)) * (64 : Int32)) + x4).toNatClampNeg).toUInt64 >>> (x5.toInt64.toUInt64 &&& Int64.toUInt64 63)).toInt64)), (8, .int (net_nextLiterals x7.toNatClampNeg)), (0, .ref h_tab), (1, .ref h_net), (4, .int x4), (5, .int x5), (6, .int x6), (7, .int x7)]) hx hb dTab_findNext_75 hl (by decide) rfl (fun ls hl => ?_)
      refine lv_iload hx hb dTab_findNext_77 (lv_at hl 6 rfl) ?_
      refine lv_lload hx hb dTab_findNext_79 (lv_at hl 0 rfl) ?_
      refine lv_l2i hx hb dTab_findNext_81 rfl ?_
      refine lv_iload hx hb dTab_findNext_82 (lv_at hl 1 rfl) ?_
      refine lv_ixor hx hb dTab_findNext_84 ?_
      refine lv_iconst (v := (1 : Int32)) hx hb dTab_findNext_85 (by decide) ?_
      refine lv_iand hx hb dTab_findNext_86 ?_
      refine lv_iload hx hb dTab_findNext_87 (lv_at hl 7 rfl) ?_
      refine lv_ishl hx hb dTab_findNext_89 ?_
      refine lv_ior hx hb dTab_findNext_90 ?_
      refine lv_istore (lv' := [(6, .int (x6 ||| (((((((tab_values ((((net_nextLiterals x7.toNatClampNeg) >>> ((1 : Int32) &&& 31)) * (64 : Int32)) + x4).toNatClampNeg).toUInt64 >>> (x5.toInt64.toUInt64 &&& Int64.toUInt64 63)).toInt64).toInt32) ^^^ (net_nextLiterals x7.toNatClampNeg)) &&& (1 : Int32)) <<< (x7 &&& 31)))), (9, .long (((tab_values ((((net_nextLiterals x7.toNatClampNeg) >>> ((1 : Int32) &&& 31)) * (64 : Int32)) + x4).toNatClampNeg).toUInt64 >>> (x5.toInt64.toUInt64 &&& Int64.toUInt64 63)).toInt64)), (8, .int (net_nextLiterals x7.toNatClampNeg)), (0, .ref h_tab), (1, .ref h_net), (4, .int x4), (5, .int x5), (7, .int x7)]) hx hb dTab_findNext_91 hl (by decide) rfl (fun ls hl => ?_)
      refine lv_iinc (v := x7 + (1 : Int32)) (lv' := [(7, .int (x7 + (1 : Int32))), (6, .int (x6 ||| (((((((tab_values ((((net_nextLiterals x7.toNatClampNeg) >>> ((1 : Int32) &&& 31)) * (64 : Int32)) + x4).toNatClampNeg).toUInt64 >>> (x5.toInt64.toUInt64 &&& Int64.toUInt64 63)).toInt64).toInt32) ^^^ (net_nextLiterals x7.toNatClampNeg)) &&& (1 : Int32)) <<< (x7 &&& 31)))), (9, .long (((tab_values ((((net_nextLiterals x7.toNatClampNeg) >>> ((1 : Int32) &&& 31)) * (64 : Int32)) + x4).toNatClampNeg).toUInt64 >>> (x5.toInt64.toUInt64 &&& Int64.toUInt64 63)).toInt64)), (8, .int (net_nextLiterals x7.toNatClampNeg)), (0, .ref h_tab), (1, .ref h_net), (4, .int x4), (5, .int x5)]) hx hb dTab_findNext_93 hl (k := 7) rfl rfl (by decide) rfl (fun ls hl => ?_)
      refine lv_goto (tgt := 39) hx hb dTab_findNext_96 (by decide) ?_
      exact ih (x6 ||| (((((((tab_values ((((net_nextLiterals x7.toNatClampNeg) >>> ((1 : Int32) &&& 31)) * (64 : Int32)) + x4).toNatClampNeg).toUInt64 >>> (x5.toInt64.toUInt64 &&& Int64.toUInt64 63)).toInt64).toInt32) ^^^ (net_nextLiterals x7.toNatClampNeg)) &&& (1 : Int32)) <<< (x7 &&& 31))) (x7 + (1 : Int32)) r hm _ (lv_sub hl [4, 5, 6, 7, 1, 0] rfl) k1
set_option maxHeartbeats 4000000 in
set_option maxRecDepth 100000 in
theorem k_Tab_findNext (l : Launch) (dC : Nat → ClassId) (dI : Nat → Nat → Nat) (cI cL cZ : ClassId) (t1 t2 : Nat) (h_net a_net_sorts a_net_ranks a_net_starts a_net_literals a_net_nextLiterals a_net_outputs h_tab a_tab_known a_tab_settled a_tab_values a_tab_nextStates : Nat) (net_nextLiterals : Nat → Int32) (net_gateTotal net_inputTotal net_latchTotal net_outputTotal : Int32) (tab_settled tab_values : Nat → Int64) (sz : Nat) (p1 : Int32) (p2 : Int32) (v : Int32) (hm : m_Tab_findNext net_nextLiterals net_latchTotal tab_settled tab_values p1 p2 = some v) : Met l yTab_findNext wsTab_findNext rm_Tab_findNext (sx_Pc (dC, dI) [(cI, .int), (cL, .long), (cZ, .boolean)] t1 t2 [(h_net, .inr (0, [.ref a_net_sorts, .ref a_net_ranks, .ref a_net_starts, .ref a_net_literals, .ref a_net_nextLiterals, .ref a_net_outputs, .int net_gateTotal, .int net_inputTotal, .int net_latchTotal, .int net_outputTotal])), (h_tab, .inr (2, [.ref a_tab_known, .ref a_tab_settled, .ref a_tab_values, .ref a_tab_nextStates])), (a_net_nextLiterals, .inl (cI, 8, .inl net_nextLiterals)), (a_tab_settled, .inl (cL, 64, .inr (.inl tab_settled))), (a_tab_values, .inl (cL, 3840, .inr (.inl tab_values)))] sz [.ref h_tab, .ref h_net, .int p1, .int p2]) (sx_Si v) 0 0 (fun _ => False) := by
  refine Met.ofW (cc := cTab_findNext) (maxL := 11) (ret := (some .int)) (by decide) rfl ?_
  intro p e s m args below meth c s₁ B hml hv
  obtain ⟨rfl, hsz, hP, hK, hD0, hX⟩ := hv
  have hx := B.exec
  have hb := B.bytes
  have hr := B.returns
  have hts0 := atoms_spec (ws := wsTab_findNext) B.pre
  have hts : ∀ w ∈ tb, w.before _ s = true := fun w h => hts0 w (List.mem_cons_of_mem _ h)
  have hown : s.vm.findClass "StateExplorer$Table" = some m.cls := findClass_of_methodNamed B.named
  have hlocks := B.notSynchronized
  subst hsz
  have hD := hD0.self (sz := s.heap.size)
  generalize hAe : va_A [(h_net, .inr (0, [.ref a_net_sorts, .ref a_net_ranks, .ref a_net_starts, .ref a_net_literals, .ref a_net_nextLiterals, .ref a_net_outputs, .int net_gateTotal, .int net_inputTotal, .int net_latchTotal, .int net_outputTotal])), (h_tab, .inr (2, [.ref a_tab_known, .ref a_tab_settled, .ref a_tab_values, .ref a_tab_nextStates])), (a_net_nextLiterals, .inl (cI, 8, .inl net_nextLiterals)), (a_tab_settled, .inl (cL, 64, .inr (.inl tab_settled))), (a_tab_values, .inl (cL, 3840, .inr (.inl tab_values)))] s.heap.size = A at hD hX 
  have hA : ∀ q : Nat, s.heap.size ≤ q → A q := fun q h => by rw [← hAe]; exact Or.inr h
  have hS : va_S A s.heap s.heap [] := va_S.rf
  have hl := lv_entry ([.ref h_tab, .ref h_net, .int p1, .int p2]) (n := 11) (Nat.le_of_ble_eq_true rfl)
  rw [lg_entry_eq]
  generalize (lg_sl ([.ref h_tab, .ref h_net, .int p1, .int p2]) ++ List.replicate (11 - (lg_sl ([.ref h_tab, .ref h_net, .int p1, .int p2])).length) Slot.unset).toArray = ls at hl ⊢
  have hl : lv_has ls 11 [(0, .ref h_tab), (1, .ref h_net), (2, .int p1), (3, .int p2)] := hl
  have C0 : sx_C p s m _ meth c cTab_findNext 11 "StateExplorer$Table" A (dC, dI) [(cI, .int), (cL, .long), (cZ, .boolean)] t1 t2 := ⟨hx, hb, hml, hown, hts, hA, hK, hlocks, hX⟩
  rw [m_Tab_findNext] at hm
  refine lv_iload_n hx hb dTab_findNext_0 rfl (lv_at hl 2 rfl) ?_
  obtain ⟨v1, hv1, hm⟩ := sx_bind hm
  have hPc := hP.sub (ws' := []) [] rfl
  have hDc := hD.sub (ws' := []) [] (by decide) rfl
  have hFc := va_free (wc := []) hD hS hA [] rfl
  refine sx_stI (va_runSN (As := [.int p1]) (rest := []) ⟨hx, hb, hml, hown, hts⟩ (k_Exp_wordOf l dC dI cI cL cZ t1 t2  _ p1 v1 hv1) ⟨va_cnB 1 hts (sx_gC tcExp_wordOf) rfl rfl rfl (hX.1 ("StateExplorer$Table", 92, yExp_wordOf, "StateExplorer") sx_n5) (hts _ tw_36) (by decide +kernel) ⟨Nat.le_of_ble_eq_true rfl, Nat.le_of_ble_eq_true rfl⟩, hts _ tw_234, trivial⟩ (sx_pS hK hX hS hPc hDc hFc) rfl rfl hl.1 rfl (lv_room (Nat.le_of_ble_eq_true rfl)) dTab_findNext_1 ⟨Nat.le_of_ble_eq_true rfl, Nat.le_of_ble_eq_true rfl⟩) ?_
  refine lv_istore (lv' := [(4, .int v1), (0, .ref h_tab), (1, .ref h_net), (2, .int p1), (3, .int p2)]) hx hb dTab_findNext_4 hl (by decide) rfl (fun ls hl => ?_)
  refine lv_iload_n hx hb dTab_findNext_6 rfl (lv_at hl 3 rfl) ?_
  obtain ⟨v3, hv3, hm⟩ := sx_bind hm
  have hPc := hP.sub (ws' := []) [] rfl
  have hDc := hD.sub (ws' := []) [] (by decide) rfl
  have hFc := va_free (wc := []) hD hS hA [] rfl
  refine sx_stI (va_runSN (As := [.int p1]) (rest := []) ⟨hx, hb, hml, hown, hts⟩ (k_Exp_shiftOf l dC dI cI cL cZ t1 t2  _ p1 v3 hv3) ⟨va_cnB 1 hts (sx_gC tcExp_shiftOf) rfl rfl rfl (hX.1 ("StateExplorer$Table", 96, yExp_shiftOf, "StateExplorer") sx_n6) (hts _ tw_36) (by decide +kernel) ⟨Nat.le_of_ble_eq_true rfl, Nat.le_of_ble_eq_true rfl⟩, hts _ tw_279, trivial⟩ (sx_pS hK hX hS hPc hDc hFc) rfl rfl hl.1 rfl (lv_room (Nat.le_of_ble_eq_true rfl)) dTab_findNext_7 ⟨Nat.le_of_ble_eq_true rfl, Nat.le_of_ble_eq_true rfl⟩) ?_
  refine lv_iload_n hx hb dTab_findNext_10 rfl (lv_at hl 4 rfl) ?_
  refine lv_iadd hx hb dTab_findNext_11 ?_
  refine lv_istore (lv' := [(5, .int (v3 + p2)), (4, .int v1), (0, .ref h_tab), (1, .ref h_net), (2, .int p1), (3, .int p2)]) hx hb dTab_findNext_12 hl (by decide) rfl (fun ls hl => ?_)
  refine lv_aload_n hx hb dTab_findNext_14 rfl (lv_at hl 2 rfl) ?_
  refine va_get (D := (dC, dI)) (ci := 2) (v := .ref a_tab_settled) (C := RTab) (T := TTab) (N := 4) hx hb hts inTab hown hK hP 1 rfl rfl 1 (by decide) (hts _ tw_115) (fun _ h9 => h9) rfl dTab_findNext_15 ?_
  refine lv_iload hx hb dTab_findNext_18 (lv_at hl 1 rfl) ?_
  obtain ⟨g5, hm⟩ := gd_el hm
  refine va_lald hx hb hK hP 3 1 rfl rfl g5 dTab_findNext_20 ?_
  refine lv_iload hx hb dTab_findNext_21 (lv_at hl 0 rfl) ?_
  refine lv_lushr hx hb dTab_findNext_23 rfl ?_
  refine lv_lconst (v := (1 : Int64)) hx hb dTab_findNext_24 (by decide) ?_
  refine lv_land hx hb dTab_findNext_25 ?_
  refine lv_lconst (v := (0 : Int64)) hx hb dTab_findNext_26 (by decide) ?_
  refine W.lcmp hx hb dTab_findNext_27 ?_
  refine lv_if_ne (tgt := 33) hx hb dTab_findNext_28 (by decide) (fun c6 => ?_) (fun c6 => ?_)
  · have hm := sx_neg c6 hm
    refine lv_iconst (v := (0 : Int32)) hx hb dTab_findNext_33 (by decide) ?_
    refine lv_istore (lv' := [(6, .int (0 : Int32)), (5, .int (v3 + p2)), (4, .int v1), (0, .ref h_tab), (1, .ref h_net), (2, .int p1), (3, .int p2)]) hx hb dTab_findNext_34 hl (by decide) rfl (fun ls hl => ?_)
    refine lv_iconst (v := (0 : Int32)) hx hb dTab_findNext_36 (by decide) ?_
    refine lv_istore (lv' := [(7, .int (0 : Int32)), (6, .int (0 : Int32)), (5, .int (v3 + p2)), (4, .int v1), (0, .ref h_tab), (1, .ref h_net), (2, .int p1), (3, .int p2)]) hx hb dTab_findNext_37 hl (by decide) rfl (fun ls hl => ?_)
    obtain ⟨v10, hv10, hm⟩ := sx_bind hm
    refine w_Tab_findNext_39 C0 h_net a_net_sorts a_net_ranks a_net_starts a_net_literals a_net_nextLiterals a_net_outputs h_tab a_tab_known a_tab_settled a_tab_values a_tab_nextStates net_nextLiterals net_gateTotal net_inputTotal net_latchTotal net_outputTotal tab_settled tab_values v1 (v3 + p2) hP hD hS _ (0 : Int32) (0 : Int32) v10 hv10 _ (lv_sub hl [4, 5, 3, 2, 1, 0] rfl) ?_
    intro ls hl
    refine lv_iload hx hb dTab_findNext_99 (lv_at hl 0 rfl) ?_
    obtain rfl := Option.some.inj hm
    exact W.iret (v := v10) hx hb hr (fun t ht hW => ⟨rfl, ht⟩) (fun q hq => nomatch hq) dTab_findNext_101
  · have hm := sx_pos c6 hm
    refine lv_iconst (v := (-1 : Int32)) hx hb dTab_findNext_31 (by decide) ?_
    obtain rfl := Option.some.inj hm
    exact W.iret (v := (-1 : Int32)) hx hb hr (fun t ht hW => ⟨rfl, ht⟩) (fun q hq => nomatch hq) dTab_findNext_32
noncomputable def L_Tab_fill_7 (net_sorts net_ranks net_starts net_literals : Nat → Int32) (net_gateTotal : Int32) (x2 : Int32) : Nat → Int32 → (Nat → Int64) → (Nat → Int64) → (Nat → Int64) → Option ((Nat → Int64) × (Nat → Int64) × (Nat → Int64))
  | 0, _, _, _, _ => none
  | n + 1, x3, tab_known, tab_settled, tab_values => (if x2 ≤ x3 then some (tab_known, tab_settled, tab_values) else (m_Tab_begin net_sorts net_ranks net_gateTotal tab_known x3).bind (fun v4 => (m_Tab_settle net_sorts net_starts net_literals net_gateTotal v4).bind (fun v6 => (m_Tab_keep net_gateTotal v6 tab_settled tab_values x3).bind (fun v8 => (L_Tab_fill_7 net_sorts net_ranks net_starts net_literals net_gateTotal x2 n (x3 + (1 : Int32)) v6 v8.1 v8.2)))))
noncomputable def L_Tab_fill_58 (net_nextLiterals : Nat → Int32) (net_latchTotal : Int32) (tab_settled tab_values : Nat → Int64) (x4 : Int32) (x5 : Int32) : Nat → Int32 → (Nat → Int32) → Option ((Nat → Int32))
  | 0, _, _ => none
  | n + 1, x6, tab_nextStates => (if x4 ≤ x6 then some tab_nextStates else (m_Tab_findNext net_nextLiterals net_latchTotal tab_settled tab_values x5 x6).bind (fun v17 => gd (vp_in ((x5 * (16 : Int32)) + x6) 4096) ((L_Tab_fill_58 net_nextLiterals net_latchTotal tab_settled tab_values x4 x5 n (x6 + (1 : Int32)) (upd tab_nextStates ((x5 * (16 : Int32)) + x6).toNatClampNeg v17)))))
noncomputable def L_Tab_fill_49 (net_nextLiterals : Nat → Int32) (net_latchTotal : Int32) (tab_settled tab_values : Nat → Int64) (x3 : Int32) (x4 : Int32) : Nat → Int32 → (Nat → Int32) → Option ((Nat → Int32))
  | 0, _, _ => none
  | n + 1, x5, tab_nextStates => (if x3 ≤ x5 then some tab_nextStates else ((L_Tab_fill_58 net_nextLiterals net_latchTotal tab_settled tab_values x4 x5 fu (0 : Int32) tab_nextStates).bind (fun v20 => (L_Tab_fill_49 net_nextLiterals net_latchTotal tab_settled tab_values x3 x4 n (x5 + (1 : Int32)) v20))))
noncomputable def m_Tab_fill (net_sorts net_ranks net_starts net_literals net_nextLiterals : Nat → Int32) (net_gateTotal net_inputTotal net_latchTotal : Int32) (tab_known tab_settled tab_values : Nat → Int64) (tab_nextStates : Nat → Int32)  : Option ((Nat → Int64) × (Nat → Int64) × (Nat → Int64) × (Nat → Int32)) := (m_Net_wordTotal net_latchTotal).bind (fun v1 => ((L_Tab_fill_7 net_sorts net_ranks net_starts net_literals net_gateTotal v1 fu (0 : Int32) tab_known tab_settled tab_values).bind (fun v10 => (m_Net_stateTotal net_latchTotal).bind (fun v11 => (m_Net_choiceTotal net_inputTotal).bind (fun v13 => ((L_Tab_fill_49 net_nextLiterals net_latchTotal v10.2.1 v10.2.2 v11 v13 fu (0 : Int32) tab_nextStates).bind (fun v21 => some (v10.1, v10.2.1, v10.2.2, v21))))))))
def rm_Tab_fill : Room := { frames := 3, cells := 0, slots := 0, locals := 76 }
set_option maxHeartbeats 4000000 in
set_option maxRecDepth 100000 in
theorem w_Tab_fill_7 {p : Program} {l : Launch} {e : Env} {s : State} {m : MethodId} {args : Array Value} {below : List Frame} {meth : Method} {c : Code} {dC : Nat → ClassId} {dI : Nat → Nat → Nat} {cI cL cZ : ClassId} {A : Nat → Prop} {Q : State → Prop} {t1 t2 : Nat} (C0 : sx_C p s m args meth c cTab_fill 7 "StateExplorer$Table" A (dC, dI) [(cI, .int), (cL, .long), (cZ, .boolean)] t1 t2) (h_net a_net_sorts a_net_ranks a_net_starts a_net_literals a_net_nextLiterals a_net_outputs h_tab a_tab_known a_tab_settled a_tab_values a_tab_nextStates : Nat) (net_sorts net_ranks net_starts net_literals net_nextLiterals : Nat → Int32) (net_gateTotal net_inputTotal net_latchTotal net_outputTotal : Int32) (tab_nextStates : Nat → Int32) (x2 : Int32) :
    ∀ (n : Nat) (x3 : Int32) (tab_known tab_settled tab_values : Nat → Int64) (r : (Nat → Int64) × (Nat → Int64) × (Nat → Int64)), L_Tab_fill_7 net_sorts net_ranks net_starts net_literals net_gateTotal x2 n x3 tab_known tab_settled tab_values = some r → ∀ (H : Heap) (locs : List Loc) (ls : Array Slot), va_P (dC, dI) vwCl [(h_net, .inr (0, [.ref a_net_sorts, .ref a_net_ranks, .ref a_net_starts, .ref a_net_literals, .ref a_net_nextLiterals, .ref a_net_outputs, .int net_gateTotal, .int net_inputTotal, .int net_latchTotal, .int net_outputTotal])), (h_tab, .inr (2, [.ref a_tab_known, .ref a_tab_settled, .ref a_tab_values, .ref a_tab_nextStates])), (a_net_sorts, .inl (cI, 60, .inl net_sorts)), (a_net_ranks, .inl (cI, 60, .inl net_ranks)), (a_net_starts, .inl (cI, 61, .inl net_starts)), (a_net_literals, .inl (cI, 240, .inl net_literals)), (a_net_nextLiterals, .inl (cI, 8, .inl net_nextLiterals)), (a_tab_known, .inl (cL, 120, .inr (.inl tab_known))), (a_tab_settled, .inl (cL, 64, .inr (.inl tab_settled))), (a_tab_values, .inl (cL, 3840, .inr (.inl tab_values))), (a_tab_nextStates, .inl (cI, 4096, .inl tab_nextStates))] H → va_D A [(h_net, .inr (0, [.ref a_net_sorts, .ref a_net_ranks, .ref a_net_starts, .ref a_net_literals, .ref a_net_nextLiterals, .ref a_net_outputs, .int net_gateTotal, .int net_inputTotal, .int net_latchTotal, .int net_outputTotal])), (h_tab, .inr (2, [.ref a_tab_known, .ref a_tab_settled, .ref a_tab_values, .ref a_tab_nextStates])), (a_net_sorts, .inl (cI, 60, .inl net_sorts)), (a_net_ranks, .inl (cI, 60, .inl net_ranks)), (a_net_starts, .inl (cI, 61, .inl net_starts)), (a_net_literals, .inl (cI, 240, .inl net_literals)), (a_net_nextLiterals, .inl (cI, 8, .inl net_nextLiterals)), (a_tab_known, .inl (cL, 120, .inr (.inl tab_known))), (a_tab_settled, .inl (cL, 64, .inr (.inl tab_settled))), (a_tab_values, .inl (cL, 3840, .inr (.inl tab_values))), (a_tab_nextStates, .inl (cI, 4096, .inl tab_nextStates))] → va_S A s.heap H locs → lv_has ls 7 [(0, .ref h_tab), (1, .ref h_net), (2, .int x2), (3, .int x3)] →
    (∀ (H : Heap) (locs : List Loc) (ls : Array Slot), va_P (dC, dI) vwCl [(h_net, .inr (0, [.ref a_net_sorts, .ref a_net_ranks, .ref a_net_starts, .ref a_net_literals, .ref a_net_nextLiterals, .ref a_net_outputs, .int net_gateTotal, .int net_inputTotal, .int net_latchTotal, .int net_outputTotal])), (h_tab, .inr (2, [.ref a_tab_known, .ref a_tab_settled, .ref a_tab_values, .ref a_tab_nextStates])), (a_net_sorts, .inl (cI, 60, .inl net_sorts)), (a_net_ranks, .inl (cI, 60, .inl net_ranks)), (a_net_starts, .inl (cI, 61, .inl net_starts)), (a_net_literals, .inl (cI, 240, .inl net_literals)), (a_net_nextLiterals, .inl (cI, 8, .inl net_nextLiterals)), (a_tab_known, .inl (cL, 120, .inr (.inl r.1))), (a_tab_settled, .inl (cL, 64, .inr (.inl r.2.1))), (a_tab_values, .inl (cL, 3840, .inr (.inl r.2.2))), (a_tab_nextStates, .inl (cI, 4096, .inl tab_nextStates))] H → va_D A [(h_net, .inr (0, [.ref a_net_sorts, .ref a_net_ranks, .ref a_net_starts, .ref a_net_literals, .ref a_net_nextLiterals, .ref a_net_outputs, .int net_gateTotal, .int net_inputTotal, .int net_latchTotal, .int net_outputTotal])), (h_tab, .inr (2, [.ref a_tab_known, .ref a_tab_settled, .ref a_tab_values, .ref a_tab_nextStates])), (a_net_sorts, .inl (cI, 60, .inl net_sorts)), (a_net_ranks, .inl (cI, 60, .inl net_ranks)), (a_net_starts, .inl (cI, 61, .inl net_starts)), (a_net_literals, .inl (cI, 240, .inl net_literals)), (a_net_nextLiterals, .inl (cI, 8, .inl net_nextLiterals)), (a_tab_known, .inl (cL, 120, .inr (.inl r.1))), (a_tab_settled, .inl (cL, 64, .inr (.inl r.2.1))), (a_tab_values, .inl (cL, 3840, .inr (.inl r.2.2))), (a_tab_nextStates, .inl (cI, 4096, .inl tab_nextStates))] → va_S A s.heap H locs → lv_has ls 7 [(0, .ref h_tab), (1, .ref h_net)] → W p l e (headSpec wsTab_fill rm_Tab_fill).room s m args below meth c H locs 0 0 Q (F0 m 35 ls [])) →
    W p l e (headSpec wsTab_fill rm_Tab_fill).room s m args below meth c H locs 0 0 Q (F0 m 7 ls []) := by
  obtain ⟨hx, hb, hml, hown, hts, hA, hK, hlocks, hX⟩ := id C0
  intro n
  induction n with
  | zero => intro x3 tab_known tab_settled tab_values r hm; rw [L_Tab_fill_7] at hm; cases hm
  | succ n ih =>
    intro x3 tab_known tab_settled tab_values r hm H locs ls hP hD hS hl k1
    rw [L_Tab_fill_7] at hm
    refine lv_iload_n hx hb dTab_fill_7 rfl (lv_at hl 3 rfl) ?_
    refine lv_iload_n hx hb dTab_fill_8 rfl (lv_at hl 2 rfl) ?_
    refine lv_icmp_ge (tgt := 35) hx hb dTab_fill_9 (by decide) (fun c3 => ?_) (fun c3 => ?_)
    · have hm := sx_pos c3 hm
      obtain rfl := Option.some.inj hm
      exact k1 _ _ _ hP hD hS (lv_sub hl [0, 1] rfl)
    · have hm := sx_neg c3 hm
      refine lv_aload_n hx hb dTab_fill_12 rfl (lv_at hl 0 rfl) ?_
      refine lv_aload_n hx hb dTab_fill_13 rfl (lv_at hl 1 rfl) ?_
      refine lv_iload_n hx hb dTab_fill_14 rfl (lv_at hl 3 rfl) ?_
      obtain ⟨v4, hv4, hm⟩ := sx_bind hm
      have hPc := hP.sub (ws' := [(h_net, .inr (0, [.ref a_net_sorts, .ref a_net_ranks, .ref a_net_starts, .ref a_net_literals, .ref a_net_nextLiterals, .ref a_net_outputs, .int net_gateTotal, .int net_inputTotal, .int net_latchTotal, .int net_outputTotal])), (h_tab, .inr (2, [.ref a_tab_known, .ref a_tab_settled, .ref a_tab_values, .ref a_tab_nextStates])), (a_net_sorts, .inl (cI, 60, .inl net_sorts)), (a_net_ranks, .inl (cI, 60, .inl net_ranks)), (a_tab_known, .inl (cL, 120, .inr (.inl tab_known)))]) [0, 1, 2, 3, 7] rfl
      have hDc := hD.sub (ws' := [(h_net, .inr (0, [.ref a_net_sorts, .ref a_net_ranks, .ref a_net_starts, .ref a_net_literals, .ref a_net_nextLiterals, .ref a_net_outputs, .int net_gateTotal, .int net_inputTotal, .int net_latchTotal, .int net_outputTotal])), (h_tab, .inr (2, [.ref a_tab_known, .ref a_tab_settled, .ref a_tab_values, .ref a_tab_nextStates])), (a_net_sorts, .inl (cI, 60, .inl net_sorts)), (a_net_ranks, .inl (cI, 60, .inl net_ranks)), (a_tab_known, .inl (cL, 120, .inr (.inl tab_known)))]) [0, 1, 2, 3, 7] (by decide) rfl
      have hFc := va_free (wc := [(h_net, .inr (0, [.ref a_net_sorts, .ref a_net_ranks, .ref a_net_starts, .ref a_net_literals, .ref a_net_nextLiterals, .ref a_net_outputs, .int net_gateTotal, .int net_inputTotal, .int net_latchTotal, .int net_outputTotal])), (h_tab, .inr (2, [.ref a_tab_known, .ref a_tab_settled, .ref a_tab_values, .ref a_tab_nextStates])), (a_net_sorts, .inl (cI, 60, .inl net_sorts)), (a_net_ranks, .inl (cI, 60, .inl net_ranks)), (a_tab_known, .inl (cL, 120, .inr (.inl tab_known)))]) hD hS hA [0, 1, 2, 3, 7] rfl
      refine va_callv (va_runV (As := [.ref h_net, .int x3]) (rest := []) ⟨hx, hb, hml, hown, hts⟩ (k_Tab_begin l dC dI cI cL cZ t1 t2 h_net a_net_sorts a_net_ranks a_net_starts a_net_literals a_net_nextLiterals a_net_outputs h_tab a_tab_known a_tab_settled a_tab_values a_tab_nextStates net_sorts net_ranks net_gateTotal net_inputTotal net_latchTotal net_outputTotal tab_known _ x3 v4 hv4) (cwV 2 hts (sx_gV tw_236 tw_238 tw_0 tw_38 tcTab_begin) rfl rfl rfl (by decide +kernel) ⟨Nat.le_of_ble_eq_true rfl, Nat.le_of_ble_eq_true rfl⟩) (sx_pV hK hX hS hPc hDc hFc (va_recv hK hPc (ci := 2) (q0 := 1) rfl rfl)) rfl rfl hl.1 rfl (lv_room (Nat.le_of_ble_eq_true rfl)) dTab_fill_15 ⟨Nat.le_of_ble_eq_true rfl, Nat.le_of_ble_eq_true rfl⟩) hS (fun q _ h => hFc q h) hFc (fun u_ t_ H locs ht hvm hw hB hz1 hk1 hS => ?_)
      obtain ⟨hP1, -, hD1⟩ := hB
      rw [ht] at hP1
      obtain ⟨hP, hD⟩ := va_join (wr := [(a_net_starts, .inl (cI, 61, .inl net_starts)), (a_net_literals, .inl (cI, 240, .inl net_literals)), (a_net_nextLiterals, .inl (cI, 8, .inl net_nextLiterals)), (a_tab_settled, .inl (cL, 64, .inr (.inl tab_settled))), (a_tab_values, .inl (cL, 3840, .inr (.inl tab_values))), (a_tab_nextStates, .inl (cI, 4096, .inl tab_nextStates))]) (w1 := [(h_net, .inr (0, [.ref a_net_sorts, .ref a_net_ranks, .ref a_net_starts, .ref a_net_literals, .ref a_net_nextLiterals, .ref a_net_outputs, .int net_gateTotal, .int net_inputTotal, .int net_latchTotal, .int net_outputTotal])), (h_tab, .inr (2, [.ref a_tab_known, .ref a_tab_settled, .ref a_tab_values, .ref a_tab_nextStates])), (a_net_sorts, .inl (cI, 60, .inl net_sorts)), (a_net_ranks, .inl (cI, 60, .inl net_ranks)), (a_tab_known, .inl (cL, 120, .inr (.inl v4)))]) hP hD [0, 1, 2, 3, 7] [4, 5, 6, 8, 9, 10] rfl rfl (by decide) (by decide) hk1 hFc hP1 hD1
      have hP : va_P (dC, dI) vwCl [(a_net_starts, .inl (cI, 61, .inl net_starts)), (a_net_literals, .inl (cI, 240, .inl net_literals)), (a_net_nextLiterals, .inl (cI, 8, .inl net_nextLiterals)), (a_tab_settled, .inl (cL, 64, .inr (.inl tab_settled))), (a_tab_values, .inl (cL, 3840, .inr (.inl tab_values))), (a_tab_nextStates, .inl (cI, 4096, .inl tab_nextStates)), (h_net, .inr (0, [.ref a_net_sorts, .ref a_net_ranks, .ref a_net_starts, .ref a_net_literals, .ref a_net_nextLiterals, .ref a_net_outputs, .int net_gateTotal, .int net_inputTotal, .int net_latchTotal, .int net_outputTotal])), (h_tab, .inr (2, [.ref a_tab_known, .ref a_tab_settled, .ref a_tab_values, .ref a_tab_nextStates])), (a_net_sorts, .inl (cI, 60, .inl net_sorts)), (a_net_ranks, .inl (cI, 60, .inl net_ranks)), (a_tab_known, .inl (cL, 120, .inr (.inl v4)))] H := hP
      have hD : va_D A [(a_net_starts, .inl (cI, 61, .inl net_starts)), (a_net_literals, .inl (cI, 240, .inl net_literals)), (a_net_nextLiterals, .inl (cI, 8, .inl net_nextLiterals)), (a_tab_settled, .inl (cL, 64, .inr (.inl tab_settled))), (a_tab_values, .inl (cL, 3840, .inr (.inl tab_values))), (a_tab_nextStates, .inl (cI, 4096, .inl tab_nextStates)), (h_net, .inr (0, [.ref a_net_sorts, .ref a_net_ranks, .ref a_net_starts, .ref a_net_literals, .ref a_net_nextLiterals, .ref a_net_outputs, .int net_gateTotal, .int net_inputTotal, .int net_latchTotal, .int net_outputTotal])), (h_tab, .inr (2, [.ref a_tab_known, .ref a_tab_settled, .ref a_tab_values, .ref a_tab_nextStates])), (a_net_sorts, .inl (cI, 60, .inl net_sorts)), (a_net_ranks, .inl (cI, 60, .inl net_ranks)), (a_tab_known, .inl (cL, 120, .inr (.inl v4)))] := hD
      refine lv_aload_n hx hb dTab_fill_18 rfl (lv_at hl 0 rfl) ?_
      refine lv_aload_n hx hb dTab_fill_19 rfl (lv_at hl 1 rfl) ?_
      obtain ⟨v6, hv6, hm⟩ := sx_bind hm
      have hPc := hP.sub (ws' := [(h_net, .inr (0, [.ref a_net_sorts, .ref a_net_ranks, .ref a_net_starts, .ref a_net_literals, .ref a_net_nextLiterals, .ref a_net_outputs, .int net_gateTotal, .int net_inputTotal, .int net_latchTotal, .int net_outputTotal])), (h_tab, .inr (2, [.ref a_tab_known, .ref a_tab_settled, .ref a_tab_values, .ref a_tab_nextStates])), (a_net_sorts, .inl (cI, 60, .inl net_sorts)), (a_net_starts, .inl (cI, 61, .inl net_starts)), (a_net_literals, .inl (cI, 240, .inl net_literals)), (a_tab_known, .inl (cL, 120, .inr (.inl v4)))]) [6, 7, 8, 0, 1, 10] rfl
      have hDc := hD.sub (ws' := [(h_net, .inr (0, [.ref a_net_sorts, .ref a_net_ranks, .ref a_net_starts, .ref a_net_literals, .ref a_net_nextLiterals, .ref a_net_outputs, .int net_gateTotal, .int net_inputTotal, .int net_latchTotal, .int net_outputTotal])), (h_tab, .inr (2, [.ref a_tab_known, .ref a_tab_settled, .ref a_tab_values, .ref a_tab_nextStates])), (a_net_sorts, .inl (cI, 60, .inl net_sorts)), (a_net_starts, .inl (cI, 61, .inl net_starts)), (a_net_literals, .inl (cI, 240, .inl net_literals)), (a_tab_known, .inl (cL, 120, .inr (.inl v4)))]) [6, 7, 8, 0, 1, 10] (by decide) rfl
      have hFc := va_free (wc := [(h_net, .inr (0, [.ref a_net_sorts, .ref a_net_ranks, .ref a_net_starts, .ref a_net_literals, .ref a_net_nextLiterals, .ref a_net_outputs, .int net_gateTotal, .int net_inputTotal, .int net_latchTotal, .int net_outputTotal])), (h_tab, .inr (2, [.ref a_tab_known, .ref a_tab_settled, .ref a_tab_values, .ref a_tab_nextStates])), (a_net_sorts, .inl (cI, 60, .inl net_sorts)), (a_net_starts, .inl (cI, 61, .inl net_starts)), (a_net_literals, .inl (cI, 240, .inl net_literals)), (a_tab_known, .inl (cL, 120, .inr (.inl v4)))]) hD hS hA [6, 7, 8, 0, 1, 10] rfl
      refine va_callv (va_runV (As := [.ref h_net]) (rest := []) ⟨hx, hb, hml, hown, hts⟩ (k_Tab_settle l dC dI cI cL cZ t1 t2 h_net a_net_sorts a_net_ranks a_net_starts a_net_literals a_net_nextLiterals a_net_outputs h_tab a_tab_known a_tab_settled a_tab_values a_tab_nextStates net_sorts net_starts net_literals net_gateTotal net_inputTotal net_latchTotal net_outputTotal v4 _ v6 hv6) (cwV 1 hts (sx_gV tw_252 tw_254 tw_2 tw_38 tcTab_settle) rfl rfl rfl (by decide +kernel) ⟨Nat.le_of_ble_eq_true rfl, Nat.le_of_ble_eq_true rfl⟩) (sx_pV hK hX hS hPc hDc hFc (va_recv hK hPc (ci := 2) (q0 := 1) rfl rfl)) rfl rfl hl.1 rfl (lv_room (Nat.le_of_ble_eq_true rfl)) dTab_fill_20 ⟨Nat.le_of_ble_eq_true rfl, Nat.le_of_ble_eq_true rfl⟩) hS (fun q _ h => hFc q h) hFc (fun u_ t_ H locs ht hvm hw hB hz1 hk1 hS => ?_)
      obtain ⟨hP1, -, hD1⟩ := hB
      rw [ht] at hP1
      obtain ⟨hP, hD⟩ := va_join (wr := [(a_net_nextLiterals, .inl (cI, 8, .inl net_nextLiterals)), (a_tab_settled, .inl (cL, 64, .inr (.inl tab_settled))), (a_tab_values, .inl (cL, 3840, .inr (.inl tab_values))), (a_tab_nextStates, .inl (cI, 4096, .inl tab_nextStates)), (a_net_ranks, .inl (cI, 60, .inl net_ranks))]) (w1 := [(h_net, .inr (0, [.ref a_net_sorts, .ref a_net_ranks, .ref a_net_starts, .ref a_net_literals, .ref a_net_nextLiterals, .ref a_net_outputs, .int net_gateTotal, .int net_inputTotal, .int net_latchTotal, .int net_outputTotal])), (h_tab, .inr (2, [.ref a_tab_known, .ref a_tab_settled, .ref a_tab_values, .ref a_tab_nextStates])), (a_net_sorts, .inl (cI, 60, .inl net_sorts)), (a_net_starts, .inl (cI, 61, .inl net_starts)), (a_net_literals, .inl (cI, 240, .inl net_literals)), (a_tab_known, .inl (cL, 120, .inr (.inl v6)))]) hP hD [6, 7, 8, 0, 1, 10] [2, 3, 4, 5, 9] rfl rfl (by decide) (by decide) hk1 hFc hP1 hD1
      have hP : va_P (dC, dI) vwCl [(a_net_nextLiterals, .inl (cI, 8, .inl net_nextLiterals)), (a_tab_settled, .inl (cL, 64, .inr (.inl tab_settled))), (a_tab_values, .inl (cL, 3840, .inr (.inl tab_values))), (a_tab_nextStates, .inl (cI, 4096, .inl tab_nextStates)), (a_net_ranks, .inl (cI, 60, .inl net_ranks)), (h_net, .inr (0, [.ref a_net_sorts, .ref a_net_ranks, .ref a_net_starts, .ref a_net_literals, .ref a_net_nextLiterals, .ref a_net_outputs, .int net_gateTotal, .int net_inputTotal, .int net_latchTotal, .int net_outputTotal])), (h_tab, .inr (2, [.ref a_tab_known, .ref a_tab_settled, .ref a_tab_values, .ref a_tab_nextStates])), (a_net_sorts, .inl (cI, 60, .inl net_sorts)), (a_net_starts, .inl (cI, 61, .inl net_starts)), (a_net_literals, .inl (cI, 240, .inl net_literals)), (a_tab_known, .inl (cL, 120, .inr (.inl v6)))] H := hP
      have hD : va_D A [(a_net_nextLiterals, .inl (cI, 8, .inl net_nextLiterals)), (a_tab_settled, .inl (cL, 64, .inr (.inl tab_settled))), (a_tab_values, .inl (cL, 3840, .inr (.inl tab_values))), (a_tab_nextStates, .inl (cI, 4096, .inl tab_nextStates)), (a_net_ranks, .inl (cI, 60, .inl net_ranks)), (h_net, .inr (0, [.ref a_net_sorts, .ref a_net_ranks, .ref a_net_starts, .ref a_net_literals, .ref a_net_nextLiterals, .ref a_net_outputs, .int net_gateTotal, .int net_inputTotal, .int net_latchTotal, .int net_outputTotal])), (h_tab, .inr (2, [.ref a_tab_known, .ref a_tab_settled, .ref a_tab_values, .ref a_tab_nextStates])), (a_net_sorts, .inl (cI, 60, .inl net_sorts)), (a_net_starts, .inl (cI, 61, .inl net_starts)), (a_net_literals, .inl (cI, 240, .inl net_literals)), (a_tab_known, .inl (cL, 120, .inr (.inl v6)))] := hD
      refine lv_aload_n hx hb dTab_fill_23 rfl (lv_at hl 0 rfl) ?_
      refine lv_aload_n hx hb dTab_fill_24 rfl (lv_at hl 1 rfl) ?_
      refine lv_iload_n hx hb dTab_fill_25 rfl (lv_at hl 3 rfl) ?_
      obtain ⟨v8, hv8, hm⟩ := sx_bind hm
      have hPc := hP.sub (ws' := [(h_net, .inr (0, [.ref a_net_sorts, .ref a_net_ranks, .ref a_net_starts, .ref a_net_literals, .ref a_net_nextLiterals, .ref a_net_outputs, .int net_gateTotal, .int net_inputTotal, .int net_latchTotal, .int net_outputTotal])), (h_tab, .inr (2, [.ref a_tab_known, .ref a_tab_settled, .ref a_tab_values, .ref a_tab_nextStates])), (a_tab_known, .inl (cL, 120, .inr (.inl v6))), (a_tab_settled, .inl (cL, 64, .inr (.inl tab_settled))), (a_tab_values, .inl (cL, 3840, .inr (.inl tab_values)))]) [5, 6, 10, 1, 2] rfl
      have hDc := hD.sub (ws' := [(h_net, .inr (0, [.ref a_net_sorts, .ref a_net_ranks, .ref a_net_starts, .ref a_net_literals, .ref a_net_nextLiterals, .ref a_net_outputs, .int net_gateTotal, .int net_inputTotal, .int net_latchTotal, .int net_outputTotal])), (h_tab, .inr (2, [.ref a_tab_known, .ref a_tab_settled, .ref a_tab_values, .ref a_tab_nextStates])), (a_tab_known, .inl (cL, 120, .inr (.inl v6))), (a_tab_settled, .inl (cL, 64, .inr (.inl tab_settled))), (a_tab_values, .inl (cL, 3840, .inr (.inl tab_values)))]) [5, 6, 10, 1, 2] (by decide) rfl
      have hFc := va_free (wc := [(h_net, .inr (0, [.ref a_net_sorts, .ref a_net_ranks, .ref a_net_starts, .ref a_net_literals, .ref a_net_nextLiterals, .ref a_net_outputs, .int net_gateTotal, .int net_inputTotal, .int net_latchTotal, .int net_outputTotal])), (h_tab, .inr (2, [.ref a_tab_known, .ref a_tab_settled, .ref a_tab_values, .ref a_tab_nextStates])), (a_tab_known, .inl (cL, 120, .inr (.inl v6))), (a_tab_settled, .inl (cL, 64, .inr (.inl tab_settled))), (a_tab_values, .inl (cL, 3840, .inr (.inl tab_values)))]) hD hS hA [5, 6, 10, 1, 2] rfl
      refine va_callv (va_runV (As := [.ref h_net, .int x3]) (rest := []) ⟨hx, hb, hml, hown, hts⟩ (k_Tab_keep l dC dI cI cL cZ t1 t2 h_net a_net_sorts a_net_ranks a_net_starts a_net_literals a_net_nextLiterals a_net_outputs h_tab a_tab_known a_tab_settled a_tab_values a_tab_nextStates net_gateTotal net_inputTotal net_latchTotal net_outputTotal v6 tab_settled tab_values _ x3 v8 hv8) (cwV 2 hts (sx_gV tw_264 tw_266 tw_5 tw_38 tcTab_keep) rfl rfl rfl (by decide +kernel) ⟨Nat.le_of_ble_eq_true rfl, Nat.le_of_ble_eq_true rfl⟩) (sx_pV hK hX hS hPc hDc hFc (va_recv hK hPc (ci := 2) (q0 := 1) rfl rfl)) rfl rfl hl.1 rfl (lv_room (Nat.le_of_ble_eq_true rfl)) dTab_fill_26 ⟨Nat.le_of_ble_eq_true rfl, Nat.le_of_ble_eq_true rfl⟩) hS (fun q _ h => hFc q h) hFc (fun u_ t_ H locs ht hvm hw hB hz1 hk1 hS => ?_)
      obtain ⟨hP1, -, hD1⟩ := hB
      rw [ht] at hP1
      obtain ⟨hP, hD⟩ := va_join (wr := [(a_net_nextLiterals, .inl (cI, 8, .inl net_nextLiterals)), (a_tab_nextStates, .inl (cI, 4096, .inl tab_nextStates)), (a_net_ranks, .inl (cI, 60, .inl net_ranks)), (a_net_sorts, .inl (cI, 60, .inl net_sorts)), (a_net_starts, .inl (cI, 61, .inl net_starts)), (a_net_literals, .inl (cI, 240, .inl net_literals))]) (w1 := [(h_net, .inr (0, [.ref a_net_sorts, .ref a_net_ranks, .ref a_net_starts, .ref a_net_literals, .ref a_net_nextLiterals, .ref a_net_outputs, .int net_gateTotal, .int net_inputTotal, .int net_latchTotal, .int net_outputTotal])), (h_tab, .inr (2, [.ref a_tab_known, .ref a_tab_settled, .ref a_tab_values, .ref a_tab_nextStates])), (a_tab_known, .inl (cL, 120, .inr (.inl v6))), (a_tab_settled, .inl (cL, 64, .inr (.inl v8.1))), (a_tab_values, .inl (cL, 3840, .inr (.inl v8.2)))]) hP hD [5, 6, 10, 1, 2] [0, 3, 4, 7, 8, 9] rfl rfl (by decide) (by decide) hk1 hFc hP1 hD1
      have hP : va_P (dC, dI) vwCl [(a_net_nextLiterals, .inl (cI, 8, .inl net_nextLiterals)), (a_tab_nextStates, .inl (cI, 4096, .inl tab_nextStates)), (a_net_ranks, .inl (cI, 60, .inl net_ranks)), (a_net_sorts, .inl (cI, 60, .inl net_sorts)), (a_net_starts, .inl (cI, 61, .inl net_starts)), (a_net_literals, .inl (cI, 240, .inl net_literals)), (h_net, .inr (0, [.ref a_net_sorts, .ref a_net_ranks, .ref a_net_starts, .ref a_net_literals, .ref a_net_nextLiterals, .ref a_net_outputs, .int net_gateTotal, .int net_inputTotal, .int net_latchTotal, .int net_outputTotal])), (h_tab, .inr (2, [.ref a_tab_known, .ref a_tab_settled, .ref a_tab_values, .ref a_tab_nextStates])), (a_tab_known, .inl (cL, 120, .inr (.inl v6))), (a_tab_settled, .inl (cL, 64, .inr (.inl v8.1))), (a_tab_values, .inl (cL, 3840, .inr (.inl v8.2)))] H := hP
      have hD : va_D A [(a_net_nextLiterals, .inl (cI, 8, .inl net_nextLiterals)), (a_tab_nextStates, .inl (cI, 4096, .inl tab_nextStates)), (a_net_ranks, .inl (cI, 60, .inl net_ranks)), (a_net_sorts, .inl (cI, 60, .inl net_sorts)), (a_net_starts, .inl (cI, 61, .inl net_starts)), (a_net_literals, .inl (cI, 240, .inl net_literals)), (h_net, .inr (0, [.ref a_net_sorts, .ref a_net_ranks, .ref a_net_starts, .ref a_net_literals, .ref a_net_nextLiterals, .ref a_net_outputs, .int net_gateTotal, .int net_inputTotal, .int net_latchTotal, .int net_outputTotal])), (h_tab, .inr (2, [.ref a_tab_known, .ref a_tab_settled, .ref a_tab_values, .ref a_tab_nextStates])), (a_tab_known, .inl (cL, 120, .inr (.inl v6))), (a_tab_settled, .inl (cL, 64, .inr (.inl v8.1))), (a_tab_values, .inl (cL, 3840, .inr (.inl v8.2)))] := hD
      refine lv_iinc (v := x3 + (1 : Int32)) (lv' := [(3, .int (x3 + (1 : Int32))), (0, .ref h_tab), (1, .ref h_net), (2, .int x2)]) hx hb dTab_fill_29 hl (k := 3) rfl rfl (by decide) rfl (fun ls hl => ?_)
      refine lv_goto (tgt := 7) hx hb dTab_fill_32 (by decide) ?_
      exact ih (x3 + (1 : Int32)) v6 v8.1 v8.2 r hm _ _ _ (hP.sub (ws' := [(h_net, .inr (0, [.ref a_net_sorts, .ref a_net_ranks, .ref a_net_starts, .ref a_net_literals, .ref a_net_nextLiterals, .ref a_net_outputs, .int net_gateTotal, .int net_inputTotal, .int net_latchTotal, .int net_outputTotal])), (h_tab, .inr (2, [.ref a_tab_known, .ref a_tab_settled, .ref a_tab_values, .ref a_tab_nextStates])), (a_net_sorts, .inl (cI, 60, .inl net_sorts)), (a_net_ranks, .inl (cI, 60, .inl net_ranks)), (a_net_starts, .inl (cI, 61, .inl net_starts)), (a_net_literals, .inl (cI, 240, .inl net_literals)), (a_net_nextLiterals, .inl (cI, 8, .inl net_nextLiterals)), (a_tab_known, .inl (cL, 120, .inr (.inl v6))), (a_tab_settled, .inl (cL, 64, .inr (.inl v8.1))), (a_tab_values, .inl (cL, 3840, .inr (.inl v8.2))), (a_tab_nextStates, .inl (cI, 4096, .inl tab_nextStates))]) [6, 7, 3, 2, 4, 5, 0, 8, 9, 10, 1] rfl) (hD.sub (ws' := [(h_net, .inr (0, [.ref a_net_sorts, .ref a_net_ranks, .ref a_net_starts, .ref a_net_literals, .ref a_net_nextLiterals, .ref a_net_outputs, .int net_gateTotal, .int net_inputTotal, .int net_latchTotal, .int net_outputTotal])), (h_tab, .inr (2, [.ref a_tab_known, .ref a_tab_settled, .ref a_tab_values, .ref a_tab_nextStates])), (a_net_sorts, .inl (cI, 60, .inl net_sorts)), (a_net_ranks, .inl (cI, 60, .inl net_ranks)), (a_net_starts, .inl (cI, 61, .inl net_starts)), (a_net_literals, .inl (cI, 240, .inl net_literals)), (a_net_nextLiterals, .inl (cI, 8, .inl net_nextLiterals)), (a_tab_known, .inl (cL, 120, .inr (.inl v6))), (a_tab_settled, .inl (cL, 64, .inr (.inl v8.1))), (a_tab_values, .inl (cL, 3840, .inr (.inl v8.2))), (a_tab_nextStates, .inl (cI, 4096, .inl tab_nextStates))]) [6, 7, 3, 2, 4, 5, 0, 8, 9, 10, 1] (by decide) rfl) hS (lv_sub hl [1, 2, 3, 0] rfl) k1
set_option maxHeartbeats 4000000 in
set_option maxRecDepth 100000 in
theorem w_Tab_fill_58 {p : Program} {l : Launch} {e : Env} {s : State} {m : MethodId} {args : Array Value} {below : List Frame} {meth : Method} {c : Code} {dC : Nat → ClassId} {dI : Nat → Nat → Nat} {cI cL cZ : ClassId} {A : Nat → Prop} {Q : State → Prop} {t1 t2 : Nat} (C0 : sx_C p s m args meth c cTab_fill 7 "StateExplorer$Table" A (dC, dI) [(cI, .int), (cL, .long), (cZ, .boolean)] t1 t2) (h_net a_net_sorts a_net_ranks a_net_starts a_net_literals a_net_nextLiterals a_net_outputs h_tab a_tab_known a_tab_settled a_tab_values a_tab_nextStates : Nat) (net_sorts net_ranks net_starts net_literals net_nextLiterals : Nat → Int32) (net_gateTotal net_inputTotal net_latchTotal net_outputTotal : Int32) (tab_known tab_settled tab_values : Nat → Int64) (x3 : Int32) (x4 : Int32) (x5 : Int32) :
    ∀ (n : Nat) (x6 : Int32) (tab_nextStates : Nat → Int32) (r : (Nat → Int32)), L_Tab_fill_58 net_nextLiterals net_latchTotal tab_settled tab_values x4 x5 n x6 tab_nextStates = some r → ∀ (H : Heap) (locs : List Loc) (ls : Array Slot), va_P (dC, dI) vwCl [(h_net, .inr (0, [.ref a_net_sorts, .ref a_net_ranks, .ref a_net_starts, .ref a_net_literals, .ref a_net_nextLiterals, .ref a_net_outputs, .int net_gateTotal, .int net_inputTotal, .int net_latchTotal, .int net_outputTotal])), (h_tab, .inr (2, [.ref a_tab_known, .ref a_tab_settled, .ref a_tab_values, .ref a_tab_nextStates])), (a_net_sorts, .inl (cI, 60, .inl net_sorts)), (a_net_ranks, .inl (cI, 60, .inl net_ranks)), (a_net_starts, .inl (cI, 61, .inl net_starts)), (a_net_literals, .inl (cI, 240, .inl net_literals)), (a_net_nextLiterals, .inl (cI, 8, .inl net_nextLiterals)), (a_tab_known, .inl (cL, 120, .inr (.inl tab_known))), (a_tab_settled, .inl (cL, 64, .inr (.inl tab_settled))), (a_tab_values, .inl (cL, 3840, .inr (.inl tab_values))), (a_tab_nextStates, .inl (cI, 4096, .inl tab_nextStates))] H → va_D A [(h_net, .inr (0, [.ref a_net_sorts, .ref a_net_ranks, .ref a_net_starts, .ref a_net_literals, .ref a_net_nextLiterals, .ref a_net_outputs, .int net_gateTotal, .int net_inputTotal, .int net_latchTotal, .int net_outputTotal])), (h_tab, .inr (2, [.ref a_tab_known, .ref a_tab_settled, .ref a_tab_values, .ref a_tab_nextStates])), (a_net_sorts, .inl (cI, 60, .inl net_sorts)), (a_net_ranks, .inl (cI, 60, .inl net_ranks)), (a_net_starts, .inl (cI, 61, .inl net_starts)), (a_net_literals, .inl (cI, 240, .inl net_literals)), (a_net_nextLiterals, .inl (cI, 8, .inl net_nextLiterals)), (a_tab_known, .inl (cL, 120, .inr (.inl tab_known))), (a_tab_settled, .inl (cL, 64, .inr (.inl tab_settled))), (a_tab_values, .inl (cL, 3840, .inr (.inl tab_values))), (a_tab_nextStates, .inl (cI, 4096, .inl tab_nextStates))] → va_S A s.heap H locs → lv_has ls 7 [(0, .ref h_tab), (1, .ref h_net), (3, .int x3), (4, .int x4), (5, .int x5), (6, .int x6)] →
    (∀ (H : Heap) (locs : List Loc) (ls : Array Slot), va_P (dC, dI) vwCl [(h_net, .inr (0, [.ref a_net_sorts, .ref a_net_ranks, .ref a_net_starts, .ref a_net_literals, .ref a_net_nextLiterals, .ref a_net_outputs, .int net_gateTotal, .int net_inputTotal, .int net_latchTotal, .int net_outputTotal])), (h_tab, .inr (2, [.ref a_tab_known, .ref a_tab_settled, .ref a_tab_values, .ref a_tab_nextStates])), (a_net_sorts, .inl (cI, 60, .inl net_sorts)), (a_net_ranks, .inl (cI, 60, .inl net_ranks)), (a_net_starts, .inl (cI, 61, .inl net_starts)), (a_net_literals, .inl (cI, 240, .inl net_literals)), (a_net_nextLiterals, .inl (cI, 8, .inl net_nextLiterals)), (a_tab_known, .inl (cL, 120, .inr (.inl tab_known))), (a_tab_settled, .inl (cL, 64, .inr (.inl tab_settled))), (a_tab_values, .inl (cL, 3840, .inr (.inl tab_values))), (a_tab_nextStates, .inl (cI, 4096, .inl r))] H → va_D A [(h_net, .inr (0, [.ref a_net_sorts, .ref a_net_ranks, .ref a_net_starts, .ref a_net_literals, .ref a_net_nextLiterals, .ref a_net_outputs, .int net_gateTotal, .int net_inputTotal, .int net_latchTotal, .int net_outputTotal])), (h_tab, .inr (2, [.ref a_tab_known, .ref a_tab_settled, .ref a_tab_values, .ref a_tab_nextStates])), (a_net_sorts, .inl (cI, 60, .inl net_sorts)), (a_net_ranks, .inl (cI, 60, .inl net_ranks)), (a_net_starts, .inl (cI, 61, .inl net_starts)), (a_net_literals, .inl (cI, 240, .inl net_literals)), (a_net_nextLiterals, .inl (cI, 8, .inl net_nextLiterals)), (a_tab_known, .inl (cL, 120, .inr (.inl tab_known))), (a_tab_settled, .inl (cL, 64, .inr (.inl tab_settled))), (a_tab_values, .inl (cL, 3840, .inr (.inl tab_values))), (a_tab_nextStates, .inl (cI, 4096, .inl r))] → va_S A s.heap H locs → lv_has ls 7 [(0, .ref h_tab), (1, .ref h_net), (3, .int x3), (4, .int x4), (5, .int x5)] → W p l e (headSpec wsTab_fill rm_Tab_fill).room s m args below meth c H locs 0 0 Q (F0 m 93 ls [])) →
    W p l e (headSpec wsTab_fill rm_Tab_fill).room s m args below meth c H locs 0 0 Q (F0 m 58 ls []) := by
  obtain ⟨hx, hb, hml, hown, hts, hA, hK, hlocks, hX⟩ := id C0
  intro n
  induction n with
  | zero => intro x6 tab_nextStates r hm; rw [L_Tab_fill_58] at hm; cases hm
  | succ n ih =>
    intro x6 tab_nextStates r hm H locs ls hP hD hS hl k1
    rw [L_Tab_fill_58] at hm
    refine lv_iload hx hb dTab_fill_58 (lv_at hl 5 rfl) ?_
    refine lv_iload hx hb dTab_fill_60 (lv_at hl 3 rfl) ?_
    refine lv_icmp_ge (tgt := 93) hx hb dTab_fill_62 (by decide) (fun c16 => ?_) (fun c16 => ?_)
    · have hm := sx_pos c16 hm
      obtain rfl := Option.some.inj hm
      exact k1 _ _ _ hP hD hS (lv_sub hl [0, 1, 2, 3, 4] rfl)
    · have hm := sx_neg c16 hm
      refine lv_aload_n hx hb dTab_fill_65 rfl (lv_at hl 0 rfl) ?_
      refine va_get (D := (dC, dI)) (ci := 2) (v := .ref a_tab_nextStates) (C := RTab) (T := TTab) (N := 4) hx hb hts inTab hown hK hP 1 rfl rfl 3 (by decide) (hts _ tw_118) (fun _ h9 => h9) rfl dTab_fill_66 ?_
      refine lv_iload hx hb dTab_fill_69 (lv_at hl 4 rfl) ?_
      refine lv_bipush (v := (16 : Int32)) hx hb dTab_fill_71 (by decide) ?_
      refine lv_imul hx hb dTab_fill_73 ?_
      refine lv_iload hx hb dTab_fill_74 (lv_at hl 5 rfl) ?_
      refine lv_iadd hx hb dTab_fill_76 ?_
      refine lv_aload_n hx hb dTab_fill_77 rfl (lv_at hl 0 rfl) ?_
      refine lv_aload_n hx hb dTab_fill_78 rfl (lv_at hl 1 rfl) ?_
      refine lv_iload hx hb dTab_fill_79 (lv_at hl 4 rfl) ?_
      refine lv_iload hx hb dTab_fill_81 (lv_at hl 5 rfl) ?_
      obtain ⟨v17, hv17, hm⟩ := sx_bind hm
      have hPc := hP.sub (ws' := [(h_net, .inr (0, [.ref a_net_sorts, .ref a_net_ranks, .ref a_net_starts, .ref a_net_literals, .ref a_net_nextLiterals, .ref a_net_outputs, .int net_gateTotal, .int net_inputTotal, .int net_latchTotal, .int net_outputTotal])), (h_tab, .inr (2, [.ref a_tab_known, .ref a_tab_settled, .ref a_tab_values, .ref a_tab_nextStates])), (a_net_nextLiterals, .inl (cI, 8, .inl net_nextLiterals)), (a_tab_settled, .inl (cL, 64, .inr (.inl tab_settled))), (a_tab_values, .inl (cL, 3840, .inr (.inl tab_values)))]) [0, 1, 6, 8, 9] rfl
      have hDc := hD.sub (ws' := [(h_net, .inr (0, [.ref a_net_sorts, .ref a_net_ranks, .ref a_net_starts, .ref a_net_literals, .ref a_net_nextLiterals, .ref a_net_outputs, .int net_gateTotal, .int net_inputTotal, .int net_latchTotal, .int net_outputTotal])), (h_tab, .inr (2, [.ref a_tab_known, .ref a_tab_settled, .ref a_tab_values, .ref a_tab_nextStates])), (a_net_nextLiterals, .inl (cI, 8, .inl net_nextLiterals)), (a_tab_settled, .inl (cL, 64, .inr (.inl tab_settled))), (a_tab_values, .inl (cL, 3840, .inr (.inl tab_values)))]) [0, 1, 6, 8, 9] (by decide) rfl
      have hFc := va_free (wc := [(h_net, .inr (0, [.ref a_net_sorts, .ref a_net_ranks, .ref a_net_starts, .ref a_net_literals, .ref a_net_nextLiterals, .ref a_net_outputs, .int net_gateTotal, .int net_inputTotal, .int net_latchTotal, .int net_outputTotal])), (h_tab, .inr (2, [.ref a_tab_known, .ref a_tab_settled, .ref a_tab_values, .ref a_tab_nextStates])), (a_net_nextLiterals, .inl (cI, 8, .inl net_nextLiterals)), (a_tab_settled, .inl (cL, 64, .inr (.inl tab_settled))), (a_tab_values, .inl (cL, 3840, .inr (.inl tab_values)))]) hD hS hA [0, 1, 6, 8, 9] rfl
      refine sx_stI (va_runV (As := [.ref h_net, .int x5, .int x6]) (rest := [.int ((x5 * (16 : Int32)) + x6), .ref a_tab_nextStates]) ⟨hx, hb, hml, hown, hts⟩ (k_Tab_findNext l dC dI cI cL cZ t1 t2 h_net a_net_sorts a_net_ranks a_net_starts a_net_literals a_net_nextLiterals a_net_outputs h_tab a_tab_known a_tab_settled a_tab_values a_tab_nextStates net_nextLiterals net_gateTotal net_inputTotal net_latchTotal net_outputTotal tab_settled tab_values _ x5 x6 v17 hv17) (cwV 3 hts (sx_gV tw_273 tw_275 tw_6 tw_38 tcTab_findNext) rfl rfl rfl (by decide +kernel) ⟨Nat.le_of_ble_eq_true rfl, Nat.le_of_ble_eq_true rfl⟩) (sx_pV hK hX hS hPc hDc hFc (va_recv hK hPc (ci := 2) (q0 := 1) rfl rfl)) rfl rfl hl.1 rfl (lv_room (Nat.le_of_ble_eq_true rfl)) dTab_fill_83 ⟨Nat.le_of_ble_eq_true rfl, Nat.le_of_ble_eq_true rfl⟩) ?_
      obtain ⟨g19, hm⟩ := gd_el hm
      refine va_iast hx hb hK hP hD hS 10 0 rfl rfl g19 dTab_fill_86 (fun H locs hP hD hS => ?_)
      have hP : va_P (dC, dI) vwCl [(h_net, .inr (0, [.ref a_net_sorts, .ref a_net_ranks, .ref a_net_starts, .ref a_net_literals, .ref a_net_nextLiterals, .ref a_net_outputs, .int net_gateTotal, .int net_inputTotal, .int net_latchTotal, .int net_outputTotal])), (h_tab, .inr (2, [.ref a_tab_known, .ref a_tab_settled, .ref a_tab_values, .ref a_tab_nextStates])), (a_net_sorts, .inl (cI, 60, .inl net_sorts)), (a_net_ranks, .inl (cI, 60, .inl net_ranks)), (a_net_starts, .inl (cI, 61, .inl net_starts)), (a_net_literals, .inl (cI, 240, .inl net_literals)), (a_net_nextLiterals, .inl (cI, 8, .inl net_nextLiterals)), (a_tab_known, .inl (cL, 120, .inr (.inl tab_known))), (a_tab_settled, .inl (cL, 64, .inr (.inl tab_settled))), (a_tab_values, .inl (cL, 3840, .inr (.inl tab_values))), (a_tab_nextStates, .inl (cI, 4096, .inl (upd tab_nextStates ((x5 * (16 : Int32)) + x6).toNatClampNeg v17)))] H := hP
      have hD : va_D A [(h_net, .inr (0, [.ref a_net_sorts, .ref a_net_ranks, .ref a_net_starts, .ref a_net_literals, .ref a_net_nextLiterals, .ref a_net_outputs, .int net_gateTotal, .int net_inputTotal, .int net_latchTotal, .int net_outputTotal])), (h_tab, .inr (2, [.ref a_tab_known, .ref a_tab_settled, .ref a_tab_values, .ref a_tab_nextStates])), (a_net_sorts, .inl (cI, 60, .inl net_sorts)), (a_net_ranks, .inl (cI, 60, .inl net_ranks)), (a_net_starts, .inl (cI, 61, .inl net_starts)), (a_net_literals, .inl (cI, 240, .inl net_literals)), (a_net_nextLiterals, .inl (cI, 8, .inl net_nextLiterals)), (a_tab_known, .inl (cL, 120, .inr (.inl tab_known))), (a_tab_settled, .inl (cL, 64, .inr (.inl tab_settled))), (a_tab_values, .inl (cL, 3840, .inr (.inl tab_values))), (a_tab_nextStates, .inl (cI, 4096, .inl (upd tab_nextStates ((x5 * (16 : Int32)) + x6).toNatClampNeg v17)))] := hD
      refine lv_iinc (v := x6 + (1 : Int32)) (lv' := [(6, .int (x6 + (1 : Int32))), (0, .ref h_tab), (1, .ref h_net), (3, .int x3), (4, .int x4), (5, .int x5)]) hx hb dTab_fill_87 hl (k := 5) rfl rfl (by decide) rfl (fun ls hl => ?_)
      refine lv_goto (tgt := 58) hx hb dTab_fill_90 (by decide) ?_
      exact ih (x6 + (1 : Int32)) (upd tab_nextStates ((x5 * (16 : Int32)) + x6).toNatClampNeg v17) r hm _ _ _ hP hD hS (lv_sub hl [1, 2, 3, 4, 5, 0] rfl) k1
set_option maxHeartbeats 4000000 in
set_option maxRecDepth 100000 in
theorem w_Tab_fill_49 {p : Program} {l : Launch} {e : Env} {s : State} {m : MethodId} {args : Array Value} {below : List Frame} {meth : Method} {c : Code} {dC : Nat → ClassId} {dI : Nat → Nat → Nat} {cI cL cZ : ClassId} {A : Nat → Prop} {Q : State → Prop} {t1 t2 : Nat} (C0 : sx_C p s m args meth c cTab_fill 7 "StateExplorer$Table" A (dC, dI) [(cI, .int), (cL, .long), (cZ, .boolean)] t1 t2) (h_net a_net_sorts a_net_ranks a_net_starts a_net_literals a_net_nextLiterals a_net_outputs h_tab a_tab_known a_tab_settled a_tab_values a_tab_nextStates : Nat) (net_sorts net_ranks net_starts net_literals net_nextLiterals : Nat → Int32) (net_gateTotal net_inputTotal net_latchTotal net_outputTotal : Int32) (tab_known tab_settled tab_values : Nat → Int64) (x3 : Int32) (x4 : Int32) :
    ∀ (n : Nat) (x5 : Int32) (tab_nextStates : Nat → Int32) (r : (Nat → Int32)), L_Tab_fill_49 net_nextLiterals net_latchTotal tab_settled tab_values x3 x4 n x5 tab_nextStates = some r → ∀ (H : Heap) (locs : List Loc) (ls : Array Slot), va_P (dC, dI) vwCl [(h_net, .inr (0, [.ref a_net_sorts, .ref a_net_ranks, .ref a_net_starts, .ref a_net_literals, .ref a_net_nextLiterals, .ref a_net_outputs, .int net_gateTotal, .int net_inputTotal, .int net_latchTotal, .int net_outputTotal])), (h_tab, .inr (2, [.ref a_tab_known, .ref a_tab_settled, .ref a_tab_values, .ref a_tab_nextStates])), (a_net_sorts, .inl (cI, 60, .inl net_sorts)), (a_net_ranks, .inl (cI, 60, .inl net_ranks)), (a_net_starts, .inl (cI, 61, .inl net_starts)), (a_net_literals, .inl (cI, 240, .inl net_literals)), (a_net_nextLiterals, .inl (cI, 8, .inl net_nextLiterals)), (a_tab_known, .inl (cL, 120, .inr (.inl tab_known))), (a_tab_settled, .inl (cL, 64, .inr (.inl tab_settled))), (a_tab_values, .inl (cL, 3840, .inr (.inl tab_values))), (a_tab_nextStates, .inl (cI, 4096, .inl tab_nextStates))] H → va_D A [(h_net, .inr (0, [.ref a_net_sorts, .ref a_net_ranks, .ref a_net_starts, .ref a_net_literals, .ref a_net_nextLiterals, .ref a_net_outputs, .int net_gateTotal, .int net_inputTotal, .int net_latchTotal, .int net_outputTotal])), (h_tab, .inr (2, [.ref a_tab_known, .ref a_tab_settled, .ref a_tab_values, .ref a_tab_nextStates])), (a_net_sorts, .inl (cI, 60, .inl net_sorts)), (a_net_ranks, .inl (cI, 60, .inl net_ranks)), (a_net_starts, .inl (cI, 61, .inl net_starts)), (a_net_literals, .inl (cI, 240, .inl net_literals)), (a_net_nextLiterals, .inl (cI, 8, .inl net_nextLiterals)), (a_tab_known, .inl (cL, 120, .inr (.inl tab_known))), (a_tab_settled, .inl (cL, 64, .inr (.inl tab_settled))), (a_tab_values, .inl (cL, 3840, .inr (.inl tab_values))), (a_tab_nextStates, .inl (cI, 4096, .inl tab_nextStates))] → va_S A s.heap H locs → lv_has ls 7 [(0, .ref h_tab), (1, .ref h_net), (3, .int x3), (4, .int x4), (5, .int x5)] →
    (∀ (H : Heap) (locs : List Loc) (ls : Array Slot), va_P (dC, dI) vwCl [(h_net, .inr (0, [.ref a_net_sorts, .ref a_net_ranks, .ref a_net_starts, .ref a_net_literals, .ref a_net_nextLiterals, .ref a_net_outputs, .int net_gateTotal, .int net_inputTotal, .int net_latchTotal, .int net_outputTotal])), (h_tab, .inr (2, [.ref a_tab_known, .ref a_tab_settled, .ref a_tab_values, .ref a_tab_nextStates])), (a_net_sorts, .inl (cI, 60, .inl net_sorts)), (a_net_ranks, .inl (cI, 60, .inl net_ranks)), (a_net_starts, .inl (cI, 61, .inl net_starts)), (a_net_literals, .inl (cI, 240, .inl net_literals)), (a_net_nextLiterals, .inl (cI, 8, .inl net_nextLiterals)), (a_tab_known, .inl (cL, 120, .inr (.inl tab_known))), (a_tab_settled, .inl (cL, 64, .inr (.inl tab_settled))), (a_tab_values, .inl (cL, 3840, .inr (.inl tab_values))), (a_tab_nextStates, .inl (cI, 4096, .inl r))] H → va_D A [(h_net, .inr (0, [.ref a_net_sorts, .ref a_net_ranks, .ref a_net_starts, .ref a_net_literals, .ref a_net_nextLiterals, .ref a_net_outputs, .int net_gateTotal, .int net_inputTotal, .int net_latchTotal, .int net_outputTotal])), (h_tab, .inr (2, [.ref a_tab_known, .ref a_tab_settled, .ref a_tab_values, .ref a_tab_nextStates])), (a_net_sorts, .inl (cI, 60, .inl net_sorts)), (a_net_ranks, .inl (cI, 60, .inl net_ranks)), (a_net_starts, .inl (cI, 61, .inl net_starts)), (a_net_literals, .inl (cI, 240, .inl net_literals)), (a_net_nextLiterals, .inl (cI, 8, .inl net_nextLiterals)), (a_tab_known, .inl (cL, 120, .inr (.inl tab_known))), (a_tab_settled, .inl (cL, 64, .inr (.inl tab_settled))), (a_tab_values, .inl (cL, 3840, .inr (.inl tab_values))), (a_tab_nextStates, .inl (cI, 4096, .inl r))] → va_S A s.heap H locs → lv_has ls 7 [] → W p l e (headSpec wsTab_fill rm_Tab_fill).room s m args below meth c H locs 0 0 Q (F0 m 99 ls [])) →
    W p l e (headSpec wsTab_fill rm_Tab_fill).room s m args below meth c H locs 0 0 Q (F0 m 49 ls []) := by
  obtain ⟨hx, hb, hml, hown, hts, hA, hK, hlocks, hX⟩ := id C0
  intro n
  induction n with
  | zero => intro x5 tab_nextStates r hm; rw [L_Tab_fill_49] at hm; cases hm
  | succ n ih =>
    intro x5 tab_nextStates r hm H locs ls hP hD hS hl k1
    rw [L_Tab_fill_49] at hm
    refine lv_iload hx hb dTab_fill_49 (lv_at hl 4 rfl) ?_
    refine lv_iload_n hx hb dTab_fill_51 rfl (lv_at hl 2 rfl) ?_
    refine lv_icmp_ge (tgt := 99) hx hb dTab_fill_52 (by decide) (fun c15 => ?_) (fun c15 => ?_)
    · have hm := sx_pos c15 hm
      obtain rfl := Option.some.inj hm
      exact k1 _ _ _ hP hD hS (lv_sub hl [] rfl)
    · have hm := sx_neg c15 hm
      refine lv_iconst (v := (0 : Int32)) hx hb dTab_fill_55 (by decide) ?_
      refine lv_istore (lv' := [(6, .int (0 : Int32)), (0, .ref h_tab), (1, .ref h_net), (3, .int x3), (4, .int x4), (5, .int x5)]) hx hb dTab_fill_56 hl (by decide) rfl (fun ls hl => ?_)
      obtain ⟨v20, hv20, hm⟩ := sx_bind hm
      refine w_Tab_fill_58 C0 h_net a_net_sorts a_net_ranks a_net_starts a_net_literals a_net_nextLiterals a_net_outputs h_tab a_tab_known a_tab_settled a_tab_values a_tab_nextStates net_sorts net_ranks net_starts net_literals net_nextLiterals net_gateTotal net_inputTotal net_latchTotal net_outputTotal tab_known tab_settled tab_values x3 x4 x5 _ (0 : Int32) tab_nextStates v20 hv20 _ _ _ hP hD hS (lv_sub hl [1, 2, 3, 4, 5, 0] rfl) ?_
      intro H locs ls hP hD hS hl
      refine lv_iinc (v := x5 + (1 : Int32)) (lv' := [(5, .int (x5 + (1 : Int32))), (0, .ref h_tab), (1, .ref h_net), (3, .int x3), (4, .int x4)]) hx hb dTab_fill_93 hl (k := 4) rfl rfl (by decide) rfl (fun ls hl => ?_)
      refine lv_goto (tgt := 49) hx hb dTab_fill_96 (by decide) ?_
      exact ih (x5 + (1 : Int32)) v20 r hm _ _ _ hP hD hS (lv_sub hl [1, 2, 3, 4, 0] rfl) k1
set_option maxHeartbeats 4000000 in
set_option maxRecDepth 100000 in
theorem k_Tab_fill (l : Launch) (dC : Nat → ClassId) (dI : Nat → Nat → Nat) (cI cL cZ : ClassId) (t1 t2 : Nat) (h_net a_net_sorts a_net_ranks a_net_starts a_net_literals a_net_nextLiterals a_net_outputs h_tab a_tab_known a_tab_settled a_tab_values a_tab_nextStates : Nat) (net_sorts net_ranks net_starts net_literals net_nextLiterals : Nat → Int32) (net_gateTotal net_inputTotal net_latchTotal net_outputTotal : Int32) (tab_known tab_settled tab_values : Nat → Int64) (tab_nextStates : Nat → Int32) (sz : Nat)  (v : (Nat → Int64) × (Nat → Int64) × (Nat → Int64) × (Nat → Int32)) (hm : m_Tab_fill net_sorts net_ranks net_starts net_literals net_nextLiterals net_gateTotal net_inputTotal net_latchTotal tab_known tab_settled tab_values tab_nextStates = some v) : Met l yTab_fill wsTab_fill rm_Tab_fill (sx_Pc (dC, dI) [(cI, .int), (cL, .long), (cZ, .boolean)] t1 t2 [(h_net, .inr (0, [.ref a_net_sorts, .ref a_net_ranks, .ref a_net_starts, .ref a_net_literals, .ref a_net_nextLiterals, .ref a_net_outputs, .int net_gateTotal, .int net_inputTotal, .int net_latchTotal, .int net_outputTotal])), (h_tab, .inr (2, [.ref a_tab_known, .ref a_tab_settled, .ref a_tab_values, .ref a_tab_nextStates])), (a_net_sorts, .inl (cI, 60, .inl net_sorts)), (a_net_ranks, .inl (cI, 60, .inl net_ranks)), (a_net_starts, .inl (cI, 61, .inl net_starts)), (a_net_literals, .inl (cI, 240, .inl net_literals)), (a_net_nextLiterals, .inl (cI, 8, .inl net_nextLiterals)), (a_tab_known, .inl (cL, 120, .inr (.inl tab_known))), (a_tab_settled, .inl (cL, 64, .inr (.inl tab_settled))), (a_tab_values, .inl (cL, 3840, .inr (.inl tab_values))), (a_tab_nextStates, .inl (cI, 4096, .inl tab_nextStates))] sz [.ref h_tab, .ref h_net]) (va_Qv (fun (_ : Unit) => True) (fun _ t => sx_W (dC, dI) [(cI, .int), (cL, .long), (cZ, .boolean)] (va_A [(h_net, .inr (0, [.ref a_net_sorts, .ref a_net_ranks, .ref a_net_starts, .ref a_net_literals, .ref a_net_nextLiterals, .ref a_net_outputs, .int net_gateTotal, .int net_inputTotal, .int net_latchTotal, .int net_outputTotal])), (h_tab, .inr (2, [.ref a_tab_known, .ref a_tab_settled, .ref a_tab_values, .ref a_tab_nextStates])), (a_net_sorts, .inl (cI, 60, .inl net_sorts)), (a_net_ranks, .inl (cI, 60, .inl net_ranks)), (a_net_starts, .inl (cI, 61, .inl net_starts)), (a_net_literals, .inl (cI, 240, .inl net_literals)), (a_net_nextLiterals, .inl (cI, 8, .inl net_nextLiterals)), (a_tab_known, .inl (cL, 120, .inr (.inl tab_known))), (a_tab_settled, .inl (cL, 64, .inr (.inl tab_settled))), (a_tab_values, .inl (cL, 3840, .inr (.inl tab_values))), (a_tab_nextStates, .inl (cI, 4096, .inl tab_nextStates))] sz) [(h_net, .inr (0, [.ref a_net_sorts, .ref a_net_ranks, .ref a_net_starts, .ref a_net_literals, .ref a_net_nextLiterals, .ref a_net_outputs, .int net_gateTotal, .int net_inputTotal, .int net_latchTotal, .int net_outputTotal])), (h_tab, .inr (2, [.ref a_tab_known, .ref a_tab_settled, .ref a_tab_values, .ref a_tab_nextStates])), (a_net_sorts, .inl (cI, 60, .inl net_sorts)), (a_net_ranks, .inl (cI, 60, .inl net_ranks)), (a_net_starts, .inl (cI, 61, .inl net_starts)), (a_net_literals, .inl (cI, 240, .inl net_literals)), (a_net_nextLiterals, .inl (cI, 8, .inl net_nextLiterals)), (a_tab_known, .inl (cL, 120, .inr (.inl v.1))), (a_tab_settled, .inl (cL, 64, .inr (.inl v.2.1))), (a_tab_values, .inl (cL, 3840, .inr (.inl v.2.2.1))), (a_tab_nextStates, .inl (cI, 4096, .inl v.2.2.2))] t) (va_A [(h_net, .inr (0, [.ref a_net_sorts, .ref a_net_ranks, .ref a_net_starts, .ref a_net_literals, .ref a_net_nextLiterals, .ref a_net_outputs, .int net_gateTotal, .int net_inputTotal, .int net_latchTotal, .int net_outputTotal])), (h_tab, .inr (2, [.ref a_tab_known, .ref a_tab_settled, .ref a_tab_values, .ref a_tab_nextStates])), (a_net_sorts, .inl (cI, 60, .inl net_sorts)), (a_net_ranks, .inl (cI, 60, .inl net_ranks)), (a_net_starts, .inl (cI, 61, .inl net_starts)), (a_net_literals, .inl (cI, 240, .inl net_literals)), (a_net_nextLiterals, .inl (cI, 8, .inl net_nextLiterals)), (a_tab_known, .inl (cL, 120, .inr (.inl tab_known))), (a_tab_settled, .inl (cL, 64, .inr (.inl tab_settled))), (a_tab_values, .inl (cL, 3840, .inr (.inl tab_values))), (a_tab_nextStates, .inl (cI, 4096, .inl tab_nextStates))] sz)) 0 0 (va_A [(h_net, .inr (0, [.ref a_net_sorts, .ref a_net_ranks, .ref a_net_starts, .ref a_net_literals, .ref a_net_nextLiterals, .ref a_net_outputs, .int net_gateTotal, .int net_inputTotal, .int net_latchTotal, .int net_outputTotal])), (h_tab, .inr (2, [.ref a_tab_known, .ref a_tab_settled, .ref a_tab_values, .ref a_tab_nextStates])), (a_net_sorts, .inl (cI, 60, .inl net_sorts)), (a_net_ranks, .inl (cI, 60, .inl net_ranks)), (a_net_starts, .inl (cI, 61, .inl net_starts)), (a_net_literals, .inl (cI, 240, .inl net_literals)), (a_net_nextLiterals, .inl (cI, 8, .inl net_nextLiterals)), (a_tab_known, .inl (cL, 120, .inr (.inl tab_known))), (a_tab_settled, .inl (cL, 64, .inr (.inl tab_settled))), (a_tab_values, .inl (cL, 3840, .inr (.inl tab_values))), (a_tab_nextStates, .inl (cI, 4096, .inl tab_nextStates))] sz) := by
  refine Met.ofW (cc := cTab_fill) (maxL := 7) (ret := none) (by decide) rfl ?_
  intro p e s m args below meth c s₁ B hml hv
  obtain ⟨rfl, hsz, hP, hK, hD0, hX⟩ := hv
  have hx := B.exec
  have hb := B.bytes
  have hr := B.returns
  have hts0 := atoms_spec (ws := wsTab_fill) B.pre
  have hts : ∀ w ∈ tb, w.before _ s = true := fun w h => hts0 w (List.mem_cons_of_mem _ h)
  have hown : s.vm.findClass "StateExplorer$Table" = some m.cls := findClass_of_methodNamed B.named
  have hlocks := B.notSynchronized
  subst hsz
  have hD := hD0.self (sz := s.heap.size)
  generalize hAe : va_A [(h_net, .inr (0, [.ref a_net_sorts, .ref a_net_ranks, .ref a_net_starts, .ref a_net_literals, .ref a_net_nextLiterals, .ref a_net_outputs, .int net_gateTotal, .int net_inputTotal, .int net_latchTotal, .int net_outputTotal])), (h_tab, .inr (2, [.ref a_tab_known, .ref a_tab_settled, .ref a_tab_values, .ref a_tab_nextStates])), (a_net_sorts, .inl (cI, 60, .inl net_sorts)), (a_net_ranks, .inl (cI, 60, .inl net_ranks)), (a_net_starts, .inl (cI, 61, .inl net_starts)), (a_net_literals, .inl (cI, 240, .inl net_literals)), (a_net_nextLiterals, .inl (cI, 8, .inl net_nextLiterals)), (a_tab_known, .inl (cL, 120, .inr (.inl tab_known))), (a_tab_settled, .inl (cL, 64, .inr (.inl tab_settled))), (a_tab_values, .inl (cL, 3840, .inr (.inl tab_values))), (a_tab_nextStates, .inl (cI, 4096, .inl tab_nextStates))] s.heap.size = A at hD hX ⊢
  have hA : ∀ q : Nat, s.heap.size ≤ q → A q := fun q h => by rw [← hAe]; exact Or.inr h
  have hS : va_S A s.heap s.heap [] := va_S.rf
  have hl := lv_entry ([.ref h_tab, .ref h_net]) (n := 7) (Nat.le_of_ble_eq_true rfl)
  rw [lg_entry_eq]
  generalize (lg_sl ([.ref h_tab, .ref h_net]) ++ List.replicate (7 - (lg_sl ([.ref h_tab, .ref h_net])).length) Slot.unset).toArray = ls at hl ⊢
  have hl : lv_has ls 7 [(0, .ref h_tab), (1, .ref h_net)] := hl
  have C0 : sx_C p s m _ meth c cTab_fill 7 "StateExplorer$Table" A (dC, dI) [(cI, .int), (cL, .long), (cZ, .boolean)] t1 t2 := ⟨hx, hb, hml, hown, hts, hA, hK, hlocks, hX⟩
  rw [m_Tab_fill] at hm
  refine lv_aload_n hx hb dTab_fill_0 rfl (lv_at hl 1 rfl) ?_
  obtain ⟨v1, hv1, hm⟩ := sx_bind hm
  have hPc := hP.sub (ws' := [(h_net, .inr (0, [.ref a_net_sorts, .ref a_net_ranks, .ref a_net_starts, .ref a_net_literals, .ref a_net_nextLiterals, .ref a_net_outputs, .int net_gateTotal, .int net_inputTotal, .int net_latchTotal, .int net_outputTotal]))]) [0] rfl
  have hDc := hD.sub (ws' := [(h_net, .inr (0, [.ref a_net_sorts, .ref a_net_ranks, .ref a_net_starts, .ref a_net_literals, .ref a_net_nextLiterals, .ref a_net_outputs, .int net_gateTotal, .int net_inputTotal, .int net_latchTotal, .int net_outputTotal]))]) [0] (by decide) rfl
  have hFc := va_free (wc := [(h_net, .inr (0, [.ref a_net_sorts, .ref a_net_ranks, .ref a_net_starts, .ref a_net_literals, .ref a_net_nextLiterals, .ref a_net_outputs, .int net_gateTotal, .int net_inputTotal, .int net_latchTotal, .int net_outputTotal]))]) hD hS hA [0] rfl
  refine sx_stI (va_runV (As := []) (rest := []) ⟨hx, hb, hml, hown, hts⟩ (k_Net_wordTotal l dC dI cI cL cZ t1 t2 h_net a_net_sorts a_net_ranks a_net_starts a_net_literals a_net_nextLiterals a_net_outputs net_gateTotal net_inputTotal net_latchTotal net_outputTotal _ v1 hv1) (cwV 0 hts (sx_gV tw_225 tw_226 tw_227 tw_37 tcNet_wordTotal) rfl rfl rfl (by decide +kernel) ⟨Nat.le_of_ble_eq_true rfl, Nat.le_of_ble_eq_true rfl⟩) (sx_pV hK hX hS hPc hDc hFc (va_recv hK hPc (ci := 0) (q0 := 0) rfl rfl)) rfl rfl hl.1 rfl (lv_room (Nat.le_of_ble_eq_true rfl)) dTab_fill_1 ⟨Nat.le_of_ble_eq_true rfl, Nat.le_of_ble_eq_true rfl⟩) ?_
  refine lv_istore_n (lv' := [(2, .int v1), (0, .ref h_tab), (1, .ref h_net)]) hx hb dTab_fill_4 rfl hl (by decide) rfl (fun ls hl => ?_)
  refine lv_iconst (v := (0 : Int32)) hx hb dTab_fill_5 (by decide) ?_
  refine lv_istore_n (lv' := [(3, .int (0 : Int32)), (2, .int v1), (0, .ref h_tab), (1, .ref h_net)]) hx hb dTab_fill_6 rfl hl (by decide) rfl (fun ls hl => ?_)
  obtain ⟨v10, hv10, hm⟩ := sx_bind hm
  refine w_Tab_fill_7 C0 h_net a_net_sorts a_net_ranks a_net_starts a_net_literals a_net_nextLiterals a_net_outputs h_tab a_tab_known a_tab_settled a_tab_values a_tab_nextStates net_sorts net_ranks net_starts net_literals net_nextLiterals net_gateTotal net_inputTotal net_latchTotal net_outputTotal tab_nextStates v1 _ (0 : Int32) tab_known tab_settled tab_values v10 hv10 _ _ _ hP hD hS (lv_sub hl [2, 3, 1, 0] rfl) ?_
  intro H locs ls hP hD hS hl
  refine lv_aload_n hx hb dTab_fill_35 rfl (lv_at hl 1 rfl) ?_
  obtain ⟨v11, hv11, hm⟩ := sx_bind hm
  have hPc := hP.sub (ws' := [(h_net, .inr (0, [.ref a_net_sorts, .ref a_net_ranks, .ref a_net_starts, .ref a_net_literals, .ref a_net_nextLiterals, .ref a_net_outputs, .int net_gateTotal, .int net_inputTotal, .int net_latchTotal, .int net_outputTotal]))]) [0] rfl
  have hDc := hD.sub (ws' := [(h_net, .inr (0, [.ref a_net_sorts, .ref a_net_ranks, .ref a_net_starts, .ref a_net_literals, .ref a_net_nextLiterals, .ref a_net_outputs, .int net_gateTotal, .int net_inputTotal, .int net_latchTotal, .int net_outputTotal]))]) [0] (by decide) rfl
  have hFc := va_free (wc := [(h_net, .inr (0, [.ref a_net_sorts, .ref a_net_ranks, .ref a_net_starts, .ref a_net_literals, .ref a_net_nextLiterals, .ref a_net_outputs, .int net_gateTotal, .int net_inputTotal, .int net_latchTotal, .int net_outputTotal]))]) hD hS hA [0] rfl
  refine sx_stI (va_runV (As := []) (rest := []) ⟨hx, hb, hml, hown, hts⟩ (k_Net_stateTotal l dC dI cI cL cZ t1 t2 h_net a_net_sorts a_net_ranks a_net_starts a_net_literals a_net_nextLiterals a_net_outputs net_gateTotal net_inputTotal net_latchTotal net_outputTotal _ v11 hv11) (cwV 0 hts (sx_gV tw_268 tw_230 tw_231 tw_37 tcNet_stateTotal) rfl rfl rfl (by decide +kernel) ⟨Nat.le_of_ble_eq_true rfl, Nat.le_of_ble_eq_true rfl⟩) (sx_pV hK hX hS hPc hDc hFc (va_recv hK hPc (ci := 0) (q0 := 0) rfl rfl)) rfl rfl hl.1 rfl (lv_room (Nat.le_of_ble_eq_true rfl)) dTab_fill_36 ⟨Nat.le_of_ble_eq_true rfl, Nat.le_of_ble_eq_true rfl⟩) ?_
  refine lv_istore_n (lv' := [(3, .int v11), (0, .ref h_tab), (1, .ref h_net)]) hx hb dTab_fill_39 rfl hl (by decide) rfl (fun ls hl => ?_)
  refine lv_aload_n hx hb dTab_fill_40 rfl (lv_at hl 2 rfl) ?_
  obtain ⟨v13, hv13, hm⟩ := sx_bind hm
  have hPc := hP.sub (ws' := [(h_net, .inr (0, [.ref a_net_sorts, .ref a_net_ranks, .ref a_net_starts, .ref a_net_literals, .ref a_net_nextLiterals, .ref a_net_outputs, .int net_gateTotal, .int net_inputTotal, .int net_latchTotal, .int net_outputTotal]))]) [0] rfl
  have hDc := hD.sub (ws' := [(h_net, .inr (0, [.ref a_net_sorts, .ref a_net_ranks, .ref a_net_starts, .ref a_net_literals, .ref a_net_nextLiterals, .ref a_net_outputs, .int net_gateTotal, .int net_inputTotal, .int net_latchTotal, .int net_outputTotal]))]) [0] (by decide) rfl
  have hFc := va_free (wc := [(h_net, .inr (0, [.ref a_net_sorts, .ref a_net_ranks, .ref a_net_starts, .ref a_net_literals, .ref a_net_nextLiterals, .ref a_net_outputs, .int net_gateTotal, .int net_inputTotal, .int net_latchTotal, .int net_outputTotal]))]) hD hS hA [0] rfl
  refine sx_stI (va_runV (As := []) (rest := []) ⟨hx, hb, hml, hown, hts⟩ (k_Net_choiceTotal l dC dI cI cL cZ t1 t2 h_net a_net_sorts a_net_ranks a_net_starts a_net_literals a_net_nextLiterals a_net_outputs net_gateTotal net_inputTotal net_latchTotal net_outputTotal _ v13 hv13) (cwV 0 hts (sx_gV tw_269 tw_270 tw_271 tw_37 tcNet_choiceTotal) rfl rfl rfl (by decide +kernel) ⟨Nat.le_of_ble_eq_true rfl, Nat.le_of_ble_eq_true rfl⟩) (sx_pV hK hX hS hPc hDc hFc (va_recv hK hPc (ci := 0) (q0 := 0) rfl rfl)) rfl rfl hl.1 rfl (lv_room (Nat.le_of_ble_eq_true rfl)) dTab_fill_41 ⟨Nat.le_of_ble_eq_true rfl, Nat.le_of_ble_eq_true rfl⟩) ?_
  refine lv_istore (lv' := [(4, .int v13), (3, .int v11), (0, .ref h_tab), (1, .ref h_net)]) hx hb dTab_fill_44 hl (by decide) rfl (fun ls hl => ?_)
  refine lv_iconst (v := (0 : Int32)) hx hb dTab_fill_46 (by decide) ?_
  refine lv_istore (lv' := [(5, .int (0 : Int32)), (4, .int v13), (3, .int v11), (0, .ref h_tab), (1, .ref h_net)]) hx hb dTab_fill_47 hl (by decide) rfl (fun ls hl => ?_)
  obtain ⟨v21, hv21, hm⟩ := sx_bind hm
  refine w_Tab_fill_49 C0 h_net a_net_sorts a_net_ranks a_net_starts a_net_literals a_net_nextLiterals a_net_outputs h_tab a_tab_known a_tab_settled a_tab_values a_tab_nextStates net_sorts net_ranks net_starts net_literals net_nextLiterals net_gateTotal net_inputTotal net_latchTotal net_outputTotal v10.1 v10.2.1 v10.2.2 v11 v13 _ (0 : Int32) tab_nextStates v21 hv21 _ _ _ hP hD hS (lv_sub hl [3, 4, 2, 1, 0] rfl) ?_
  intro H locs ls hP hD hS hl
  obtain rfl := Option.some.inj hm
  exact W.vret hx hb hr (fun t ht hW => ⟨⟨(), rfl, trivial, sx_Wi hP hK hD ht hW.alike⟩, hS.F ht⟩) hS.2.2 dTab_fill_99
noncomputable def m_Tab_nextOf (tab_nextStates : Nat → Int32) (p0 : Int32) (p1 : Int32) : Option (Int32) := gd (vp_in ((p0 * (16 : Int32)) + p1) 4096) (some (tab_nextStates ((p0 * (16 : Int32)) + p1).toNatClampNeg))
def rm_Tab_nextOf : Room := { frames := 0, cells := 0, slots := 0, locals := 0 }
set_option maxHeartbeats 4000000 in
set_option maxRecDepth 100000 in
theorem k_Tab_nextOf (l : Launch) (dC : Nat → ClassId) (dI : Nat → Nat → Nat) (cI cL cZ : ClassId) (t1 t2 : Nat) (h_tab a_tab_known a_tab_settled a_tab_values a_tab_nextStates : Nat) (tab_nextStates : Nat → Int32) (sz : Nat) (p0 : Int32) (p1 : Int32) (v : Int32) (hm : m_Tab_nextOf tab_nextStates p0 p1 = some v) : Met l yTab_nextOf wsTab_nextOf rm_Tab_nextOf (sx_Pc (dC, dI) [(cI, .int), (cL, .long), (cZ, .boolean)] t1 t2 [(h_tab, .inr (2, [.ref a_tab_known, .ref a_tab_settled, .ref a_tab_values, .ref a_tab_nextStates])), (a_tab_nextStates, .inl (cI, 4096, .inl tab_nextStates))] sz [.ref h_tab, .int p0, .int p1]) (sx_Si v) 0 0 (fun _ => False) := by
  refine Met.ofW (cc := cTab_nextOf) (maxL := 3) (ret := (some .int)) (by decide) rfl ?_
  intro p e s m args below meth c s₁ B hml hv
  obtain ⟨rfl, hsz, hP, hK, hD0, hX⟩ := hv
  have hx := B.exec
  have hb := B.bytes
  have hr := B.returns
  have hts0 := atoms_spec (ws := wsTab_nextOf) B.pre
  have hts : ∀ w ∈ tb, w.before _ s = true := fun w h => hts0 w (List.mem_cons_of_mem _ h)
  have hown : s.vm.findClass "StateExplorer$Table" = some m.cls := findClass_of_methodNamed B.named
  have hlocks := B.notSynchronized
  subst hsz
  have hD := hD0.self (sz := s.heap.size)
  generalize hAe : va_A [(h_tab, .inr (2, [.ref a_tab_known, .ref a_tab_settled, .ref a_tab_values, .ref a_tab_nextStates])), (a_tab_nextStates, .inl (cI, 4096, .inl tab_nextStates))] s.heap.size = A at hD hX 
  have hA : ∀ q : Nat, s.heap.size ≤ q → A q := fun q h => by rw [← hAe]; exact Or.inr h
  have hS : va_S A s.heap s.heap [] := va_S.rf
  have hl := lv_entry ([.ref h_tab, .int p0, .int p1]) (n := 3) (Nat.le_of_ble_eq_true rfl)
  rw [lg_entry_eq]
  generalize (lg_sl ([.ref h_tab, .int p0, .int p1]) ++ List.replicate (3 - (lg_sl ([.ref h_tab, .int p0, .int p1])).length) Slot.unset).toArray = ls at hl ⊢
  have hl : lv_has ls 3 [(0, .ref h_tab), (1, .int p0), (2, .int p1)] := hl
  have C0 : sx_C p s m _ meth c cTab_nextOf 3 "StateExplorer$Table" A (dC, dI) [(cI, .int), (cL, .long), (cZ, .boolean)] t1 t2 := ⟨hx, hb, hml, hown, hts, hA, hK, hlocks, hX⟩
  rw [m_Tab_nextOf] at hm
  refine lv_aload_n hx hb dTab_nextOf_0 rfl (lv_at hl 0 rfl) ?_
  refine va_get (D := (dC, dI)) (ci := 2) (v := .ref a_tab_nextStates) (C := RTab) (T := TTab) (N := 4) hx hb hts inTab hown hK hP 0 rfl rfl 3 (by decide) (hts _ tw_118) (fun _ h9 => h9) rfl dTab_nextOf_1 ?_
  refine lv_iload_n hx hb dTab_nextOf_4 rfl (lv_at hl 1 rfl) ?_
  refine lv_bipush (v := (16 : Int32)) hx hb dTab_nextOf_5 (by decide) ?_
  refine lv_imul hx hb dTab_nextOf_7 ?_
  refine lv_iload_n hx hb dTab_nextOf_8 rfl (lv_at hl 2 rfl) ?_
  refine lv_iadd hx hb dTab_nextOf_9 ?_
  obtain ⟨g1, hm⟩ := gd_el hm
  refine va_iald hx hb hK hP 1 0 rfl rfl g1 dTab_nextOf_10 ?_
  obtain rfl := Option.some.inj hm
  exact W.iret (v := tab_nextStates ((p0 * (16 : Int32)) + p1).toNatClampNeg) hx hb hr (fun t ht hW => ⟨rfl, ht⟩) (fun q hq => nomatch hq) dTab_nextOf_11
noncomputable def m_Tab_settledIn (tab_settled : Nat → Int64) (p0 : Int32) : Option (Int32) := (m_Exp_wordOf p0).bind (fun v1 => gd (vp_in v1 64) ((m_Exp_shiftOf p0).bind (fun v4 => some (((((tab_settled v1.toNatClampNeg).toUInt64 >>> (v4.toInt64.toUInt64 &&& Int64.toUInt64 63)).toInt64).toInt32) &&& (65535 : Int32)))))
def rm_Tab_settledIn : Room := { frames := 1, cells := 0, slots := 0, locals := 20 }
set_option maxHeartbeats 4000000 in
set_option maxRecDepth 100000 in
theorem k_Tab_settledIn (l : Launch) (dC : Nat → ClassId) (dI : Nat → Nat → Nat) (cI cL cZ : ClassId) (t1 t2 : Nat) (h_tab a_tab_known a_tab_settled a_tab_values a_tab_nextStates : Nat) (tab_settled : Nat → Int64) (sz : Nat) (p0 : Int32) (v : Int32) (hm : m_Tab_settledIn tab_settled p0 = some v) : Met l yTab_settledIn wsTab_settledIn rm_Tab_settledIn (sx_Pc (dC, dI) [(cI, .int), (cL, .long), (cZ, .boolean)] t1 t2 [(h_tab, .inr (2, [.ref a_tab_known, .ref a_tab_settled, .ref a_tab_values, .ref a_tab_nextStates])), (a_tab_settled, .inl (cL, 64, .inr (.inl tab_settled)))] sz [.ref h_tab, .int p0]) (sx_Si v) 0 0 (fun _ => False) := by
  refine Met.ofW (cc := cTab_settledIn) (maxL := 2) (ret := (some .int)) (by decide) rfl ?_
  intro p e s m args below meth c s₁ B hml hv
  obtain ⟨rfl, hsz, hP, hK, hD0, hX⟩ := hv
  have hx := B.exec
  have hb := B.bytes
  have hr := B.returns
  have hts0 := atoms_spec (ws := wsTab_settledIn) B.pre
  have hts : ∀ w ∈ tb, w.before _ s = true := fun w h => hts0 w (List.mem_cons_of_mem _ h)
  have hown : s.vm.findClass "StateExplorer$Table" = some m.cls := findClass_of_methodNamed B.named
  have hlocks := B.notSynchronized
  subst hsz
  have hD := hD0.self (sz := s.heap.size)
  generalize hAe : va_A [(h_tab, .inr (2, [.ref a_tab_known, .ref a_tab_settled, .ref a_tab_values, .ref a_tab_nextStates])), (a_tab_settled, .inl (cL, 64, .inr (.inl tab_settled)))] s.heap.size = A at hD hX 
  have hA : ∀ q : Nat, s.heap.size ≤ q → A q := fun q h => by rw [← hAe]; exact Or.inr h
  have hS : va_S A s.heap s.heap [] := va_S.rf
  have hl := lv_entry ([.ref h_tab, .int p0]) (n := 2) (Nat.le_of_ble_eq_true rfl)
  rw [lg_entry_eq]
  generalize (lg_sl ([.ref h_tab, .int p0]) ++ List.replicate (2 - (lg_sl ([.ref h_tab, .int p0])).length) Slot.unset).toArray = ls at hl ⊢
  have hl : lv_has ls 2 [(0, .ref h_tab), (1, .int p0)] := hl
  have C0 : sx_C p s m _ meth c cTab_settledIn 2 "StateExplorer$Table" A (dC, dI) [(cI, .int), (cL, .long), (cZ, .boolean)] t1 t2 := ⟨hx, hb, hml, hown, hts, hA, hK, hlocks, hX⟩
  rw [m_Tab_settledIn] at hm
  refine lv_aload_n hx hb dTab_settledIn_0 rfl (lv_at hl 0 rfl) ?_
  refine va_get (D := (dC, dI)) (ci := 2) (v := .ref a_tab_settled) (C := RTab) (T := TTab) (N := 4) hx hb hts inTab hown hK hP 0 rfl rfl 1 (by decide) (hts _ tw_115) (fun _ h9 => h9) rfl dTab_settledIn_1 ?_
  refine lv_iload_n hx hb dTab_settledIn_4 rfl (lv_at hl 1 rfl) ?_
  obtain ⟨v1, hv1, hm⟩ := sx_bind hm
  have hPc := hP.sub (ws' := []) [] rfl
  have hDc := hD.sub (ws' := []) [] (by decide) rfl
  have hFc := va_free (wc := []) hD hS hA [] rfl
  refine sx_stI (va_runSN (As := [.int p0]) (rest := [.ref a_tab_settled]) ⟨hx, hb, hml, hown, hts⟩ (k_Exp_wordOf l dC dI cI cL cZ t1 t2  _ p0 v1 hv1) ⟨va_cnB 1 hts (sx_gC tcExp_wordOf) rfl rfl rfl (hX.1 ("StateExplorer$Table", 92, yExp_wordOf, "StateExplorer") sx_n5) (hts _ tw_36) (by decide +kernel) ⟨Nat.le_of_ble_eq_true rfl, Nat.le_of_ble_eq_true rfl⟩, hts _ tw_234, trivial⟩ (sx_pS hK hX hS hPc hDc hFc) rfl rfl hl.1 rfl (lv_room (Nat.le_of_ble_eq_true rfl)) dTab_settledIn_5 ⟨Nat.le_of_ble_eq_true rfl, Nat.le_of_ble_eq_true rfl⟩) ?_
  obtain ⟨g3, hm⟩ := gd_el hm
  refine va_lald hx hb hK hP 1 1 rfl rfl g3 dTab_settledIn_8 ?_
  refine lv_iload_n hx hb dTab_settledIn_9 rfl (lv_at hl 1 rfl) ?_
  obtain ⟨v4, hv4, hm⟩ := sx_bind hm
  have hPc := hP.sub (ws' := []) [] rfl
  have hDc := hD.sub (ws' := []) [] (by decide) rfl
  have hFc := va_free (wc := []) hD hS hA [] rfl
  refine sx_stI (va_runSN (As := [.int p0]) (rest := [.long (tab_settled v1.toNatClampNeg)]) ⟨hx, hb, hml, hown, hts⟩ (k_Exp_shiftOf l dC dI cI cL cZ t1 t2  _ p0 v4 hv4) ⟨va_cnB 1 hts (sx_gC tcExp_shiftOf) rfl rfl rfl (hX.1 ("StateExplorer$Table", 96, yExp_shiftOf, "StateExplorer") sx_n6) (hts _ tw_36) (by decide +kernel) ⟨Nat.le_of_ble_eq_true rfl, Nat.le_of_ble_eq_true rfl⟩, hts _ tw_279, trivial⟩ (sx_pS hK hX hS hPc hDc hFc) rfl rfl hl.1 rfl (lv_room (Nat.le_of_ble_eq_true rfl)) dTab_settledIn_10 ⟨Nat.le_of_ble_eq_true rfl, Nat.le_of_ble_eq_true rfl⟩) ?_
  refine lv_lushr hx hb dTab_settledIn_13 rfl ?_
  refine lv_l2i hx hb dTab_settledIn_14 rfl ?_
  refine lv_ldc (v := (65535 : Int32)) hx hb hown (hts _ tw_305) dTab_settledIn_15 ?_
  refine lv_iand hx hb dTab_settledIn_17 ?_
  obtain rfl := Option.some.inj hm
  exact W.iret (v := ((((tab_settled v1.toNatClampNeg).toUInt64 >>> (v4.toInt64.toUInt64 &&& Int64.toUInt64 63)).toInt64).toInt32) &&& (65535 : Int32)) hx hb hr (fun t ht hW => ⟨rfl, ht⟩) (fun q hq => nomatch hq) dTab_settledIn_18
noncomputable def m_Tab_onesIn (tab_values : Nat → Int64) (p0 : Int32) (p1 : Int32) : Option (Int32) := (m_Exp_wordOf p1).bind (fun v1 => gd (vp_in ((p0 * (64 : Int32)) + v1) 3840) ((m_Exp_shiftOf p1).bind (fun v4 => some (((((tab_values ((p0 * (64 : Int32)) + v1).toNatClampNeg).toUInt64 >>> (v4.toInt64.toUInt64 &&& Int64.toUInt64 63)).toInt64).toInt32) &&& (65535 : Int32)))))
def rm_Tab_onesIn : Room := { frames := 1, cells := 0, slots := 0, locals := 20 }
set_option maxHeartbeats 4000000 in
set_option maxRecDepth 100000 in
theorem k_Tab_onesIn (l : Launch) (dC : Nat → ClassId) (dI : Nat → Nat → Nat) (cI cL cZ : ClassId) (t1 t2 : Nat) (h_tab a_tab_known a_tab_settled a_tab_values a_tab_nextStates : Nat) (tab_values : Nat → Int64) (sz : Nat) (p0 : Int32) (p1 : Int32) (v : Int32) (hm : m_Tab_onesIn tab_values p0 p1 = some v) : Met l yTab_onesIn wsTab_onesIn rm_Tab_onesIn (sx_Pc (dC, dI) [(cI, .int), (cL, .long), (cZ, .boolean)] t1 t2 [(h_tab, .inr (2, [.ref a_tab_known, .ref a_tab_settled, .ref a_tab_values, .ref a_tab_nextStates])), (a_tab_values, .inl (cL, 3840, .inr (.inl tab_values)))] sz [.ref h_tab, .int p0, .int p1]) (sx_Si v) 0 0 (fun _ => False) := by
  refine Met.ofW (cc := cTab_onesIn) (maxL := 3) (ret := (some .int)) (by decide) rfl ?_
  intro p e s m args below meth c s₁ B hml hv
  obtain ⟨rfl, hsz, hP, hK, hD0, hX⟩ := hv
  have hx := B.exec
  have hb := B.bytes
  have hr := B.returns
  have hts0 := atoms_spec (ws := wsTab_onesIn) B.pre
  have hts : ∀ w ∈ tb, w.before _ s = true := fun w h => hts0 w (List.mem_cons_of_mem _ h)
  have hown : s.vm.findClass "StateExplorer$Table" = some m.cls := findClass_of_methodNamed B.named
  have hlocks := B.notSynchronized
  subst hsz
  have hD := hD0.self (sz := s.heap.size)
  generalize hAe : va_A [(h_tab, .inr (2, [.ref a_tab_known, .ref a_tab_settled, .ref a_tab_values, .ref a_tab_nextStates])), (a_tab_values, .inl (cL, 3840, .inr (.inl tab_values)))] s.heap.size = A at hD hX 
  have hA : ∀ q : Nat, s.heap.size ≤ q → A q := fun q h => by rw [← hAe]; exact Or.inr h
  have hS : va_S A s.heap s.heap [] := va_S.rf
  have hl := lv_entry ([.ref h_tab, .int p0, .int p1]) (n := 3) (Nat.le_of_ble_eq_true rfl)
  rw [lg_entry_eq]
  generalize (lg_sl ([.ref h_tab, .int p0, .int p1]) ++ List.replicate (3 - (lg_sl ([.ref h_tab, .int p0, .int p1])).length) Slot.unset).toArray = ls at hl ⊢
  have hl : lv_has ls 3 [(0, .ref h_tab), (1, .int p0), (2, .int p1)] := hl
  have C0 : sx_C p s m _ meth c cTab_onesIn 3 "StateExplorer$Table" A (dC, dI) [(cI, .int), (cL, .long), (cZ, .boolean)] t1 t2 := ⟨hx, hb, hml, hown, hts, hA, hK, hlocks, hX⟩
  rw [m_Tab_onesIn] at hm
  refine lv_aload_n hx hb dTab_onesIn_0 rfl (lv_at hl 0 rfl) ?_
  refine va_get (D := (dC, dI)) (ci := 2) (v := .ref a_tab_values) (C := RTab) (T := TTab) (N := 4) hx hb hts inTab hown hK hP 0 rfl rfl 2 (by decide) (hts _ tw_116) (fun _ h9 => h9) rfl dTab_onesIn_1 ?_
  refine lv_iload_n hx hb dTab_onesIn_4 rfl (lv_at hl 1 rfl) ?_
  refine lv_bipush (v := (64 : Int32)) hx hb dTab_onesIn_5 (by decide) ?_
  refine lv_imul hx hb dTab_onesIn_7 ?_
  refine lv_iload_n hx hb dTab_onesIn_8 rfl (lv_at hl 2 rfl) ?_
  obtain ⟨v1, hv1, hm⟩ := sx_bind hm
  have hPc := hP.sub (ws' := []) [] rfl
  have hDc := hD.sub (ws' := []) [] (by decide) rfl
  have hFc := va_free (wc := []) hD hS hA [] rfl
  refine sx_stI (va_runSN (As := [.int p1]) (rest := [.int (p0 * (64 : Int32)), .ref a_tab_values]) ⟨hx, hb, hml, hown, hts⟩ (k_Exp_wordOf l dC dI cI cL cZ t1 t2  _ p1 v1 hv1) ⟨va_cnB 1 hts (sx_gC tcExp_wordOf) rfl rfl rfl (hX.1 ("StateExplorer$Table", 92, yExp_wordOf, "StateExplorer") sx_n5) (hts _ tw_36) (by decide +kernel) ⟨Nat.le_of_ble_eq_true rfl, Nat.le_of_ble_eq_true rfl⟩, hts _ tw_234, trivial⟩ (sx_pS hK hX hS hPc hDc hFc) rfl rfl hl.1 rfl (lv_room (Nat.le_of_ble_eq_true rfl)) dTab_onesIn_9 ⟨Nat.le_of_ble_eq_true rfl, Nat.le_of_ble_eq_true rfl⟩) ?_
  refine lv_iadd hx hb dTab_onesIn_12 ?_
  obtain ⟨g3, hm⟩ := gd_el hm
  refine va_lald hx hb hK hP 1 1 rfl rfl g3 dTab_onesIn_13 ?_
  refine lv_iload_n hx hb dTab_onesIn_14 rfl (lv_at hl 2 rfl) ?_
  obtain ⟨v4, hv4, hm⟩ := sx_bind hm
  have hPc := hP.sub (ws' := []) [] rfl
  have hDc := hD.sub (ws' := []) [] (by decide) rfl
  have hFc := va_free (wc := []) hD hS hA [] rfl
  refine sx_stI (va_runSN (As := [.int p1]) (rest := [.long (tab_values ((p0 * (64 : Int32)) + v1).toNatClampNeg)]) ⟨hx, hb, hml, hown, hts⟩ (k_Exp_shiftOf l dC dI cI cL cZ t1 t2  _ p1 v4 hv4) ⟨va_cnB 1 hts (sx_gC tcExp_shiftOf) rfl rfl rfl (hX.1 ("StateExplorer$Table", 96, yExp_shiftOf, "StateExplorer") sx_n6) (hts _ tw_36) (by decide +kernel) ⟨Nat.le_of_ble_eq_true rfl, Nat.le_of_ble_eq_true rfl⟩, hts _ tw_279, trivial⟩ (sx_pS hK hX hS hPc hDc hFc) rfl rfl hl.1 rfl (lv_room (Nat.le_of_ble_eq_true rfl)) dTab_onesIn_15 ⟨Nat.le_of_ble_eq_true rfl, Nat.le_of_ble_eq_true rfl⟩) ?_
  refine lv_lushr hx hb dTab_onesIn_18 rfl ?_
  refine lv_l2i hx hb dTab_onesIn_19 rfl ?_
  refine lv_ldc (v := (65535 : Int32)) hx hb hown (hts _ tw_305) dTab_onesIn_20 ?_
  refine lv_iand hx hb dTab_onesIn_22 ?_
  obtain rfl := Option.some.inj hm
  exact W.iret (v := ((((tab_values ((p0 * (64 : Int32)) + v1).toNatClampNeg).toUInt64 >>> (v4.toInt64.toUInt64 &&& Int64.toUInt64 63)).toInt64).toInt32) &&& (65535 : Int32)) hx hb hr (fun t ht hW => ⟨rfl, ht⟩) (fun q hq => nomatch hq) dTab_onesIn_23
