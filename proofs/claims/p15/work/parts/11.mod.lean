noncomputable def m_Mod_fails (mod_code : Int32) (p0 : Int32) (p1 : Int32) : Option (Int32 × Int32) := (sx_let (fun (z0J1 : Int32) => (if z0J1 ≤ (0 : Int32) then some ((0 : Int32), z0J1) else some ((1 : Int32), z0J1))) (fun J1 => (if p0 = (0 : Int32) then (if p1 = (0 : Int32) then (J1 (0 : Int32)) else (J1 (2 : Int32))) else (J1 (1 : Int32)))))
def rm_Mod_fails : Room := { frames := 0, cells := 0, slots := 0, locals := 0 }
set_option maxHeartbeats 4000000 in
set_option maxRecDepth 100000 in
theorem k_Mod_fails (l : Launch) (dC : Nat → ClassId) (dI : Nat → Nat → Nat) (cI cL cZ : ClassId) (t1 t2 : Nat) (h_mod a_mod_sort a_mod_number a_mod_value a_mod_made a_mod_to a_mod_from a_mod_outputOf a_mod_negated a_mod_settles a_mod_next a_mod_ones a_mod_distance a_mod_apart a_mod_leads : Nat) (mod_code mod_gates mod_feeds mod_inputs mod_latches mod_outputs mod_explored : Int32) (sz : Nat) (p0 : Int32) (p1 : Int32) (v : Int32 × Int32) (hm : m_Mod_fails mod_code p0 p1 = some v) : Met l yMod_fails wsMod_fails rm_Mod_fails (sx_Pc (dC, dI) [(cI, .int), (cL, .long), (cZ, .boolean)] t1 t2 [(h_mod, .inr (5, [.int mod_code, .int mod_gates, .int mod_feeds, .int mod_inputs, .int mod_latches, .int mod_outputs, .ref a_mod_sort, .ref a_mod_number, .ref a_mod_value, .ref a_mod_made, .ref a_mod_to, .ref a_mod_from, .ref a_mod_outputOf, .ref a_mod_negated, .int mod_explored, .ref a_mod_settles, .ref a_mod_next, .ref a_mod_ones, .ref a_mod_distance, .ref a_mod_apart, .ref a_mod_leads]))] sz [.ref h_mod, .int p0, .int p1]) (va_Qi (fun (r : Int32) (_ : Unit) => r = v.1) (fun _ t => sx_W (dC, dI) [(cI, .int), (cL, .long), (cZ, .boolean)] (va_A [(h_mod, .inr (5, [.int mod_code, .int mod_gates, .int mod_feeds, .int mod_inputs, .int mod_latches, .int mod_outputs, .ref a_mod_sort, .ref a_mod_number, .ref a_mod_value, .ref a_mod_made, .ref a_mod_to, .ref a_mod_from, .ref a_mod_outputOf, .ref a_mod_negated, .int mod_explored, .ref a_mod_settles, .ref a_mod_next, .ref a_mod_ones, .ref a_mod_distance, .ref a_mod_apart, .ref a_mod_leads]))] sz) [(h_mod, .inr (5, [.int v.2, .int mod_gates, .int mod_feeds, .int mod_inputs, .int mod_latches, .int mod_outputs, .ref a_mod_sort, .ref a_mod_number, .ref a_mod_value, .ref a_mod_made, .ref a_mod_to, .ref a_mod_from, .ref a_mod_outputOf, .ref a_mod_negated, .int mod_explored, .ref a_mod_settles, .ref a_mod_next, .ref a_mod_ones, .ref a_mod_distance, .ref a_mod_apart, .ref a_mod_leads]))] t) (va_A [(h_mod, .inr (5, [.int mod_code, .int mod_gates, .int mod_feeds, .int mod_inputs, .int mod_latches, .int mod_outputs, .ref a_mod_sort, .ref a_mod_number, .ref a_mod_value, .ref a_mod_made, .ref a_mod_to, .ref a_mod_from, .ref a_mod_outputOf, .ref a_mod_negated, .int mod_explored, .ref a_mod_settles, .ref a_mod_next, .ref a_mod_ones, .ref a_mod_distance, .ref a_mod_apart, .ref a_mod_leads]))] sz)) 0 0 (va_A [(h_mod, .inr (5, [.int mod_code, .int mod_gates, .int mod_feeds, .int mod_inputs, .int mod_latches, .int mod_outputs, .ref a_mod_sort, .ref a_mod_number, .ref a_mod_value, .ref a_mod_made, .ref a_mod_to, .ref a_mod_from, .ref a_mod_outputOf, .ref a_mod_negated, .int mod_explored, .ref a_mod_settles, .ref a_mod_next, .ref a_mod_ones, .ref a_mod_distance, .ref a_mod_apart, .ref a_mod_leads]))] sz) := by
  refine Met.ofW (cc := cMod_fails) (maxL := 3) (ret := (some .boolean)) (by decide) rfl ?_
  intro p e s m args below meth c s₁ B hml hv
  obtain ⟨rfl, hsz, hP, hK, hD0, hX⟩ := hv
  have hx := B.exec
  have hb := B.bytes
  have hr := B.returns
  have hts0 := atoms_spec (ws := wsMod_fails) B.pre
  have hts : ∀ w ∈ tb, w.before _ s = true := fun w h => hts0 w (List.mem_cons_of_mem _ h)
  have hown : s.vm.findClass "StateExplorerModel" = some m.cls := findClass_of_methodNamed B.named
  have hlocks := B.notSynchronized
  subst hsz
  have hD := hD0.self (sz := s.heap.size)
  generalize hAe : va_A [(h_mod, .inr (5, [.int mod_code, .int mod_gates, .int mod_feeds, .int mod_inputs, .int mod_latches, .int mod_outputs, .ref a_mod_sort, .ref a_mod_number, .ref a_mod_value, .ref a_mod_made, .ref a_mod_to, .ref a_mod_from, .ref a_mod_outputOf, .ref a_mod_negated, .int mod_explored, .ref a_mod_settles, .ref a_mod_next, .ref a_mod_ones, .ref a_mod_distance, .ref a_mod_apart, .ref a_mod_leads]))] s.heap.size = A at hD hX ⊢
  have hA : ∀ q : Nat, s.heap.size ≤ q → A q := fun q h => by rw [← hAe]; exact Or.inr h
  have hS : va_S A s.heap s.heap [] := va_S.rf
  have hl := lv_entry ([.ref h_mod, .int p0, .int p1]) (n := 3) (Nat.le_of_ble_eq_true rfl)
  rw [lg_entry_eq]
  generalize (lg_sl ([.ref h_mod, .int p0, .int p1]) ++ List.replicate (3 - (lg_sl ([.ref h_mod, .int p0, .int p1])).length) Slot.unset).toArray = ls at hl ⊢
  have hl : lv_has ls 3 [(0, .ref h_mod), (1, .int p0), (2, .int p1)] := hl
  have C0 : sx_C p s m _ meth c cMod_fails 3 "StateExplorerModel" A (dC, dI) [(cI, .int), (cL, .long), (cZ, .boolean)] t1 t2 := ⟨hx, hb, hml, hown, hts, hA, hK, hlocks, hX⟩
  rw [m_Mod_fails] at hm
  refine lv_aload_n hx hb dMod_fails_0 rfl (lv_at hl 0 rfl) ?_
  refine lv_iload_n hx hb dMod_fails_1 rfl (lv_at hl 1 rfl) ?_
  obtain ⟨J1, hJ1, hm⟩ := sx_lj hm
  have jJ1 : ∀ (z0J1 : Int32), J1 z0J1 = some v → ∀ (ls : Array Slot), lv_has ls 3 [(0, .ref h_mod)] → W p l e (headSpec wsMod_fails rm_Mod_fails).room s m ([.ref h_mod, .int p0, .int p1]).toArray below meth c s.heap [] 0 0 (MQ below (va_Qi (fun (r : Int32) (_ : Unit) => r = v.1) (fun _ t => sx_W (dC, dI) [(cI, .int), (cL, .long), (cZ, .boolean)] A [(h_mod, .inr (5, [.int v.2, .int mod_gates, .int mod_feeds, .int mod_inputs, .int mod_latches, .int mod_outputs, .ref a_mod_sort, .ref a_mod_number, .ref a_mod_value, .ref a_mod_made, .ref a_mod_to, .ref a_mod_from, .ref a_mod_outputOf, .ref a_mod_negated, .int mod_explored, .ref a_mod_settles, .ref a_mod_next, .ref a_mod_ones, .ref a_mod_distance, .ref a_mod_apart, .ref a_mod_leads]))] t) A) ([.ref h_mod, .int p0, .int p1]).toArray s 0 0 A) (F0 m 18 ls [.int z0J1, .ref h_mod]) := by
    intro z0J1 hm ls hl
    rw [hJ1] at hm
    dsimp only at hm
    refine va_put (D := (dC, dI)) (ci := 5) (v := .int z0J1) (ty := .int) (C := RMod) (T := TMod) (N := 21) hx hb hts inMod tyMod tyMod_ok nmMod hown hK hP hD hS 0 rfl rfl 0 (by decide) (hts _ tw_611) (fun _ h9 => h9) rfl (by decide +kernel) rfl rfl (Nat.le_of_ble_eq_true rfl) dMod_fails_18 (fun H locs hP hD hS => ?_)
    have hP : va_P (dC, dI) vwCl [(h_mod, .inr (5, [.int z0J1, .int mod_gates, .int mod_feeds, .int mod_inputs, .int mod_latches, .int mod_outputs, .ref a_mod_sort, .ref a_mod_number, .ref a_mod_value, .ref a_mod_made, .ref a_mod_to, .ref a_mod_from, .ref a_mod_outputOf, .ref a_mod_negated, .int mod_explored, .ref a_mod_settles, .ref a_mod_next, .ref a_mod_ones, .ref a_mod_distance, .ref a_mod_apart, .ref a_mod_leads]))] H := hP
    have hD : va_D A [(h_mod, .inr (5, [.int z0J1, .int mod_gates, .int mod_feeds, .int mod_inputs, .int mod_latches, .int mod_outputs, .ref a_mod_sort, .ref a_mod_number, .ref a_mod_value, .ref a_mod_made, .ref a_mod_to, .ref a_mod_from, .ref a_mod_outputOf, .ref a_mod_negated, .int mod_explored, .ref a_mod_settles, .ref a_mod_next, .ref a_mod_ones, .ref a_mod_distance, .ref a_mod_apart, .ref a_mod_leads]))] := hD
    refine lv_aload_n hx hb dMod_fails_21 rfl (lv_at hl 0 rfl) ?_
    refine va_get (D := (dC, dI)) (ci := 5) (v := .int z0J1) (C := RMod) (T := TMod) (N := 21) hx hb hts inMod hown hK hP 0 rfl rfl 0 (by decide) (hts _ tw_611) (fun _ h9 => h9) rfl dMod_fails_22 ?_
    refine lv_if_le (tgt := 32) hx hb dMod_fails_25 (by decide) (fun c2 => ?_) (fun c2 => ?_)
    · have hm := sx_pos c2 hm
      refine lv_iconst (v := (0 : Int32)) hx hb dMod_fails_32 (by decide) ?_
      obtain rfl := Option.some.inj hm
      exact W.zret (v := (0 : Int32)) hx hb hr sx_z0 (fun t ht hW => ⟨⟨(0 : Int32), (), rfl, rfl, sx_Wi hP hK hD ht hW.alike⟩, hS.F ht⟩) hS.2.2 dMod_fails_33
    · have hm := sx_neg c2 hm
      refine lv_iconst (v := (1 : Int32)) hx hb dMod_fails_28 (by decide) ?_
      refine lv_goto (tgt := 33) hx hb dMod_fails_29 (by decide) ?_
      obtain rfl := Option.some.inj hm
      exact W.zret (v := (1 : Int32)) hx hb hr sx_z1 (fun t ht hW => ⟨⟨(1 : Int32), (), rfl, rfl, sx_Wi hP hK hD ht hW.alike⟩, hS.F ht⟩) hS.2.2 dMod_fails_33
  refine lv_if_eq (tgt := 9) hx hb dMod_fails_2 (by decide) (fun c3 => ?_) (fun c3 => ?_)
  · have hm := sx_pos c3 hm
    refine lv_iload_n hx hb dMod_fails_9 rfl (lv_at hl 2 rfl) ?_
    refine lv_if_eq (tgt := 17) hx hb dMod_fails_10 (by decide) (fun c4 => ?_) (fun c4 => ?_)
    · have hm := sx_pos c4 hm
      refine lv_iconst (v := (0 : Int32)) hx hb dMod_fails_17 (by decide) ?_
      exact jJ1 (0 : Int32) hm _ (lv_sub hl [0] rfl)
    · have hm := sx_neg c4 hm
      refine lv_iconst (v := (2 : Int32)) hx hb dMod_fails_13 (by decide) ?_
      refine lv_goto (tgt := 18) hx hb dMod_fails_14 (by decide) ?_
      exact jJ1 (2 : Int32) hm _ (lv_sub hl [0] rfl)
  · have hm := sx_neg c3 hm
    refine lv_iconst (v := (1 : Int32)) hx hb dMod_fails_5 (by decide) ?_
    refine lv_goto (tgt := 18) hx hb dMod_fails_6 (by decide) ?_
    exact jJ1 (1 : Int32) hm _ (lv_sub hl [0] rfl)
noncomputable def m_Mod_isGate (mod_gates : Int32) (p0 : Int32) : Option (Int32) := (if p0 < (0 : Int32) then some (0 : Int32) else (if mod_gates ≤ p0 then some (0 : Int32) else some (1 : Int32)))
def rm_Mod_isGate : Room := { frames := 0, cells := 0, slots := 0, locals := 0 }
set_option maxHeartbeats 4000000 in
set_option maxRecDepth 100000 in
theorem k_Mod_isGate (l : Launch) (dC : Nat → ClassId) (dI : Nat → Nat → Nat) (cI cL cZ : ClassId) (t1 t2 : Nat) (h_mod a_mod_sort a_mod_number a_mod_value a_mod_made a_mod_to a_mod_from a_mod_outputOf a_mod_negated a_mod_settles a_mod_next a_mod_ones a_mod_distance a_mod_apart a_mod_leads : Nat) (mod_code mod_gates mod_feeds mod_inputs mod_latches mod_outputs mod_explored : Int32) (sz : Nat) (p0 : Int32) (v : Int32) (hm : m_Mod_isGate mod_gates p0 = some v) : Met l yMod_isGate wsMod_isGate rm_Mod_isGate (sx_Pc (dC, dI) [(cI, .int), (cL, .long), (cZ, .boolean)] t1 t2 [(h_mod, .inr (5, [.int mod_code, .int mod_gates, .int mod_feeds, .int mod_inputs, .int mod_latches, .int mod_outputs, .ref a_mod_sort, .ref a_mod_number, .ref a_mod_value, .ref a_mod_made, .ref a_mod_to, .ref a_mod_from, .ref a_mod_outputOf, .ref a_mod_negated, .int mod_explored, .ref a_mod_settles, .ref a_mod_next, .ref a_mod_ones, .ref a_mod_distance, .ref a_mod_apart, .ref a_mod_leads]))] sz [.ref h_mod, .int p0]) (sx_Si v) 0 0 (fun _ => False) := by
  refine Met.ofW (cc := cMod_isGate) (maxL := 2) (ret := (some .boolean)) (by decide) rfl ?_
  intro p e s m args below meth c s₁ B hml hv
  obtain ⟨rfl, hsz, hP, hK, hD0, hX⟩ := hv
  have hx := B.exec
  have hb := B.bytes
  have hr := B.returns
  have hts0 := atoms_spec (ws := wsMod_isGate) B.pre
  have hts : ∀ w ∈ tb, w.before _ s = true := fun w h => hts0 w (List.mem_cons_of_mem _ h)
  have hown : s.vm.findClass "StateExplorerModel" = some m.cls := findClass_of_methodNamed B.named
  have hlocks := B.notSynchronized
  subst hsz
  have hD := hD0.self (sz := s.heap.size)
  generalize hAe : va_A [(h_mod, .inr (5, [.int mod_code, .int mod_gates, .int mod_feeds, .int mod_inputs, .int mod_latches, .int mod_outputs, .ref a_mod_sort, .ref a_mod_number, .ref a_mod_value, .ref a_mod_made, .ref a_mod_to, .ref a_mod_from, .ref a_mod_outputOf, .ref a_mod_negated, .int mod_explored, .ref a_mod_settles, .ref a_mod_next, .ref a_mod_ones, .ref a_mod_distance, .ref a_mod_apart, .ref a_mod_leads]))] s.heap.size = A at hD hX 
  have hA : ∀ q : Nat, s.heap.size ≤ q → A q := fun q h => by rw [← hAe]; exact Or.inr h
  have hS : va_S A s.heap s.heap [] := va_S.rf
  have hl := lv_entry ([.ref h_mod, .int p0]) (n := 2) (Nat.le_of_ble_eq_true rfl)
  rw [lg_entry_eq]
  generalize (lg_sl ([.ref h_mod, .int p0]) ++ List.replicate (2 - (lg_sl ([.ref h_mod, .int p0])).length) Slot.unset).toArray = ls at hl ⊢
  have hl : lv_has ls 2 [(0, .ref h_mod), (1, .int p0)] := hl
  have C0 : sx_C p s m _ meth c cMod_isGate 2 "StateExplorerModel" A (dC, dI) [(cI, .int), (cL, .long), (cZ, .boolean)] t1 t2 := ⟨hx, hb, hml, hown, hts, hA, hK, hlocks, hX⟩
  rw [m_Mod_isGate] at hm
  refine lv_iload_n hx hb dMod_isGate_0 rfl (lv_at hl 1 rfl) ?_
  refine lv_if_lt (tgt := 16) hx hb dMod_isGate_1 (by decide) (fun c1 => ?_) (fun c1 => ?_)
  · have hm := sx_pos c1 hm
    refine lv_iconst (v := (0 : Int32)) hx hb dMod_isGate_16 (by decide) ?_
    obtain rfl := Option.some.inj hm
    exact W.zret (v := (0 : Int32)) hx hb hr sx_z0 (fun t ht hW => ⟨rfl, ht⟩) (fun q hq => nomatch hq) dMod_isGate_17
  · have hm := sx_neg c1 hm
    refine lv_iload_n hx hb dMod_isGate_4 rfl (lv_at hl 1 rfl) ?_
    refine lv_aload_n hx hb dMod_isGate_5 rfl (lv_at hl 0 rfl) ?_
    refine va_get (D := (dC, dI)) (ci := 5) (v := .int mod_gates) (C := RMod) (T := TMod) (N := 21) hx hb hts inMod hown hK hP 0 rfl rfl 1 (by decide) (hts _ tw_612) (fun _ h9 => h9) rfl dMod_isGate_6 ?_
    refine lv_icmp_ge (tgt := 16) hx hb dMod_isGate_9 (by decide) (fun c2 => ?_) (fun c2 => ?_)
    · have hm := sx_pos c2 hm
      refine lv_iconst (v := (0 : Int32)) hx hb dMod_isGate_16 (by decide) ?_
      obtain rfl := Option.some.inj hm
      exact W.zret (v := (0 : Int32)) hx hb hr sx_z0 (fun t ht hW => ⟨rfl, ht⟩) (fun q hq => nomatch hq) dMod_isGate_17
    · have hm := sx_neg c2 hm
      refine lv_iconst (v := (1 : Int32)) hx hb dMod_isGate_12 (by decide) ?_
      refine lv_goto (tgt := 17) hx hb dMod_isGate_13 (by decide) ?_
      obtain rfl := Option.some.inj hm
      exact W.zret (v := (1 : Int32)) hx hb hr sx_z1 (fun t ht hW => ⟨rfl, ht⟩) (fun q hq => nomatch hq) dMod_isGate_17
noncomputable def m_Mod_gate (mod_code mod_gates mod_inputs mod_latches : Int32) (mod_sort mod_number : Nat → Int32) (mod_explored : Int32) (p0 : Int32) : Option (Int32 × Int32 × Int32 × Int32 × Int32 × (Nat → Int32) × (Nat → Int32) × Int32) := (sx_let (fun (z0J1 : Int32) => (m_Mod_fails mod_code z0J1 (0 : Int32)).bind (fun v2 => (if v2.1 = (0 : Int32) then (if mod_gates = (60 : Int32) then some ((-1 : Int32), v2.2, mod_gates, mod_inputs, mod_latches, mod_sort, mod_number, mod_explored) else (sx_let (fun (_ : Unit) => (sx_let (fun (_ : Unit) => gd (vp_in mod_gates 60) ((sx_let (fun (z0J9 : Int32) (z1J9 : Int32) => gd (vp_in z1J9 60) ((sx_let (fun (z0J11 : Int32) => (sx_let (fun (z0J12 : Int32) => some ((mod_gates + (1 : Int32)) - (1 : Int32), v2.2, mod_gates + (1 : Int32), z0J11, z0J12, upd mod_sort mod_gates.toNatClampNeg p0, upd mod_number z1J9.toNatClampNeg z0J9, (0 : Int32))) (fun J12 => (if p0 = (1 : Int32) then (J12 (mod_latches + (1 : Int32))) else (J12 mod_latches))))) (fun J11 => (if p0 = (0 : Int32) then (J11 (mod_inputs + (1 : Int32))) else (J11 mod_inputs)))))) (fun J9 => (if p0 = (0 : Int32) then (J9 mod_inputs mod_gates) else (if p0 = (1 : Int32) then (J9 mod_latches mod_gates) else (J9 (-1 : Int32) mod_gates))))))) (fun J7 => (if p0 = (1 : Int32) then (if mod_latches = (8 : Int32) then some ((-1 : Int32), v2.2, mod_gates, mod_inputs, mod_latches, mod_sort, mod_number, mod_explored) else (J7 ())) else (J7 ()))))) (fun J6 => (if p0 = (0 : Int32) then (if mod_inputs = (4 : Int32) then some ((-1 : Int32), v2.2, mod_gates, mod_inputs, mod_latches, mod_sort, mod_number, mod_explored) else (J6 ())) else (J6 ()))))) else some ((0 : Int32), v2.2, mod_gates, mod_inputs, mod_latches, mod_sort, mod_number, mod_explored)))) (fun J1 => sx_let (fun (_ : Unit) => (J1 (1 : Int32))) (fun J21 => (if p0 < (0 : Int32) then (J21 ()) else (if p0 ≤ (3 : Int32) then (J1 (0 : Int32)) else (J21 ()))))))
def rm_Mod_gate : Room := { frames := 1, cells := 0, slots := 0, locals := 22 }
set_option maxHeartbeats 4000000 in
set_option maxRecDepth 100000 in
theorem k_Mod_gate (l : Launch) (dC : Nat → ClassId) (dI : Nat → Nat → Nat) (cI cL cZ : ClassId) (t1 t2 : Nat) (h_mod a_mod_sort a_mod_number a_mod_value a_mod_made a_mod_to a_mod_from a_mod_outputOf a_mod_negated a_mod_settles a_mod_next a_mod_ones a_mod_distance a_mod_apart a_mod_leads : Nat) (mod_code mod_gates mod_feeds mod_inputs mod_latches mod_outputs : Int32) (mod_sort mod_number : Nat → Int32) (mod_explored : Int32) (sz : Nat) (p0 : Int32) (v : Int32 × Int32 × Int32 × Int32 × Int32 × (Nat → Int32) × (Nat → Int32) × Int32) (hm : m_Mod_gate mod_code mod_gates mod_inputs mod_latches mod_sort mod_number mod_explored p0 = some v) : Met l yMod_gate wsMod_gate rm_Mod_gate (sx_Pc (dC, dI) [(cI, .int), (cL, .long), (cZ, .boolean)] t1 t2 [(h_mod, .inr (5, [.int mod_code, .int mod_gates, .int mod_feeds, .int mod_inputs, .int mod_latches, .int mod_outputs, .ref a_mod_sort, .ref a_mod_number, .ref a_mod_value, .ref a_mod_made, .ref a_mod_to, .ref a_mod_from, .ref a_mod_outputOf, .ref a_mod_negated, .int mod_explored, .ref a_mod_settles, .ref a_mod_next, .ref a_mod_ones, .ref a_mod_distance, .ref a_mod_apart, .ref a_mod_leads])), (a_mod_sort, .inl (cI, 60, .inl mod_sort)), (a_mod_number, .inl (cI, 60, .inl mod_number))] sz [.ref h_mod, .int p0]) (va_Qi (fun (r : Int32) (_ : Unit) => r = v.1) (fun _ t => sx_W (dC, dI) [(cI, .int), (cL, .long), (cZ, .boolean)] (va_A [(h_mod, .inr (5, [.int mod_code, .int mod_gates, .int mod_feeds, .int mod_inputs, .int mod_latches, .int mod_outputs, .ref a_mod_sort, .ref a_mod_number, .ref a_mod_value, .ref a_mod_made, .ref a_mod_to, .ref a_mod_from, .ref a_mod_outputOf, .ref a_mod_negated, .int mod_explored, .ref a_mod_settles, .ref a_mod_next, .ref a_mod_ones, .ref a_mod_distance, .ref a_mod_apart, .ref a_mod_leads])), (a_mod_sort, .inl (cI, 60, .inl mod_sort)), (a_mod_number, .inl (cI, 60, .inl mod_number))] sz) [(h_mod, .inr (5, [.int v.2.1, .int v.2.2.1, .int mod_feeds, .int v.2.2.2.1, .int v.2.2.2.2.1, .int mod_outputs, .ref a_mod_sort, .ref a_mod_number, .ref a_mod_value, .ref a_mod_made, .ref a_mod_to, .ref a_mod_from, .ref a_mod_outputOf, .ref a_mod_negated, .int v.2.2.2.2.2.2.2, .ref a_mod_settles, .ref a_mod_next, .ref a_mod_ones, .ref a_mod_distance, .ref a_mod_apart, .ref a_mod_leads])), (a_mod_sort, .inl (cI, 60, .inl v.2.2.2.2.2.1)), (a_mod_number, .inl (cI, 60, .inl v.2.2.2.2.2.2.1))] t) (va_A [(h_mod, .inr (5, [.int mod_code, .int mod_gates, .int mod_feeds, .int mod_inputs, .int mod_latches, .int mod_outputs, .ref a_mod_sort, .ref a_mod_number, .ref a_mod_value, .ref a_mod_made, .ref a_mod_to, .ref a_mod_from, .ref a_mod_outputOf, .ref a_mod_negated, .int mod_explored, .ref a_mod_settles, .ref a_mod_next, .ref a_mod_ones, .ref a_mod_distance, .ref a_mod_apart, .ref a_mod_leads])), (a_mod_sort, .inl (cI, 60, .inl mod_sort)), (a_mod_number, .inl (cI, 60, .inl mod_number))] sz)) 0 0 (va_A [(h_mod, .inr (5, [.int mod_code, .int mod_gates, .int mod_feeds, .int mod_inputs, .int mod_latches, .int mod_outputs, .ref a_mod_sort, .ref a_mod_number, .ref a_mod_value, .ref a_mod_made, .ref a_mod_to, .ref a_mod_from, .ref a_mod_outputOf, .ref a_mod_negated, .int mod_explored, .ref a_mod_settles, .ref a_mod_next, .ref a_mod_ones, .ref a_mod_distance, .ref a_mod_apart, .ref a_mod_leads])), (a_mod_sort, .inl (cI, 60, .inl mod_sort)), (a_mod_number, .inl (cI, 60, .inl mod_number))] sz) := by
  refine Met.ofW (cc := cMod_gate) (maxL := 2) (ret := (some .int)) (by decide) rfl ?_
  intro p e s m args below meth c s₁ B hml hv
  obtain ⟨rfl, hsz, hP, hK, hD0, hX⟩ := hv
  have hx := B.exec
  have hb := B.bytes
  have hr := B.returns
  have hts0 := atoms_spec (ws := wsMod_gate) B.pre
  have hts : ∀ w ∈ tb, w.before _ s = true := fun w h => hts0 w (List.mem_cons_of_mem _ h)
  have hown : s.vm.findClass "StateExplorerModel" = some m.cls := findClass_of_methodNamed B.named
  have hlocks := B.notSynchronized
  subst hsz
  have hD := hD0.self (sz := s.heap.size)
  generalize hAe : va_A [(h_mod, .inr (5, [.int mod_code, .int mod_gates, .int mod_feeds, .int mod_inputs, .int mod_latches, .int mod_outputs, .ref a_mod_sort, .ref a_mod_number, .ref a_mod_value, .ref a_mod_made, .ref a_mod_to, .ref a_mod_from, .ref a_mod_outputOf, .ref a_mod_negated, .int mod_explored, .ref a_mod_settles, .ref a_mod_next, .ref a_mod_ones, .ref a_mod_distance, .ref a_mod_apart, .ref a_mod_leads])), (a_mod_sort, .inl (cI, 60, .inl mod_sort)), (a_mod_number, .inl (cI, 60, .inl mod_number))] s.heap.size = A at hD hX ⊢
  have hA : ∀ q : Nat, s.heap.size ≤ q → A q := fun q h => by rw [← hAe]; exact Or.inr h
  have hS : va_S A s.heap s.heap [] := va_S.rf
  have hl := lv_entry ([.ref h_mod, .int p0]) (n := 2) (Nat.le_of_ble_eq_true rfl)
  rw [lg_entry_eq]
  generalize (lg_sl ([.ref h_mod, .int p0]) ++ List.replicate (2 - (lg_sl ([.ref h_mod, .int p0])).length) Slot.unset).toArray = ls at hl ⊢
  have hl : lv_has ls 2 [(0, .ref h_mod), (1, .int p0)] := hl
  have C0 : sx_C p s m _ meth c cMod_gate 2 "StateExplorerModel" A (dC, dI) [(cI, .int), (cL, .long), (cZ, .boolean)] t1 t2 := ⟨hx, hb, hml, hown, hts, hA, hK, hlocks, hX⟩
  rw [m_Mod_gate] at hm
  refine lv_aload_n hx hb dMod_gate_0 rfl (lv_at hl 0 rfl) ?_
  refine lv_iload_n hx hb dMod_gate_1 rfl (lv_at hl 1 rfl) ?_
  obtain ⟨J1, hJ1, hm⟩ := sx_lj hm
  have jJ1 : ∀ (z0J1 : Int32), J1 z0J1 = some v → ∀ (ls : Array Slot), lv_has ls 2 [(0, .ref h_mod), (1, .int p0)] → W p l e (headSpec wsMod_gate rm_Mod_gate).room s m ([.ref h_mod, .int p0]).toArray below meth c s.heap [] 0 0 (MQ below (va_Qi (fun (r : Int32) (_ : Unit) => r = v.1) (fun _ t => sx_W (dC, dI) [(cI, .int), (cL, .long), (cZ, .boolean)] A [(h_mod, .inr (5, [.int v.2.1, .int v.2.2.1, .int mod_feeds, .int v.2.2.2.1, .int v.2.2.2.2.1, .int mod_outputs, .ref a_mod_sort, .ref a_mod_number, .ref a_mod_value, .ref a_mod_made, .ref a_mod_to, .ref a_mod_from, .ref a_mod_outputOf, .ref a_mod_negated, .int v.2.2.2.2.2.2.2, .ref a_mod_settles, .ref a_mod_next, .ref a_mod_ones, .ref a_mod_distance, .ref a_mod_apart, .ref a_mod_leads])), (a_mod_sort, .inl (cI, 60, .inl v.2.2.2.2.2.1)), (a_mod_number, .inl (cI, 60, .inl v.2.2.2.2.2.2.1))] t) A) ([.ref h_mod, .int p0]).toArray s 0 0 A) (F0 m 15 ls [.int z0J1, .ref h_mod]) := by
    intro z0J1 hm ls hl
    rw [hJ1] at hm
    dsimp only at hm
    refine lv_iconst (v := (0 : Int32)) hx hb dMod_gate_15 (by decide) ?_
    obtain ⟨v2, hv2, hm⟩ := sx_bind hm
    have hPc := hP.sub (ws' := [(h_mod, .inr (5, [.int mod_code, .int mod_gates, .int mod_feeds, .int mod_inputs, .int mod_latches, .int mod_outputs, .ref a_mod_sort, .ref a_mod_number, .ref a_mod_value, .ref a_mod_made, .ref a_mod_to, .ref a_mod_from, .ref a_mod_outputOf, .ref a_mod_negated, .int mod_explored, .ref a_mod_settles, .ref a_mod_next, .ref a_mod_ones, .ref a_mod_distance, .ref a_mod_apart, .ref a_mod_leads]))]) [0] rfl
    have hDc := hD.sub (ws' := [(h_mod, .inr (5, [.int mod_code, .int mod_gates, .int mod_feeds, .int mod_inputs, .int mod_latches, .int mod_outputs, .ref a_mod_sort, .ref a_mod_number, .ref a_mod_value, .ref a_mod_made, .ref a_mod_to, .ref a_mod_from, .ref a_mod_outputOf, .ref a_mod_negated, .int mod_explored, .ref a_mod_settles, .ref a_mod_next, .ref a_mod_ones, .ref a_mod_distance, .ref a_mod_apart, .ref a_mod_leads]))]) [0] (by decide) rfl
    have hFc := va_free (wc := [(h_mod, .inr (5, [.int mod_code, .int mod_gates, .int mod_feeds, .int mod_inputs, .int mod_latches, .int mod_outputs, .ref a_mod_sort, .ref a_mod_number, .ref a_mod_value, .ref a_mod_made, .ref a_mod_to, .ref a_mod_from, .ref a_mod_outputOf, .ref a_mod_negated, .int mod_explored, .ref a_mod_settles, .ref a_mod_next, .ref a_mod_ones, .ref a_mod_distance, .ref a_mod_apart, .ref a_mod_leads]))]) hD hS hA [0] rfl
    refine va_calli (va_runV (As := [.int z0J1, .int (0 : Int32)]) (rest := []) ⟨hx, hb, hml, hown, hts⟩ (k_Mod_fails l dC dI cI cL cZ t1 t2 h_mod a_mod_sort a_mod_number a_mod_value a_mod_made a_mod_to a_mod_from a_mod_outputOf a_mod_negated a_mod_settles a_mod_next a_mod_ones a_mod_distance a_mod_apart a_mod_leads mod_code mod_gates mod_feeds mod_inputs mod_latches mod_outputs mod_explored _ z0J1 (0 : Int32) v2 hv2) (cwV 2 hts (sx_gV tw_680 tw_682 tw_19 tw_41 tcMod_fails) rfl rfl rfl (by decide +kernel) ⟨Nat.le_of_ble_eq_true rfl, Nat.le_of_ble_eq_true rfl⟩) (sx_pV hK hX hS hPc hDc hFc (va_recv hK hPc (ci := 5) (q0 := 0) rfl rfl)) rfl rfl hl.1 rfl (lv_room (Nat.le_of_ble_eq_true rfl)) dMod_gate_16 ⟨Nat.le_of_ble_eq_true rfl, Nat.le_of_ble_eq_true rfl⟩) hS (fun q _ h => hFc q h) hFc (fun r3 u_ t_ H locs ht hvm hw hB hz1 hk1 hS => ?_)
    obtain ⟨hP1, -, hD1⟩ := hB
    rw [ht] at hP1
    obtain ⟨hP, hD⟩ := va_join (wr := [(a_mod_sort, .inl (cI, 60, .inl mod_sort)), (a_mod_number, .inl (cI, 60, .inl mod_number))]) (w1 := [(h_mod, .inr (5, [.int v2.2, .int mod_gates, .int mod_feeds, .int mod_inputs, .int mod_latches, .int mod_outputs, .ref a_mod_sort, .ref a_mod_number, .ref a_mod_value, .ref a_mod_made, .ref a_mod_to, .ref a_mod_from, .ref a_mod_outputOf, .ref a_mod_negated, .int mod_explored, .ref a_mod_settles, .ref a_mod_next, .ref a_mod_ones, .ref a_mod_distance, .ref a_mod_apart, .ref a_mod_leads]))]) hP hD [0] [1, 2] rfl rfl (by decide) (by decide) hk1 hFc hP1 hD1
    have hP : va_P (dC, dI) vwCl [(a_mod_sort, .inl (cI, 60, .inl mod_sort)), (a_mod_number, .inl (cI, 60, .inl mod_number)), (h_mod, .inr (5, [.int v2.2, .int mod_gates, .int mod_feeds, .int mod_inputs, .int mod_latches, .int mod_outputs, .ref a_mod_sort, .ref a_mod_number, .ref a_mod_value, .ref a_mod_made, .ref a_mod_to, .ref a_mod_from, .ref a_mod_outputOf, .ref a_mod_negated, .int mod_explored, .ref a_mod_settles, .ref a_mod_next, .ref a_mod_ones, .ref a_mod_distance, .ref a_mod_apart, .ref a_mod_leads]))] H := hP
    have hD : va_D A [(a_mod_sort, .inl (cI, 60, .inl mod_sort)), (a_mod_number, .inl (cI, 60, .inl mod_number)), (h_mod, .inr (5, [.int v2.2, .int mod_gates, .int mod_feeds, .int mod_inputs, .int mod_latches, .int mod_outputs, .ref a_mod_sort, .ref a_mod_number, .ref a_mod_value, .ref a_mod_made, .ref a_mod_to, .ref a_mod_from, .ref a_mod_outputOf, .ref a_mod_negated, .int mod_explored, .ref a_mod_settles, .ref a_mod_next, .ref a_mod_ones, .ref a_mod_distance, .ref a_mod_apart, .ref a_mod_leads]))] := hD
    have hw9 := hw.symm
    subst hw9
    refine lv_if_eq (tgt := 24) hx hb dMod_gate_19 (by decide) (fun c4 => ?_) (fun c4 => ?_)
    · have hm := sx_pos c4 hm
      refine lv_aload_n hx hb dMod_gate_24 rfl (lv_at hl 0 rfl) ?_
      refine va_get (D := (dC, dI)) (ci := 5) (v := .int mod_gates) (C := RMod) (T := TMod) (N := 21) hx hb hts inMod hown hK hP 2 rfl rfl 1 (by decide) (hts _ tw_612) (fun _ h9 => h9) rfl dMod_gate_25 ?_
      refine lv_bipush (v := (60 : Int32)) hx hb dMod_gate_28 (by decide) ?_
      refine lv_icmp_eq (tgt := 59) hx hb dMod_gate_30 (by decide) (fun c5 => ?_) (fun c5 => ?_)
      · have hm := sx_pos c5 hm
        refine lv_iconst (v := (-1 : Int32)) hx hb dMod_gate_59 (by decide) ?_
        obtain rfl := Option.some.inj hm
        exact W.iret (v := (-1 : Int32)) hx hb hr (fun t ht hW => ⟨⟨(-1 : Int32), (), rfl, rfl, sx_Wi (hP.sub (ws' := [(h_mod, .inr (5, [.int v2.2, .int mod_gates, .int mod_feeds, .int mod_inputs, .int mod_latches, .int mod_outputs, .ref a_mod_sort, .ref a_mod_number, .ref a_mod_value, .ref a_mod_made, .ref a_mod_to, .ref a_mod_from, .ref a_mod_outputOf, .ref a_mod_negated, .int mod_explored, .ref a_mod_settles, .ref a_mod_next, .ref a_mod_ones, .ref a_mod_distance, .ref a_mod_apart, .ref a_mod_leads])), (a_mod_sort, .inl (cI, 60, .inl mod_sort)), (a_mod_number, .inl (cI, 60, .inl mod_number))]) [2, 0, 1] rfl) hK (hD.sub (ws' := [(h_mod, .inr (5, [.int v2.2, .int mod_gates, .int mod_feeds, .int mod_inputs, .int mod_latches, .int mod_outputs, .ref a_mod_sort, .ref a_mod_number, .ref a_mod_value, .ref a_mod_made, .ref a_mod_to, .ref a_mod_from, .ref a_mod_outputOf, .ref a_mod_negated, .int mod_explored, .ref a_mod_settles, .ref a_mod_next, .ref a_mod_ones, .ref a_mod_distance, .ref a_mod_apart, .ref a_mod_leads])), (a_mod_sort, .inl (cI, 60, .inl mod_sort)), (a_mod_number, .inl (cI, 60, .inl mod_number))]) [2, 0, 1] (by decide) rfl) ht hW.alike⟩, hS.F ht⟩) hS.2.2 dMod_gate_60
      · have hm := sx_neg c5 hm
        refine lv_iload_n hx hb dMod_gate_33 rfl (lv_at hl 1 rfl) ?_
        obtain ⟨J6, hJ6, hm⟩ := sx_lj hm
        have jJ6 : ∀ (_ : Unit), J6 () = some v → ∀ (ls : Array Slot), lv_has ls 2 [(0, .ref h_mod), (1, .int p0)] → W p l e (headSpec wsMod_gate rm_Mod_gate).room s m ([.ref h_mod, .int p0]).toArray below meth c H locs 0 0 (MQ below (va_Qi (fun (r : Int32) (_ : Unit) => r = v.1) (fun _ t => sx_W (dC, dI) [(cI, .int), (cL, .long), (cZ, .boolean)] A [(h_mod, .inr (5, [.int v.2.1, .int v.2.2.1, .int mod_feeds, .int v.2.2.2.1, .int v.2.2.2.2.1, .int mod_outputs, .ref a_mod_sort, .ref a_mod_number, .ref a_mod_value, .ref a_mod_made, .ref a_mod_to, .ref a_mod_from, .ref a_mod_outputOf, .ref a_mod_negated, .int v.2.2.2.2.2.2.2, .ref a_mod_settles, .ref a_mod_next, .ref a_mod_ones, .ref a_mod_distance, .ref a_mod_apart, .ref a_mod_leads])), (a_mod_sort, .inl (cI, 60, .inl v.2.2.2.2.2.1)), (a_mod_number, .inl (cI, 60, .inl v.2.2.2.2.2.2.1))] t) A) ([.ref h_mod, .int p0]).toArray s 0 0 A) (F0 m 45 ls []) := by
          intro _ hm ls hl
          rw [hJ6] at hm
          dsimp only at hm
          refine lv_iload_n hx hb dMod_gate_45 rfl (lv_at hl 1 rfl) ?_
          refine lv_iconst (v := (1 : Int32)) hx hb dMod_gate_46 (by decide) ?_
          obtain ⟨J7, hJ7, hm⟩ := sx_lj hm
          have jJ7 : ∀ (_ : Unit), J7 () = some v → ∀ (ls : Array Slot), lv_has ls 2 [(0, .ref h_mod), (1, .int p0)] → W p l e (headSpec wsMod_gate rm_Mod_gate).room s m ([.ref h_mod, .int p0]).toArray below meth c H locs 0 0 (MQ below (va_Qi (fun (r : Int32) (_ : Unit) => r = v.1) (fun _ t => sx_W (dC, dI) [(cI, .int), (cL, .long), (cZ, .boolean)] A [(h_mod, .inr (5, [.int v.2.1, .int v.2.2.1, .int mod_feeds, .int v.2.2.2.1, .int v.2.2.2.2.1, .int mod_outputs, .ref a_mod_sort, .ref a_mod_number, .ref a_mod_value, .ref a_mod_made, .ref a_mod_to, .ref a_mod_from, .ref a_mod_outputOf, .ref a_mod_negated, .int v.2.2.2.2.2.2.2, .ref a_mod_settles, .ref a_mod_next, .ref a_mod_ones, .ref a_mod_distance, .ref a_mod_apart, .ref a_mod_leads])), (a_mod_sort, .inl (cI, 60, .inl v.2.2.2.2.2.1)), (a_mod_number, .inl (cI, 60, .inl v.2.2.2.2.2.2.1))] t) A) ([.ref h_mod, .int p0]).toArray s 0 0 A) (F0 m 61 ls []) := by
            intro _ hm ls hl
            rw [hJ7] at hm
            dsimp only at hm
            refine lv_aload_n hx hb dMod_gate_61 rfl (lv_at hl 0 rfl) ?_
            refine va_get (D := (dC, dI)) (ci := 5) (v := .ref a_mod_sort) (C := RMod) (T := TMod) (N := 21) hx hb hts inMod hown hK hP 2 rfl rfl 6 (by decide) (hts _ tw_617) (fun _ h9 => h9) rfl dMod_gate_62 ?_
            refine lv_aload_n hx hb dMod_gate_65 rfl (lv_at hl 0 rfl) ?_
            refine va_get (D := (dC, dI)) (ci := 5) (v := .int mod_gates) (C := RMod) (T := TMod) (N := 21) hx hb hts inMod hown hK hP 2 rfl rfl 1 (by decide) (hts _ tw_612) (fun _ h9 => h9) rfl dMod_gate_66 ?_
            refine lv_iload_n hx hb dMod_gate_69 rfl (lv_at hl 1 rfl) ?_
            obtain ⟨g8, hm⟩ := gd_el hm
            refine va_iast hx hb hK hP hD hS 0 0 rfl rfl g8 dMod_gate_70 (fun H locs hP hD hS => ?_)
            have hP : va_P (dC, dI) vwCl [(a_mod_sort, .inl (cI, 60, .inl (upd mod_sort mod_gates.toNatClampNeg p0))), (a_mod_number, .inl (cI, 60, .inl mod_number)), (h_mod, .inr (5, [.int v2.2, .int mod_gates, .int mod_feeds, .int mod_inputs, .int mod_latches, .int mod_outputs, .ref a_mod_sort, .ref a_mod_number, .ref a_mod_value, .ref a_mod_made, .ref a_mod_to, .ref a_mod_from, .ref a_mod_outputOf, .ref a_mod_negated, .int mod_explored, .ref a_mod_settles, .ref a_mod_next, .ref a_mod_ones, .ref a_mod_distance, .ref a_mod_apart, .ref a_mod_leads]))] H := hP
            have hD : va_D A [(a_mod_sort, .inl (cI, 60, .inl (upd mod_sort mod_gates.toNatClampNeg p0))), (a_mod_number, .inl (cI, 60, .inl mod_number)), (h_mod, .inr (5, [.int v2.2, .int mod_gates, .int mod_feeds, .int mod_inputs, .int mod_latches, .int mod_outputs, .ref a_mod_sort, .ref a_mod_number, .ref a_mod_value, .ref a_mod_made, .ref a_mod_to, .ref a_mod_from, .ref a_mod_outputOf, .ref a_mod_negated, .int mod_explored, .ref a_mod_settles, .ref a_mod_next, .ref a_mod_ones, .ref a_mod_distance, .ref a_mod_apart, .ref a_mod_leads]))] := hD
            refine lv_aload_n hx hb dMod_gate_71 rfl (lv_at hl 0 rfl) ?_
            refine va_get (D := (dC, dI)) (ci := 5) (v := .ref a_mod_number) (C := RMod) (T := TMod) (N := 21) hx hb hts inMod hown hK hP 2 rfl rfl 7 (by decide) (hts _ tw_618) (fun _ h9 => h9) rfl dMod_gate_72 ?_
            refine lv_aload_n hx hb dMod_gate_75 rfl (lv_at hl 0 rfl) ?_
            refine va_get (D := (dC, dI)) (ci := 5) (v := .int mod_gates) (C := RMod) (T := TMod) (N := 21) hx hb hts inMod hown hK hP 2 rfl rfl 1 (by decide) (hts _ tw_612) (fun _ h9 => h9) rfl dMod_gate_76 ?_
            refine lv_iload_n hx hb dMod_gate_79 rfl (lv_at hl 1 rfl) ?_
            obtain ⟨J9, hJ9, hm⟩ := sx_lj hm
            have jJ9 : ∀ (z0J9 : Int32) (z1J9 : Int32), J9 z0J9 z1J9 = some v → ∀ (ls : Array Slot), lv_has ls 2 [(0, .ref h_mod), (1, .int p0)] → W p l e (headSpec wsMod_gate rm_Mod_gate).room s m ([.ref h_mod, .int p0]).toArray below meth c H locs 0 0 (MQ below (va_Qi (fun (r : Int32) (_ : Unit) => r = v.1) (fun _ t => sx_W (dC, dI) [(cI, .int), (cL, .long), (cZ, .boolean)] A [(h_mod, .inr (5, [.int v.2.1, .int v.2.2.1, .int mod_feeds, .int v.2.2.2.1, .int v.2.2.2.2.1, .int mod_outputs, .ref a_mod_sort, .ref a_mod_number, .ref a_mod_value, .ref a_mod_made, .ref a_mod_to, .ref a_mod_from, .ref a_mod_outputOf, .ref a_mod_negated, .int v.2.2.2.2.2.2.2, .ref a_mod_settles, .ref a_mod_next, .ref a_mod_ones, .ref a_mod_distance, .ref a_mod_apart, .ref a_mod_leads])), (a_mod_sort, .inl (cI, 60, .inl v.2.2.2.2.2.1)), (a_mod_number, .inl (cI, 60, .inl v.2.2.2.2.2.2.1))] t) A) ([.ref h_mod, .int p0]).toArray s 0 0 A) (F0 m 103 ls [.int z0J9, .int z1J9, .ref a_mod_number]) := by
              intro z0J9 z1J9 hm ls hl
              rw [hJ9] at hm
              dsimp only at hm
              obtain ⟨g10, hm⟩ := gd_el hm
              refine va_iast hx hb hK hP hD hS 1 0 rfl rfl g10 dMod_gate_103 (fun H locs hP hD hS => ?_)
              have hP : va_P (dC, dI) vwCl [(a_mod_sort, .inl (cI, 60, .inl (upd mod_sort mod_gates.toNatClampNeg p0))), (a_mod_number, .inl (cI, 60, .inl (upd mod_number z1J9.toNatClampNeg z0J9))), (h_mod, .inr (5, [.int v2.2, .int mod_gates, .int mod_feeds, .int mod_inputs, .int mod_latches, .int mod_outputs, .ref a_mod_sort, .ref a_mod_number, .ref a_mod_value, .ref a_mod_made, .ref a_mod_to, .ref a_mod_from, .ref a_mod_outputOf, .ref a_mod_negated, .int mod_explored, .ref a_mod_settles, .ref a_mod_next, .ref a_mod_ones, .ref a_mod_distance, .ref a_mod_apart, .ref a_mod_leads]))] H := hP
              have hD : va_D A [(a_mod_sort, .inl (cI, 60, .inl (upd mod_sort mod_gates.toNatClampNeg p0))), (a_mod_number, .inl (cI, 60, .inl (upd mod_number z1J9.toNatClampNeg z0J9))), (h_mod, .inr (5, [.int v2.2, .int mod_gates, .int mod_feeds, .int mod_inputs, .int mod_latches, .int mod_outputs, .ref a_mod_sort, .ref a_mod_number, .ref a_mod_value, .ref a_mod_made, .ref a_mod_to, .ref a_mod_from, .ref a_mod_outputOf, .ref a_mod_negated, .int mod_explored, .ref a_mod_settles, .ref a_mod_next, .ref a_mod_ones, .ref a_mod_distance, .ref a_mod_apart, .ref a_mod_leads]))] := hD
              refine lv_aload_n hx hb dMod_gate_104 rfl (lv_at hl 0 rfl) ?_
              refine lv_iload_n hx hb dMod_gate_105 rfl (lv_at hl 1 rfl) ?_
              obtain ⟨J11, hJ11, hm⟩ := sx_lj hm
              have jJ11 : ∀ (z0J11 : Int32), J11 z0J11 = some v → ∀ (ls : Array Slot), lv_has ls 2 [(0, .ref h_mod), (1, .int p0)] → W p l e (headSpec wsMod_gate rm_Mod_gate).room s m ([.ref h_mod, .int p0]).toArray below meth c H locs 0 0 (MQ below (va_Qi (fun (r : Int32) (_ : Unit) => r = v.1) (fun _ t => sx_W (dC, dI) [(cI, .int), (cL, .long), (cZ, .boolean)] A [(h_mod, .inr (5, [.int v.2.1, .int v.2.2.1, .int mod_feeds, .int v.2.2.2.1, .int v.2.2.2.2.1, .int mod_outputs, .ref a_mod_sort, .ref a_mod_number, .ref a_mod_value, .ref a_mod_made, .ref a_mod_to, .ref a_mod_from, .ref a_mod_outputOf, .ref a_mod_negated, .int v.2.2.2.2.2.2.2, .ref a_mod_settles, .ref a_mod_next, .ref a_mod_ones, .ref a_mod_distance, .ref a_mod_apart, .ref a_mod_leads])), (a_mod_sort, .inl (cI, 60, .inl v.2.2.2.2.2.1)), (a_mod_number, .inl (cI, 60, .inl v.2.2.2.2.2.2.1))] t) A) ([.ref h_mod, .int p0]).toArray s 0 0 A) (F0 m 122 ls [.int z0J11, .ref h_mod]) := by
                intro z0J11 hm ls hl
                rw [hJ11] at hm
                dsimp only at hm
                refine va_put (D := (dC, dI)) (ci := 5) (v := .int z0J11) (ty := .int) (C := RMod) (T := TMod) (N := 21) hx hb hts inMod tyMod tyMod_ok nmMod hown hK hP hD hS 2 rfl rfl 3 (by decide) (hts _ tw_614) (fun _ h9 => h9) rfl (by decide +kernel) rfl rfl (Nat.le_of_ble_eq_true rfl) dMod_gate_122 (fun H locs hP hD hS => ?_)
                have hP : va_P (dC, dI) vwCl [(a_mod_sort, .inl (cI, 60, .inl (upd mod_sort mod_gates.toNatClampNeg p0))), (a_mod_number, .inl (cI, 60, .inl (upd mod_number z1J9.toNatClampNeg z0J9))), (h_mod, .inr (5, [.int v2.2, .int mod_gates, .int mod_feeds, .int z0J11, .int mod_latches, .int mod_outputs, .ref a_mod_sort, .ref a_mod_number, .ref a_mod_value, .ref a_mod_made, .ref a_mod_to, .ref a_mod_from, .ref a_mod_outputOf, .ref a_mod_negated, .int mod_explored, .ref a_mod_settles, .ref a_mod_next, .ref a_mod_ones, .ref a_mod_distance, .ref a_mod_apart, .ref a_mod_leads]))] H := hP
                have hD : va_D A [(a_mod_sort, .inl (cI, 60, .inl (upd mod_sort mod_gates.toNatClampNeg p0))), (a_mod_number, .inl (cI, 60, .inl (upd mod_number z1J9.toNatClampNeg z0J9))), (h_mod, .inr (5, [.int v2.2, .int mod_gates, .int mod_feeds, .int z0J11, .int mod_latches, .int mod_outputs, .ref a_mod_sort, .ref a_mod_number, .ref a_mod_value, .ref a_mod_made, .ref a_mod_to, .ref a_mod_from, .ref a_mod_outputOf, .ref a_mod_negated, .int mod_explored, .ref a_mod_settles, .ref a_mod_next, .ref a_mod_ones, .ref a_mod_distance, .ref a_mod_apart, .ref a_mod_leads]))] := hD
                refine lv_aload_n hx hb dMod_gate_125 rfl (lv_at hl 0 rfl) ?_
                refine lv_iload_n hx hb dMod_gate_126 rfl (lv_at hl 1 rfl) ?_
                refine lv_iconst (v := (1 : Int32)) hx hb dMod_gate_127 (by decide) ?_
                obtain ⟨J12, hJ12, hm⟩ := sx_lj hm
                have jJ12 : ∀ (z0J12 : Int32), J12 z0J12 = some v → ∀ (ls : Array Slot), lv_has ls 2 [(0, .ref h_mod)] → W p l e (headSpec wsMod_gate rm_Mod_gate).room s m ([.ref h_mod, .int p0]).toArray below meth c H locs 0 0 (MQ below (va_Qi (fun (r : Int32) (_ : Unit) => r = v.1) (fun _ t => sx_W (dC, dI) [(cI, .int), (cL, .long), (cZ, .boolean)] A [(h_mod, .inr (5, [.int v.2.1, .int v.2.2.1, .int mod_feeds, .int v.2.2.2.1, .int v.2.2.2.2.1, .int mod_outputs, .ref a_mod_sort, .ref a_mod_number, .ref a_mod_value, .ref a_mod_made, .ref a_mod_to, .ref a_mod_from, .ref a_mod_outputOf, .ref a_mod_negated, .int v.2.2.2.2.2.2.2, .ref a_mod_settles, .ref a_mod_next, .ref a_mod_ones, .ref a_mod_distance, .ref a_mod_apart, .ref a_mod_leads])), (a_mod_sort, .inl (cI, 60, .inl v.2.2.2.2.2.1)), (a_mod_number, .inl (cI, 60, .inl v.2.2.2.2.2.2.1))] t) A) ([.ref h_mod, .int p0]).toArray s 0 0 A) (F0 m 144 ls [.int z0J12, .ref h_mod]) := by
                  intro z0J12 hm ls hl
                  rw [hJ12] at hm
                  dsimp only at hm
                  refine va_put (D := (dC, dI)) (ci := 5) (v := .int z0J12) (ty := .int) (C := RMod) (T := TMod) (N := 21) hx hb hts inMod tyMod tyMod_ok nmMod hown hK hP hD hS 2 rfl rfl 4 (by decide) (hts _ tw_615) (fun _ h9 => h9) rfl (by decide +kernel) rfl rfl (Nat.le_of_ble_eq_true rfl) dMod_gate_144 (fun H locs hP hD hS => ?_)
                  have hP : va_P (dC, dI) vwCl [(a_mod_sort, .inl (cI, 60, .inl (upd mod_sort mod_gates.toNatClampNeg p0))), (a_mod_number, .inl (cI, 60, .inl (upd mod_number z1J9.toNatClampNeg z0J9))), (h_mod, .inr (5, [.int v2.2, .int mod_gates, .int mod_feeds, .int z0J11, .int z0J12, .int mod_outputs, .ref a_mod_sort, .ref a_mod_number, .ref a_mod_value, .ref a_mod_made, .ref a_mod_to, .ref a_mod_from, .ref a_mod_outputOf, .ref a_mod_negated, .int mod_explored, .ref a_mod_settles, .ref a_mod_next, .ref a_mod_ones, .ref a_mod_distance, .ref a_mod_apart, .ref a_mod_leads]))] H := hP
                  have hD : va_D A [(a_mod_sort, .inl (cI, 60, .inl (upd mod_sort mod_gates.toNatClampNeg p0))), (a_mod_number, .inl (cI, 60, .inl (upd mod_number z1J9.toNatClampNeg z0J9))), (h_mod, .inr (5, [.int v2.2, .int mod_gates, .int mod_feeds, .int z0J11, .int z0J12, .int mod_outputs, .ref a_mod_sort, .ref a_mod_number, .ref a_mod_value, .ref a_mod_made, .ref a_mod_to, .ref a_mod_from, .ref a_mod_outputOf, .ref a_mod_negated, .int mod_explored, .ref a_mod_settles, .ref a_mod_next, .ref a_mod_ones, .ref a_mod_distance, .ref a_mod_apart, .ref a_mod_leads]))] := hD
                  refine lv_aload_n hx hb dMod_gate_147 rfl (lv_at hl 0 rfl) ?_
                  refine lv_dup hx hb dMod_gate_148 rfl ?_
                  refine va_get (D := (dC, dI)) (ci := 5) (v := .int mod_gates) (C := RMod) (T := TMod) (N := 21) hx hb hts inMod hown hK hP 2 rfl rfl 1 (by decide) (hts _ tw_612) (fun _ h9 => h9) rfl dMod_gate_149 ?_
                  refine lv_iconst (v := (1 : Int32)) hx hb dMod_gate_152 (by decide) ?_
                  refine lv_iadd hx hb dMod_gate_153 ?_
                  refine va_put (D := (dC, dI)) (ci := 5) (v := .int (mod_gates + (1 : Int32))) (ty := .int) (C := RMod) (T := TMod) (N := 21) hx hb hts inMod tyMod tyMod_ok nmMod hown hK hP hD hS 2 rfl rfl 1 (by decide) (hts _ tw_612) (fun _ h9 => h9) rfl (by decide +kernel) rfl rfl (Nat.le_of_ble_eq_true rfl) dMod_gate_154 (fun H locs hP hD hS => ?_)
                  have hP : va_P (dC, dI) vwCl [(a_mod_sort, .inl (cI, 60, .inl (upd mod_sort mod_gates.toNatClampNeg p0))), (a_mod_number, .inl (cI, 60, .inl (upd mod_number z1J9.toNatClampNeg z0J9))), (h_mod, .inr (5, [.int v2.2, .int (mod_gates + (1 : Int32)), .int mod_feeds, .int z0J11, .int z0J12, .int mod_outputs, .ref a_mod_sort, .ref a_mod_number, .ref a_mod_value, .ref a_mod_made, .ref a_mod_to, .ref a_mod_from, .ref a_mod_outputOf, .ref a_mod_negated, .int mod_explored, .ref a_mod_settles, .ref a_mod_next, .ref a_mod_ones, .ref a_mod_distance, .ref a_mod_apart, .ref a_mod_leads]))] H := hP
                  have hD : va_D A [(a_mod_sort, .inl (cI, 60, .inl (upd mod_sort mod_gates.toNatClampNeg p0))), (a_mod_number, .inl (cI, 60, .inl (upd mod_number z1J9.toNatClampNeg z0J9))), (h_mod, .inr (5, [.int v2.2, .int (mod_gates + (1 : Int32)), .int mod_feeds, .int z0J11, .int z0J12, .int mod_outputs, .ref a_mod_sort, .ref a_mod_number, .ref a_mod_value, .ref a_mod_made, .ref a_mod_to, .ref a_mod_from, .ref a_mod_outputOf, .ref a_mod_negated, .int mod_explored, .ref a_mod_settles, .ref a_mod_next, .ref a_mod_ones, .ref a_mod_distance, .ref a_mod_apart, .ref a_mod_leads]))] := hD
                  refine lv_aload_n hx hb dMod_gate_157 rfl (lv_at hl 0 rfl) ?_
                  refine lv_iconst (v := (0 : Int32)) hx hb dMod_gate_158 (by decide) ?_
                  refine va_put (D := (dC, dI)) (ci := 5) (v := .int (0 : Int32)) (ty := .boolean) (C := RMod) (T := TMod) (N := 21) hx hb hts inMod tyMod tyMod_ok nmMod hown hK hP hD hS 2 rfl rfl 14 (by decide) (hts _ tw_625) (fun _ h9 => h9) rfl (by decide +kernel) (by decide) (by decide) (Nat.le_of_ble_eq_true rfl) dMod_gate_159 (fun H locs hP hD hS => ?_)
                  have hP : va_P (dC, dI) vwCl [(a_mod_sort, .inl (cI, 60, .inl (upd mod_sort mod_gates.toNatClampNeg p0))), (a_mod_number, .inl (cI, 60, .inl (upd mod_number z1J9.toNatClampNeg z0J9))), (h_mod, .inr (5, [.int v2.2, .int (mod_gates + (1 : Int32)), .int mod_feeds, .int z0J11, .int z0J12, .int mod_outputs, .ref a_mod_sort, .ref a_mod_number, .ref a_mod_value, .ref a_mod_made, .ref a_mod_to, .ref a_mod_from, .ref a_mod_outputOf, .ref a_mod_negated, .int (0 : Int32), .ref a_mod_settles, .ref a_mod_next, .ref a_mod_ones, .ref a_mod_distance, .ref a_mod_apart, .ref a_mod_leads]))] H := hP
                  have hD : va_D A [(a_mod_sort, .inl (cI, 60, .inl (upd mod_sort mod_gates.toNatClampNeg p0))), (a_mod_number, .inl (cI, 60, .inl (upd mod_number z1J9.toNatClampNeg z0J9))), (h_mod, .inr (5, [.int v2.2, .int (mod_gates + (1 : Int32)), .int mod_feeds, .int z0J11, .int z0J12, .int mod_outputs, .ref a_mod_sort, .ref a_mod_number, .ref a_mod_value, .ref a_mod_made, .ref a_mod_to, .ref a_mod_from, .ref a_mod_outputOf, .ref a_mod_negated, .int (0 : Int32), .ref a_mod_settles, .ref a_mod_next, .ref a_mod_ones, .ref a_mod_distance, .ref a_mod_apart, .ref a_mod_leads]))] := hD
                  refine lv_aload_n hx hb dMod_gate_162 rfl (lv_at hl 0 rfl) ?_
                  refine va_get (D := (dC, dI)) (ci := 5) (v := .int (mod_gates + (1 : Int32))) (C := RMod) (T := TMod) (N := 21) hx hb hts inMod hown hK hP 2 rfl rfl 1 (by decide) (hts _ tw_612) (fun _ h9 => h9) rfl dMod_gate_163 ?_
                  refine lv_iconst (v := (1 : Int32)) hx hb dMod_gate_166 (by decide) ?_
                  refine lv_isub hx hb dMod_gate_167 ?_
                  obtain rfl := Option.some.inj hm
                  exact W.iret (v := (mod_gates + (1 : Int32)) - (1 : Int32)) hx hb hr (fun t ht hW => ⟨⟨((mod_gates + (1 : Int32)) - (1 : Int32)), (), rfl, rfl, sx_Wi (hP.sub (ws' := [(h_mod, .inr (5, [.int v2.2, .int (mod_gates + (1 : Int32)), .int mod_feeds, .int z0J11, .int z0J12, .int mod_outputs, .ref a_mod_sort, .ref a_mod_number, .ref a_mod_value, .ref a_mod_made, .ref a_mod_to, .ref a_mod_from, .ref a_mod_outputOf, .ref a_mod_negated, .int (0 : Int32), .ref a_mod_settles, .ref a_mod_next, .ref a_mod_ones, .ref a_mod_distance, .ref a_mod_apart, .ref a_mod_leads])), (a_mod_sort, .inl (cI, 60, .inl (upd mod_sort mod_gates.toNatClampNeg p0))), (a_mod_number, .inl (cI, 60, .inl (upd mod_number z1J9.toNatClampNeg z0J9)))]) [2, 0, 1] rfl) hK (hD.sub (ws' := [(h_mod, .inr (5, [.int v2.2, .int (mod_gates + (1 : Int32)), .int mod_feeds, .int z0J11, .int z0J12, .int mod_outputs, .ref a_mod_sort, .ref a_mod_number, .ref a_mod_value, .ref a_mod_made, .ref a_mod_to, .ref a_mod_from, .ref a_mod_outputOf, .ref a_mod_negated, .int (0 : Int32), .ref a_mod_settles, .ref a_mod_next, .ref a_mod_ones, .ref a_mod_distance, .ref a_mod_apart, .ref a_mod_leads])), (a_mod_sort, .inl (cI, 60, .inl (upd mod_sort mod_gates.toNatClampNeg p0))), (a_mod_number, .inl (cI, 60, .inl (upd mod_number z1J9.toNatClampNeg z0J9)))]) [2, 0, 1] (by decide) rfl) ht hW.alike⟩, hS.F ht⟩) hS.2.2 dMod_gate_168
                refine lv_icmp_ne (tgt := 140) hx hb dMod_gate_128 (by decide) (fun c13 => ?_) (fun c13 => ?_)
                · have hm := sx_neg c13 hm
                  refine lv_aload_n hx hb dMod_gate_140 rfl (lv_at hl 0 rfl) ?_
                  refine va_get (D := (dC, dI)) (ci := 5) (v := .int mod_latches) (C := RMod) (T := TMod) (N := 21) hx hb hts inMod hown hK hP 2 rfl rfl 4 (by decide) (hts _ tw_615) (fun _ h9 => h9) rfl dMod_gate_141 ?_
                  exact jJ12 mod_latches hm _ (lv_sub hl [0] rfl)
                · have hm := sx_pos c13 hm
                  refine lv_aload_n hx hb dMod_gate_131 rfl (lv_at hl 0 rfl) ?_
                  refine va_get (D := (dC, dI)) (ci := 5) (v := .int mod_latches) (C := RMod) (T := TMod) (N := 21) hx hb hts inMod hown hK hP 2 rfl rfl 4 (by decide) (hts _ tw_615) (fun _ h9 => h9) rfl dMod_gate_132 ?_
                  refine lv_iconst (v := (1 : Int32)) hx hb dMod_gate_135 (by decide) ?_
                  refine lv_iadd hx hb dMod_gate_136 ?_
                  refine lv_goto (tgt := 144) hx hb dMod_gate_137 (by decide) ?_
                  exact jJ12 (mod_latches + (1 : Int32)) hm _ (lv_sub hl [0] rfl)
              refine lv_if_ne (tgt := 118) hx hb dMod_gate_106 (by decide) (fun c14 => ?_) (fun c14 => ?_)
              · have hm := sx_neg c14 hm
                refine lv_aload_n hx hb dMod_gate_118 rfl (lv_at hl 0 rfl) ?_
                refine va_get (D := (dC, dI)) (ci := 5) (v := .int mod_inputs) (C := RMod) (T := TMod) (N := 21) hx hb hts inMod hown hK hP 2 rfl rfl 3 (by decide) (hts _ tw_614) (fun _ h9 => h9) rfl dMod_gate_119 ?_
                exact jJ11 mod_inputs hm _ (hl)
              · have hm := sx_pos c14 hm
                refine lv_aload_n hx hb dMod_gate_109 rfl (lv_at hl 0 rfl) ?_
                refine va_get (D := (dC, dI)) (ci := 5) (v := .int mod_inputs) (C := RMod) (T := TMod) (N := 21) hx hb hts inMod hown hK hP 2 rfl rfl 3 (by decide) (hts _ tw_614) (fun _ h9 => h9) rfl dMod_gate_110 ?_
                refine lv_iconst (v := (1 : Int32)) hx hb dMod_gate_113 (by decide) ?_
                refine lv_iadd hx hb dMod_gate_114 ?_
                refine lv_goto (tgt := 122) hx hb dMod_gate_115 (by decide) ?_
                exact jJ11 (mod_inputs + (1 : Int32)) hm _ (hl)
            refine lv_if_ne (tgt := 90) hx hb dMod_gate_80 (by decide) (fun c15 => ?_) (fun c15 => ?_)
            · have hm := sx_neg c15 hm
              refine lv_iload_n hx hb dMod_gate_90 rfl (lv_at hl 1 rfl) ?_
              refine lv_iconst (v := (1 : Int32)) hx hb dMod_gate_91 (by decide) ?_
              refine lv_icmp_ne (tgt := 102) hx hb dMod_gate_92 (by decide) (fun c16 => ?_) (fun c16 => ?_)
              · have hm := sx_neg c16 hm
                refine lv_iconst (v := (-1 : Int32)) hx hb dMod_gate_102 (by decide) ?_
                exact jJ9 (-1 : Int32) mod_gates hm _ (hl)
              · have hm := sx_pos c16 hm
                refine lv_aload_n hx hb dMod_gate_95 rfl (lv_at hl 0 rfl) ?_
                refine va_get (D := (dC, dI)) (ci := 5) (v := .int mod_latches) (C := RMod) (T := TMod) (N := 21) hx hb hts inMod hown hK hP 2 rfl rfl 4 (by decide) (hts _ tw_615) (fun _ h9 => h9) rfl dMod_gate_96 ?_
                refine lv_goto (tgt := 103) hx hb dMod_gate_99 (by decide) ?_
                exact jJ9 mod_latches mod_gates hm _ (hl)
            · have hm := sx_pos c15 hm
              refine lv_aload_n hx hb dMod_gate_83 rfl (lv_at hl 0 rfl) ?_
              refine va_get (D := (dC, dI)) (ci := 5) (v := .int mod_inputs) (C := RMod) (T := TMod) (N := 21) hx hb hts inMod hown hK hP 2 rfl rfl 3 (by decide) (hts _ tw_614) (fun _ h9 => h9) rfl dMod_gate_84 ?_
              refine lv_goto (tgt := 103) hx hb dMod_gate_87 (by decide) ?_
              exact jJ9 mod_inputs mod_gates hm _ (hl)
          refine lv_icmp_ne (tgt := 61) hx hb dMod_gate_47 (by decide) (fun c17 => ?_) (fun c17 => ?_)
          · have hm := sx_neg c17 hm
            exact jJ7 () hm _ (hl)
          · have hm := sx_pos c17 hm
            refine lv_aload_n hx hb dMod_gate_50 rfl (lv_at hl 0 rfl) ?_
            refine va_get (D := (dC, dI)) (ci := 5) (v := .int mod_latches) (C := RMod) (T := TMod) (N := 21) hx hb hts inMod hown hK hP 2 rfl rfl 4 (by decide) (hts _ tw_615) (fun _ h9 => h9) rfl dMod_gate_51 ?_
            refine lv_bipush (v := (8 : Int32)) hx hb dMod_gate_54 (by decide) ?_
            refine lv_icmp_ne (tgt := 61) hx hb dMod_gate_56 (by decide) (fun c18 => ?_) (fun c18 => ?_)
            · have hm := sx_neg c18 hm
              exact jJ7 () hm _ (hl)
            · have hm := sx_pos c18 hm
              refine lv_iconst (v := (-1 : Int32)) hx hb dMod_gate_59 (by decide) ?_
              obtain rfl := Option.some.inj hm
              exact W.iret (v := (-1 : Int32)) hx hb hr (fun t ht hW => ⟨⟨(-1 : Int32), (), rfl, rfl, sx_Wi (hP.sub (ws' := [(h_mod, .inr (5, [.int v2.2, .int mod_gates, .int mod_feeds, .int mod_inputs, .int mod_latches, .int mod_outputs, .ref a_mod_sort, .ref a_mod_number, .ref a_mod_value, .ref a_mod_made, .ref a_mod_to, .ref a_mod_from, .ref a_mod_outputOf, .ref a_mod_negated, .int mod_explored, .ref a_mod_settles, .ref a_mod_next, .ref a_mod_ones, .ref a_mod_distance, .ref a_mod_apart, .ref a_mod_leads])), (a_mod_sort, .inl (cI, 60, .inl mod_sort)), (a_mod_number, .inl (cI, 60, .inl mod_number))]) [2, 0, 1] rfl) hK (hD.sub (ws' := [(h_mod, .inr (5, [.int v2.2, .int mod_gates, .int mod_feeds, .int mod_inputs, .int mod_latches, .int mod_outputs, .ref a_mod_sort, .ref a_mod_number, .ref a_mod_value, .ref a_mod_made, .ref a_mod_to, .ref a_mod_from, .ref a_mod_outputOf, .ref a_mod_negated, .int mod_explored, .ref a_mod_settles, .ref a_mod_next, .ref a_mod_ones, .ref a_mod_distance, .ref a_mod_apart, .ref a_mod_leads])), (a_mod_sort, .inl (cI, 60, .inl mod_sort)), (a_mod_number, .inl (cI, 60, .inl mod_number))]) [2, 0, 1] (by decide) rfl) ht hW.alike⟩, hS.F ht⟩) hS.2.2 dMod_gate_60
        refine lv_if_ne (tgt := 45) hx hb dMod_gate_34 (by decide) (fun c19 => ?_) (fun c19 => ?_)
        · have hm := sx_neg c19 hm
          exact jJ6 () hm _ (hl)
        · have hm := sx_pos c19 hm
          refine lv_aload_n hx hb dMod_gate_37 rfl (lv_at hl 0 rfl) ?_
          refine va_get (D := (dC, dI)) (ci := 5) (v := .int mod_inputs) (C := RMod) (T := TMod) (N := 21) hx hb hts inMod hown hK hP 2 rfl rfl 3 (by decide) (hts _ tw_614) (fun _ h9 => h9) rfl dMod_gate_38 ?_
          refine lv_iconst (v := (4 : Int32)) hx hb dMod_gate_41 (by decide) ?_
          refine lv_icmp_eq (tgt := 59) hx hb dMod_gate_42 (by decide) (fun c20 => ?_) (fun c20 => ?_)
          · have hm := sx_pos c20 hm
            refine lv_iconst (v := (-1 : Int32)) hx hb dMod_gate_59 (by decide) ?_
            obtain rfl := Option.some.inj hm
            exact W.iret (v := (-1 : Int32)) hx hb hr (fun t ht hW => ⟨⟨(-1 : Int32), (), rfl, rfl, sx_Wi (hP.sub (ws' := [(h_mod, .inr (5, [.int v2.2, .int mod_gates, .int mod_feeds, .int mod_inputs, .int mod_latches, .int mod_outputs, .ref a_mod_sort, .ref a_mod_number, .ref a_mod_value, .ref a_mod_made, .ref a_mod_to, .ref a_mod_from, .ref a_mod_outputOf, .ref a_mod_negated, .int mod_explored, .ref a_mod_settles, .ref a_mod_next, .ref a_mod_ones, .ref a_mod_distance, .ref a_mod_apart, .ref a_mod_leads])), (a_mod_sort, .inl (cI, 60, .inl mod_sort)), (a_mod_number, .inl (cI, 60, .inl mod_number))]) [2, 0, 1] rfl) hK (hD.sub (ws' := [(h_mod, .inr (5, [.int v2.2, .int mod_gates, .int mod_feeds, .int mod_inputs, .int mod_latches, .int mod_outputs, .ref a_mod_sort, .ref a_mod_number, .ref a_mod_value, .ref a_mod_made, .ref a_mod_to, .ref a_mod_from, .ref a_mod_outputOf, .ref a_mod_negated, .int mod_explored, .ref a_mod_settles, .ref a_mod_next, .ref a_mod_ones, .ref a_mod_distance, .ref a_mod_apart, .ref a_mod_leads])), (a_mod_sort, .inl (cI, 60, .inl mod_sort)), (a_mod_number, .inl (cI, 60, .inl mod_number))]) [2, 0, 1] (by decide) rfl) ht hW.alike⟩, hS.F ht⟩) hS.2.2 dMod_gate_60
          · have hm := sx_neg c20 hm
            exact jJ6 () hm _ (hl)
    · have hm := sx_neg c4 hm
      refine lv_iconst (v := (0 : Int32)) hx hb dMod_gate_22 (by decide) ?_
      obtain rfl := Option.some.inj hm
      exact W.iret (v := (0 : Int32)) hx hb hr (fun t ht hW => ⟨⟨(0 : Int32), (), rfl, rfl, sx_Wi (hP.sub (ws' := [(h_mod, .inr (5, [.int v2.2, .int mod_gates, .int mod_feeds, .int mod_inputs, .int mod_latches, .int mod_outputs, .ref a_mod_sort, .ref a_mod_number, .ref a_mod_value, .ref a_mod_made, .ref a_mod_to, .ref a_mod_from, .ref a_mod_outputOf, .ref a_mod_negated, .int mod_explored, .ref a_mod_settles, .ref a_mod_next, .ref a_mod_ones, .ref a_mod_distance, .ref a_mod_apart, .ref a_mod_leads])), (a_mod_sort, .inl (cI, 60, .inl mod_sort)), (a_mod_number, .inl (cI, 60, .inl mod_number))]) [2, 0, 1] rfl) hK (hD.sub (ws' := [(h_mod, .inr (5, [.int v2.2, .int mod_gates, .int mod_feeds, .int mod_inputs, .int mod_latches, .int mod_outputs, .ref a_mod_sort, .ref a_mod_number, .ref a_mod_value, .ref a_mod_made, .ref a_mod_to, .ref a_mod_from, .ref a_mod_outputOf, .ref a_mod_negated, .int mod_explored, .ref a_mod_settles, .ref a_mod_next, .ref a_mod_ones, .ref a_mod_distance, .ref a_mod_apart, .ref a_mod_leads])), (a_mod_sort, .inl (cI, 60, .inl mod_sort)), (a_mod_number, .inl (cI, 60, .inl mod_number))]) [2, 0, 1] (by decide) rfl) ht hW.alike⟩, hS.F ht⟩) hS.2.2 dMod_gate_23
  obtain ⟨J21, hJ21, hm⟩ := sx_lj hm
  have jJ21 : ∀ (_ : Unit), J21 () = some v → ∀ (ls : Array Slot), lv_has ls 2 [(0, .ref h_mod), (1, .int p0)] → W p l e (headSpec wsMod_gate rm_Mod_gate).room s m ([.ref h_mod, .int p0]).toArray below meth c s.heap [] 0 0 (MQ below (va_Qi (fun (r : Int32) (_ : Unit) => r = v.1) (fun _ t => sx_W (dC, dI) [(cI, .int), (cL, .long), (cZ, .boolean)] A [(h_mod, .inr (5, [.int v.2.1, .int v.2.2.1, .int mod_feeds, .int v.2.2.2.1, .int v.2.2.2.2.1, .int mod_outputs, .ref a_mod_sort, .ref a_mod_number, .ref a_mod_value, .ref a_mod_made, .ref a_mod_to, .ref a_mod_from, .ref a_mod_outputOf, .ref a_mod_negated, .int v.2.2.2.2.2.2.2, .ref a_mod_settles, .ref a_mod_next, .ref a_mod_ones, .ref a_mod_distance, .ref a_mod_apart, .ref a_mod_leads])), (a_mod_sort, .inl (cI, 60, .inl v.2.2.2.2.2.1)), (a_mod_number, .inl (cI, 60, .inl v.2.2.2.2.2.2.1))] t) A) ([.ref h_mod, .int p0]).toArray s 0 0 A) (F0 m 10 ls [.ref h_mod]) := by
    intro _ hm ls hl
    rw [hJ21] at hm
    dsimp only at hm
    refine lv_iconst (v := (1 : Int32)) hx hb dMod_gate_10 (by decide) ?_
    refine lv_goto (tgt := 15) hx hb dMod_gate_11 (by decide) ?_
    exact jJ1 (1 : Int32) hm _ (hl)
  refine lv_if_lt (tgt := 10) hx hb dMod_gate_2 (by decide) (fun c22 => ?_) (fun c22 => ?_)
  · have hm := sx_pos c22 hm
    exact jJ21 () hm _ (hl)
  · have hm := sx_neg c22 hm
    refine lv_iload_n hx hb dMod_gate_5 rfl (lv_at hl 1 rfl) ?_
    refine lv_iconst (v := (3 : Int32)) hx hb dMod_gate_6 (by decide) ?_
    refine lv_icmp_le (tgt := 14) hx hb dMod_gate_7 (by decide) (fun c23 => ?_) (fun c23 => ?_)
    · have hm := sx_pos c23 hm
      refine lv_iconst (v := (0 : Int32)) hx hb dMod_gate_14 (by decide) ?_
      exact jJ1 (0 : Int32) hm _ (hl)
    · have hm := sx_neg c23 hm
      exact jJ21 () hm _ (hl)
noncomputable def L_Mod_feedsOf_4 (mod_feeds : Int32) (mod_to : Nat → Int32) (x1 : Int32) : Nat → Int32 → Int32 → Option (Int32)
  | 0, _, _ => none
  | n + 1, x2, x3 => (if mod_feeds ≤ x3 then some x2 else gd (vp_in x3 240) ((if mod_to x3.toNatClampNeg = x1 then (L_Mod_feedsOf_4 mod_feeds mod_to x1 n (x2 + (1 : Int32)) (x3 + (1 : Int32))) else (L_Mod_feedsOf_4 mod_feeds mod_to x1 n x2 (x3 + (1 : Int32))))))
noncomputable def m_Mod_feedsOf (mod_feeds : Int32) (mod_to : Nat → Int32) (p0 : Int32) : Option (Int32) := ((L_Mod_feedsOf_4 mod_feeds mod_to p0 fu (0 : Int32) (0 : Int32)).bind (fun v4 => some v4))
def rm_Mod_feedsOf : Room := { frames := 0, cells := 0, slots := 0, locals := 0 }
set_option maxHeartbeats 4000000 in
set_option maxRecDepth 100000 in
theorem w_Mod_feedsOf_4 {p : Program} {l : Launch} {e : Env} {s : State} {m : MethodId} {args : Array Value} {below : List Frame} {meth : Method} {c : Code} {dC : Nat → ClassId} {dI : Nat → Nat → Nat} {cI cL cZ : ClassId} {A : Nat → Prop} {Q : State → Prop} {t1 t2 : Nat} (C0 : sx_C p s m args meth c cMod_feedsOf 4 "StateExplorerModel" A (dC, dI) [(cI, .int), (cL, .long), (cZ, .boolean)] t1 t2) (h_mod a_mod_sort a_mod_number a_mod_value a_mod_made a_mod_to a_mod_from a_mod_outputOf a_mod_negated a_mod_settles a_mod_next a_mod_ones a_mod_distance a_mod_apart a_mod_leads : Nat) (mod_code mod_gates mod_feeds mod_inputs mod_latches mod_outputs : Int32) (mod_to : Nat → Int32) (mod_explored : Int32) (x1 : Int32) {H : Heap} {locs : List Loc} (hP : va_P (dC, dI) vwCl [(h_mod, .inr (5, [.int mod_code, .int mod_gates, .int mod_feeds, .int mod_inputs, .int mod_latches, .int mod_outputs, .ref a_mod_sort, .ref a_mod_number, .ref a_mod_value, .ref a_mod_made, .ref a_mod_to, .ref a_mod_from, .ref a_mod_outputOf, .ref a_mod_negated, .int mod_explored, .ref a_mod_settles, .ref a_mod_next, .ref a_mod_ones, .ref a_mod_distance, .ref a_mod_apart, .ref a_mod_leads])), (a_mod_to, .inl (cI, 240, .inl mod_to))] H) (hD : va_D A [(h_mod, .inr (5, [.int mod_code, .int mod_gates, .int mod_feeds, .int mod_inputs, .int mod_latches, .int mod_outputs, .ref a_mod_sort, .ref a_mod_number, .ref a_mod_value, .ref a_mod_made, .ref a_mod_to, .ref a_mod_from, .ref a_mod_outputOf, .ref a_mod_negated, .int mod_explored, .ref a_mod_settles, .ref a_mod_next, .ref a_mod_ones, .ref a_mod_distance, .ref a_mod_apart, .ref a_mod_leads])), (a_mod_to, .inl (cI, 240, .inl mod_to))]) (hS : va_S A s.heap H locs) :
    ∀ (n : Nat) (x2 : Int32) (x3 : Int32)  (r : Int32), L_Mod_feedsOf_4 mod_feeds mod_to x1 n x2 x3 = some r → ∀ (ls : Array Slot), lv_has ls 4 [(0, .ref h_mod), (1, .int x1), (2, .int x2), (3, .int x3)] →
    (∀ (ls : Array Slot), lv_has ls 4 [(2, .int r)] → W p l e (headSpec wsMod_feedsOf rm_Mod_feedsOf).room s m args below meth c H locs 0 0 Q (F0 m 36 ls [])) →
    W p l e (headSpec wsMod_feedsOf rm_Mod_feedsOf).room s m args below meth c H locs 0 0 Q (F0 m 4 ls []) := by
  obtain ⟨hx, hb, hml, hown, hts, hA, hK, hlocks, hX⟩ := id C0
  intro n
  induction n with
  | zero => intro x2 x3 r hm; rw [L_Mod_feedsOf_4] at hm; cases hm
  | succ n ih =>
    intro x2 x3 r hm ls hl k1
    rw [L_Mod_feedsOf_4] at hm
    refine lv_iload_n hx hb dMod_feedsOf_4 rfl (lv_at hl 3 rfl) ?_
    refine lv_aload_n hx hb dMod_feedsOf_5 rfl (lv_at hl 0 rfl) ?_
    refine va_get (D := (dC, dI)) (ci := 5) (v := .int mod_feeds) (C := RMod) (T := TMod) (N := 21) hx hb hts inMod hown hK hP 0 rfl rfl 2 (by decide) (hts _ tw_613) (fun _ h9 => h9) rfl dMod_feedsOf_6 ?_
    refine lv_icmp_ge (tgt := 36) hx hb dMod_feedsOf_9 (by decide) (fun c1 => ?_) (fun c1 => ?_)
    · have hm := sx_pos c1 hm
      obtain rfl := Option.some.inj hm
      exact k1 _ (lv_sub hl [2] rfl)
    · have hm := sx_neg c1 hm
      refine lv_aload_n hx hb dMod_feedsOf_12 rfl (lv_at hl 0 rfl) ?_
      refine va_get (D := (dC, dI)) (ci := 5) (v := .ref a_mod_to) (C := RMod) (T := TMod) (N := 21) hx hb hts inMod hown hK hP 0 rfl rfl 10 (by decide) (hts _ tw_621) (fun _ h9 => h9) rfl dMod_feedsOf_13 ?_
      refine lv_iload_n hx hb dMod_feedsOf_16 rfl (lv_at hl 3 rfl) ?_
      obtain ⟨g2, hm⟩ := gd_el hm
      refine va_iald hx hb hK hP 1 0 rfl rfl g2 dMod_feedsOf_17 ?_
      refine lv_iload_n hx hb dMod_feedsOf_18 rfl (lv_at hl 1 rfl) ?_
      refine lv_icmp_ne (tgt := 28) hx hb dMod_feedsOf_19 (by decide) (fun c3 => ?_) (fun c3 => ?_)
      · have hm := sx_neg c3 hm
        refine lv_iload_n hx hb dMod_feedsOf_28 rfl (lv_at hl 2 rfl) ?_
        refine lv_istore_n (lv' := [(2, .int x2), (0, .ref h_mod), (1, .int x1), (3, .int x3)]) hx hb dMod_feedsOf_29 rfl hl (by decide) rfl (fun ls hl => ?_)
        refine lv_iinc (v := x3 + (1 : Int32)) (lv' := [(3, .int (x3 + (1 : Int32))), (2, .int x2), (0, .ref h_mod), (1, .int x1)]) hx hb dMod_feedsOf_30 hl (k := 3) rfl rfl (by decide) rfl (fun ls hl => ?_)
        refine lv_goto (tgt := 4) hx hb dMod_feedsOf_33 (by decide) ?_
        exact ih x2 (x3 + (1 : Int32)) r hm _ (lv_sub hl [2, 3, 1, 0] rfl) k1
      · have hm := sx_pos c3 hm
        refine lv_iload_n hx hb dMod_feedsOf_22 rfl (lv_at hl 2 rfl) ?_
        refine lv_iconst (v := (1 : Int32)) hx hb dMod_feedsOf_23 (by decide) ?_
        refine lv_iadd hx hb dMod_feedsOf_24 ?_
        refine lv_goto (tgt := 29) hx hb dMod_feedsOf_25 (by decide) ?_
        refine lv_istore_n (lv' := [(2, .int (x2 + (1 : Int32))), (0, .ref h_mod), (1, .int x1), (3, .int x3)]) hx hb dMod_feedsOf_29 rfl hl (by decide) rfl (fun ls hl => ?_)
        refine lv_iinc (v := x3 + (1 : Int32)) (lv' := [(3, .int (x3 + (1 : Int32))), (2, .int (x2 + (1 : Int32))), (0, .ref h_mod), (1, .int x1)]) hx hb dMod_feedsOf_30 hl (k := 3) rfl rfl (by decide) rfl (fun ls hl => ?_)
        refine lv_goto (tgt := 4) hx hb dMod_feedsOf_33 (by decide) ?_
        exact ih (x2 + (1 : Int32)) (x3 + (1 : Int32)) r hm _ (lv_sub hl [2, 3, 1, 0] rfl) k1
set_option maxHeartbeats 4000000 in
set_option maxRecDepth 100000 in
theorem k_Mod_feedsOf (l : Launch) (dC : Nat → ClassId) (dI : Nat → Nat → Nat) (cI cL cZ : ClassId) (t1 t2 : Nat) (h_mod a_mod_sort a_mod_number a_mod_value a_mod_made a_mod_to a_mod_from a_mod_outputOf a_mod_negated a_mod_settles a_mod_next a_mod_ones a_mod_distance a_mod_apart a_mod_leads : Nat) (mod_code mod_gates mod_feeds mod_inputs mod_latches mod_outputs : Int32) (mod_to : Nat → Int32) (mod_explored : Int32) (sz : Nat) (p0 : Int32) (v : Int32) (hm : m_Mod_feedsOf mod_feeds mod_to p0 = some v) : Met l yMod_feedsOf wsMod_feedsOf rm_Mod_feedsOf (sx_Pc (dC, dI) [(cI, .int), (cL, .long), (cZ, .boolean)] t1 t2 [(h_mod, .inr (5, [.int mod_code, .int mod_gates, .int mod_feeds, .int mod_inputs, .int mod_latches, .int mod_outputs, .ref a_mod_sort, .ref a_mod_number, .ref a_mod_value, .ref a_mod_made, .ref a_mod_to, .ref a_mod_from, .ref a_mod_outputOf, .ref a_mod_negated, .int mod_explored, .ref a_mod_settles, .ref a_mod_next, .ref a_mod_ones, .ref a_mod_distance, .ref a_mod_apart, .ref a_mod_leads])), (a_mod_to, .inl (cI, 240, .inl mod_to))] sz [.ref h_mod, .int p0]) (sx_Si v) 0 0 (fun _ => False) := by
  refine Met.ofW (cc := cMod_feedsOf) (maxL := 4) (ret := (some .int)) (by decide) rfl ?_
  intro p e s m args below meth c s₁ B hml hv
  obtain ⟨rfl, hsz, hP, hK, hD0, hX⟩ := hv
  have hx := B.exec
  have hb := B.bytes
  have hr := B.returns
  have hts0 := atoms_spec (ws := wsMod_feedsOf) B.pre
  have hts : ∀ w ∈ tb, w.before _ s = true := fun w h => hts0 w (List.mem_cons_of_mem _ h)
  have hown : s.vm.findClass "StateExplorerModel" = some m.cls := findClass_of_methodNamed B.named
  have hlocks := B.notSynchronized
  subst hsz
  have hD := hD0.self (sz := s.heap.size)
  generalize hAe : va_A [(h_mod, .inr (5, [.int mod_code, .int mod_gates, .int mod_feeds, .int mod_inputs, .int mod_latches, .int mod_outputs, .ref a_mod_sort, .ref a_mod_number, .ref a_mod_value, .ref a_mod_made, .ref a_mod_to, .ref a_mod_from, .ref a_mod_outputOf, .ref a_mod_negated, .int mod_explored, .ref a_mod_settles, .ref a_mod_next, .ref a_mod_ones, .ref a_mod_distance, .ref a_mod_apart, .ref a_mod_leads])), (a_mod_to, .inl (cI, 240, .inl mod_to))] s.heap.size = A at hD hX 
  have hA : ∀ q : Nat, s.heap.size ≤ q → A q := fun q h => by rw [← hAe]; exact Or.inr h
  have hS : va_S A s.heap s.heap [] := va_S.rf
  have hl := lv_entry ([.ref h_mod, .int p0]) (n := 4) (Nat.le_of_ble_eq_true rfl)
  rw [lg_entry_eq]
  generalize (lg_sl ([.ref h_mod, .int p0]) ++ List.replicate (4 - (lg_sl ([.ref h_mod, .int p0])).length) Slot.unset).toArray = ls at hl ⊢
  have hl : lv_has ls 4 [(0, .ref h_mod), (1, .int p0)] := hl
  have C0 : sx_C p s m _ meth c cMod_feedsOf 4 "StateExplorerModel" A (dC, dI) [(cI, .int), (cL, .long), (cZ, .boolean)] t1 t2 := ⟨hx, hb, hml, hown, hts, hA, hK, hlocks, hX⟩
  rw [m_Mod_feedsOf] at hm
  refine lv_iconst (v := (0 : Int32)) hx hb dMod_feedsOf_0 (by decide) ?_
  refine lv_istore_n (lv' := [(2, .int (0 : Int32)), (0, .ref h_mod), (1, .int p0)]) hx hb dMod_feedsOf_1 rfl hl (by decide) rfl (fun ls hl => ?_)
  refine lv_iconst (v := (0 : Int32)) hx hb dMod_feedsOf_2 (by decide) ?_
  refine lv_istore_n (lv' := [(3, .int (0 : Int32)), (2, .int (0 : Int32)), (0, .ref h_mod), (1, .int p0)]) hx hb dMod_feedsOf_3 rfl hl (by decide) rfl (fun ls hl => ?_)
  obtain ⟨v4, hv4, hm⟩ := sx_bind hm
  refine w_Mod_feedsOf_4 C0 h_mod a_mod_sort a_mod_number a_mod_value a_mod_made a_mod_to a_mod_from a_mod_outputOf a_mod_negated a_mod_settles a_mod_next a_mod_ones a_mod_distance a_mod_apart a_mod_leads mod_code mod_gates mod_feeds mod_inputs mod_latches mod_outputs mod_to mod_explored p0 hP hD hS _ (0 : Int32) (0 : Int32) v4 hv4 _ (lv_sub hl [2, 3, 1, 0] rfl) ?_
  intro ls hl
  refine lv_iload_n hx hb dMod_feedsOf_36 rfl (lv_at hl 0 rfl) ?_
  obtain rfl := Option.some.inj hm
  exact W.iret (v := v4) hx hb hr (fun t ht hW => ⟨rfl, ht⟩) (fun q hq => nomatch hq) dMod_feedsOf_37
noncomputable def m_Mod_feed (mod_code mod_gates mod_feeds : Int32) (mod_sort mod_to mod_from mod_negated : Nat → Int32) (mod_explored : Int32) (p0 : Int32) (p1 : Int32) (p2 : Int32) : Option (Int32 × Int32 × Int32 × (Nat → Int32) × (Nat → Int32) × (Nat → Int32) × Int32) := (m_Mod_isGate mod_gates p0).bind (fun v1 => (sx_let (fun (z0J3 : Int32) => (sx_let (fun (z0J4 : Int32) => (sx_let (fun (z0J5 : Int32) => (m_Mod_fails mod_code z0J5 z0J4).bind (fun v6 => (if v6.1 = (0 : Int32) then (if mod_feeds = (240 : Int32) then some ((-1 : Int32), v6.2, mod_feeds, mod_to, mod_from, mod_negated, mod_explored) else gd (vp_in mod_feeds 240) (gd (vp_in mod_feeds 240) (gd (vp_in mod_feeds 240) ((m_Mod_feedsOf (mod_feeds + (1 : Int32)) (upd mod_to mod_feeds.toNatClampNeg p0) p0).bind (fun v13 => some (v13, v6.2, mod_feeds + (1 : Int32), upd mod_to mod_feeds.toNatClampNeg p0, upd mod_from mod_feeds.toNatClampNeg p1, upd mod_negated mod_feeds.toNatClampNeg (vp_nar .boolean p2), (0 : Int32))))))) else some ((0 : Int32), v6.2, mod_feeds, mod_to, mod_from, mod_negated, mod_explored)))) (fun J5 => (if z0J3 = (0 : Int32) then (J5 (1 : Int32)) else (J5 (0 : Int32)))))) (fun J4 => sx_let (fun (_ : Unit) => (J4 (0 : Int32))) (fun J16 => (if z0J3 = (0 : Int32) then (J16 ()) else gd (vp_in p0 60) ((sx_let (fun (_ : Unit) => (J4 (1 : Int32))) (fun J19 => (if mod_sort p0.toNatClampNeg = (0 : Int32) then (J19 ()) else gd (vp_in p0 60) ((if mod_sort p0.toNatClampNeg = (1 : Int32) then (m_Mod_feedsOf mod_feeds mod_to p0).bind (fun v23 => (if v23 ≤ (0 : Int32) then (J16 ()) else (J19 ()))) else (J16 ())))))))))))) (fun J3 => sx_let (fun (_ : Unit) => (J3 (0 : Int32))) (fun J26 => (if v1 = (0 : Int32) then (J26 ()) else (m_Mod_isGate mod_gates p1).bind (fun v28 => (if v28 = (0 : Int32) then (J26 ()) else (J3 (1 : Int32)))))))))
def rm_Mod_feed : Room := { frames := 1, cells := 0, slots := 0, locals := 23 }
set_option maxHeartbeats 4000000 in
set_option maxRecDepth 100000 in
theorem k_Mod_feed (l : Launch) (dC : Nat → ClassId) (dI : Nat → Nat → Nat) (cI cL cZ : ClassId) (t1 t2 : Nat) (h_mod a_mod_sort a_mod_number a_mod_value a_mod_made a_mod_to a_mod_from a_mod_outputOf a_mod_negated a_mod_settles a_mod_next a_mod_ones a_mod_distance a_mod_apart a_mod_leads : Nat) (mod_code mod_gates mod_feeds mod_inputs mod_latches mod_outputs : Int32) (mod_sort mod_to mod_from mod_negated : Nat → Int32) (mod_explored : Int32) (sz : Nat) (p0 : Int32) (p1 : Int32) (p2 : Int32) (v : Int32 × Int32 × Int32 × (Nat → Int32) × (Nat → Int32) × (Nat → Int32) × Int32) (hm : m_Mod_feed mod_code mod_gates mod_feeds mod_sort mod_to mod_from mod_negated mod_explored p0 p1 p2 = some v) : Met l yMod_feed wsMod_feed rm_Mod_feed (sx_Pc (dC, dI) [(cI, .int), (cL, .long), (cZ, .boolean)] t1 t2 [(h_mod, .inr (5, [.int mod_code, .int mod_gates, .int mod_feeds, .int mod_inputs, .int mod_latches, .int mod_outputs, .ref a_mod_sort, .ref a_mod_number, .ref a_mod_value, .ref a_mod_made, .ref a_mod_to, .ref a_mod_from, .ref a_mod_outputOf, .ref a_mod_negated, .int mod_explored, .ref a_mod_settles, .ref a_mod_next, .ref a_mod_ones, .ref a_mod_distance, .ref a_mod_apart, .ref a_mod_leads])), (a_mod_sort, .inl (cI, 60, .inl mod_sort)), (a_mod_to, .inl (cI, 240, .inl mod_to)), (a_mod_from, .inl (cI, 240, .inl mod_from)), (a_mod_negated, .inl (cZ, 240, .inl mod_negated))] sz [.ref h_mod, .int p0, .int p1, .int p2]) (va_Qi (fun (r : Int32) (_ : Unit) => r = v.1) (fun _ t => sx_W (dC, dI) [(cI, .int), (cL, .long), (cZ, .boolean)] (va_A [(h_mod, .inr (5, [.int mod_code, .int mod_gates, .int mod_feeds, .int mod_inputs, .int mod_latches, .int mod_outputs, .ref a_mod_sort, .ref a_mod_number, .ref a_mod_value, .ref a_mod_made, .ref a_mod_to, .ref a_mod_from, .ref a_mod_outputOf, .ref a_mod_negated, .int mod_explored, .ref a_mod_settles, .ref a_mod_next, .ref a_mod_ones, .ref a_mod_distance, .ref a_mod_apart, .ref a_mod_leads])), (a_mod_sort, .inl (cI, 60, .inl mod_sort)), (a_mod_to, .inl (cI, 240, .inl mod_to)), (a_mod_from, .inl (cI, 240, .inl mod_from)), (a_mod_negated, .inl (cZ, 240, .inl mod_negated))] sz) [(h_mod, .inr (5, [.int v.2.1, .int mod_gates, .int v.2.2.1, .int mod_inputs, .int mod_latches, .int mod_outputs, .ref a_mod_sort, .ref a_mod_number, .ref a_mod_value, .ref a_mod_made, .ref a_mod_to, .ref a_mod_from, .ref a_mod_outputOf, .ref a_mod_negated, .int v.2.2.2.2.2.2, .ref a_mod_settles, .ref a_mod_next, .ref a_mod_ones, .ref a_mod_distance, .ref a_mod_apart, .ref a_mod_leads])), (a_mod_sort, .inl (cI, 60, .inl mod_sort)), (a_mod_to, .inl (cI, 240, .inl v.2.2.2.1)), (a_mod_from, .inl (cI, 240, .inl v.2.2.2.2.1)), (a_mod_negated, .inl (cZ, 240, .inl v.2.2.2.2.2.1))] t) (va_A [(h_mod, .inr (5, [.int mod_code, .int mod_gates, .int mod_feeds, .int mod_inputs, .int mod_latches, .int mod_outputs, .ref a_mod_sort, .ref a_mod_number, .ref a_mod_value, .ref a_mod_made, .ref a_mod_to, .ref a_mod_from, .ref a_mod_outputOf, .ref a_mod_negated, .int mod_explored, .ref a_mod_settles, .ref a_mod_next, .ref a_mod_ones, .ref a_mod_distance, .ref a_mod_apart, .ref a_mod_leads])), (a_mod_sort, .inl (cI, 60, .inl mod_sort)), (a_mod_to, .inl (cI, 240, .inl mod_to)), (a_mod_from, .inl (cI, 240, .inl mod_from)), (a_mod_negated, .inl (cZ, 240, .inl mod_negated))] sz)) 0 0 (va_A [(h_mod, .inr (5, [.int mod_code, .int mod_gates, .int mod_feeds, .int mod_inputs, .int mod_latches, .int mod_outputs, .ref a_mod_sort, .ref a_mod_number, .ref a_mod_value, .ref a_mod_made, .ref a_mod_to, .ref a_mod_from, .ref a_mod_outputOf, .ref a_mod_negated, .int mod_explored, .ref a_mod_settles, .ref a_mod_next, .ref a_mod_ones, .ref a_mod_distance, .ref a_mod_apart, .ref a_mod_leads])), (a_mod_sort, .inl (cI, 60, .inl mod_sort)), (a_mod_to, .inl (cI, 240, .inl mod_to)), (a_mod_from, .inl (cI, 240, .inl mod_from)), (a_mod_negated, .inl (cZ, 240, .inl mod_negated))] sz) := by
  refine Met.ofW (cc := cMod_feed) (maxL := 6) (ret := (some .int)) (by decide) rfl ?_
  intro p e s m args below meth c s₁ B hml hv
  obtain ⟨rfl, hsz, hP, hK, hD0, hX⟩ := hv
  have hx := B.exec
  have hb := B.bytes
  have hr := B.returns
  have hts0 := atoms_spec (ws := wsMod_feed) B.pre
  have hts : ∀ w ∈ tb, w.before _ s = true := fun w h => hts0 w (List.mem_cons_of_mem _ h)
  have hown : s.vm.findClass "StateExplorerModel" = some m.cls := findClass_of_methodNamed B.named
  have hlocks := B.notSynchronized
  subst hsz
  have hD := hD0.self (sz := s.heap.size)
  generalize hAe : va_A [(h_mod, .inr (5, [.int mod_code, .int mod_gates, .int mod_feeds, .int mod_inputs, .int mod_latches, .int mod_outputs, .ref a_mod_sort, .ref a_mod_number, .ref a_mod_value, .ref a_mod_made, .ref a_mod_to, .ref a_mod_from, .ref a_mod_outputOf, .ref a_mod_negated, .int mod_explored, .ref a_mod_settles, .ref a_mod_next, .ref a_mod_ones, .ref a_mod_distance, .ref a_mod_apart, .ref a_mod_leads])), (a_mod_sort, .inl (cI, 60, .inl mod_sort)), (a_mod_to, .inl (cI, 240, .inl mod_to)), (a_mod_from, .inl (cI, 240, .inl mod_from)), (a_mod_negated, .inl (cZ, 240, .inl mod_negated))] s.heap.size = A at hD hX ⊢
  have hA : ∀ q : Nat, s.heap.size ≤ q → A q := fun q h => by rw [← hAe]; exact Or.inr h
  have hS : va_S A s.heap s.heap [] := va_S.rf
  have hl := lv_entry ([.ref h_mod, .int p0, .int p1, .int p2]) (n := 6) (Nat.le_of_ble_eq_true rfl)
  rw [lg_entry_eq]
  generalize (lg_sl ([.ref h_mod, .int p0, .int p1, .int p2]) ++ List.replicate (6 - (lg_sl ([.ref h_mod, .int p0, .int p1, .int p2])).length) Slot.unset).toArray = ls at hl ⊢
  have hl : lv_has ls 6 [(0, .ref h_mod), (1, .int p0), (2, .int p1), (3, .int p2)] := hl
  have C0 : sx_C p s m _ meth c cMod_feed 6 "StateExplorerModel" A (dC, dI) [(cI, .int), (cL, .long), (cZ, .boolean)] t1 t2 := ⟨hx, hb, hml, hown, hts, hA, hK, hlocks, hX⟩
  rw [m_Mod_feed] at hm
  refine lv_aload_n hx hb dMod_feed_0 rfl (lv_at hl 0 rfl) ?_
  refine lv_iload_n hx hb dMod_feed_1 rfl (lv_at hl 1 rfl) ?_
  obtain ⟨v1, hv1, hm⟩ := sx_bind hm
  have hPc := hP.sub (ws' := [(h_mod, .inr (5, [.int mod_code, .int mod_gates, .int mod_feeds, .int mod_inputs, .int mod_latches, .int mod_outputs, .ref a_mod_sort, .ref a_mod_number, .ref a_mod_value, .ref a_mod_made, .ref a_mod_to, .ref a_mod_from, .ref a_mod_outputOf, .ref a_mod_negated, .int mod_explored, .ref a_mod_settles, .ref a_mod_next, .ref a_mod_ones, .ref a_mod_distance, .ref a_mod_apart, .ref a_mod_leads]))]) [0] rfl
  have hDc := hD.sub (ws' := [(h_mod, .inr (5, [.int mod_code, .int mod_gates, .int mod_feeds, .int mod_inputs, .int mod_latches, .int mod_outputs, .ref a_mod_sort, .ref a_mod_number, .ref a_mod_value, .ref a_mod_made, .ref a_mod_to, .ref a_mod_from, .ref a_mod_outputOf, .ref a_mod_negated, .int mod_explored, .ref a_mod_settles, .ref a_mod_next, .ref a_mod_ones, .ref a_mod_distance, .ref a_mod_apart, .ref a_mod_leads]))]) [0] (by decide) rfl
  have hFc := va_free (wc := [(h_mod, .inr (5, [.int mod_code, .int mod_gates, .int mod_feeds, .int mod_inputs, .int mod_latches, .int mod_outputs, .ref a_mod_sort, .ref a_mod_number, .ref a_mod_value, .ref a_mod_made, .ref a_mod_to, .ref a_mod_from, .ref a_mod_outputOf, .ref a_mod_negated, .int mod_explored, .ref a_mod_settles, .ref a_mod_next, .ref a_mod_ones, .ref a_mod_distance, .ref a_mod_apart, .ref a_mod_leads]))]) hD hS hA [0] rfl
  refine sx_stI (va_runV (As := [.int p0]) (rest := []) ⟨hx, hb, hml, hown, hts⟩ (k_Mod_isGate l dC dI cI cL cZ t1 t2 h_mod a_mod_sort a_mod_number a_mod_value a_mod_made a_mod_to a_mod_from a_mod_outputOf a_mod_negated a_mod_settles a_mod_next a_mod_ones a_mod_distance a_mod_apart a_mod_leads mod_code mod_gates mod_feeds mod_inputs mod_latches mod_outputs mod_explored _ p0 v1 hv1) (cwV 1 hts (sx_gV tw_688 tw_690 tw_20 tw_41 tcMod_isGate) rfl rfl rfl (by decide +kernel) ⟨Nat.le_of_ble_eq_true rfl, Nat.le_of_ble_eq_true rfl⟩) (sx_pV hK hX hS hPc hDc hFc (va_recv hK hPc (ci := 5) (q0 := 0) rfl rfl)) rfl rfl hl.1 rfl (lv_room (Nat.le_of_ble_eq_true rfl)) dMod_feed_2 ⟨Nat.le_of_ble_eq_true rfl, Nat.le_of_ble_eq_true rfl⟩) ?_
  obtain ⟨J3, hJ3, hm⟩ := sx_lj hm
  have jJ3 : ∀ (z0J3 : Int32), J3 z0J3 = some v → ∀ (ls : Array Slot), lv_has ls 6 [(0, .ref h_mod), (1, .int p0), (2, .int p1), (3, .int p2)] → W p l e (headSpec wsMod_feed rm_Mod_feed).room s m ([.ref h_mod, .int p0, .int p1, .int p2]).toArray below meth c s.heap [] 0 0 (MQ below (va_Qi (fun (r : Int32) (_ : Unit) => r = v.1) (fun _ t => sx_W (dC, dI) [(cI, .int), (cL, .long), (cZ, .boolean)] A [(h_mod, .inr (5, [.int v.2.1, .int mod_gates, .int v.2.2.1, .int mod_inputs, .int mod_latches, .int mod_outputs, .ref a_mod_sort, .ref a_mod_number, .ref a_mod_value, .ref a_mod_made, .ref a_mod_to, .ref a_mod_from, .ref a_mod_outputOf, .ref a_mod_negated, .int v.2.2.2.2.2.2, .ref a_mod_settles, .ref a_mod_next, .ref a_mod_ones, .ref a_mod_distance, .ref a_mod_apart, .ref a_mod_leads])), (a_mod_sort, .inl (cI, 60, .inl mod_sort)), (a_mod_to, .inl (cI, 240, .inl v.2.2.2.1)), (a_mod_from, .inl (cI, 240, .inl v.2.2.2.2.1)), (a_mod_negated, .inl (cZ, 240, .inl v.2.2.2.2.2.1))] t) A) ([.ref h_mod, .int p0, .int p1, .int p2]).toArray s 0 0 A) (F0 m 21 ls [.int z0J3]) := by
    intro z0J3 hm ls hl
    rw [hJ3] at hm
    dsimp only at hm
    refine lv_istore (lv' := [(4, .int z0J3), (0, .ref h_mod), (1, .int p0), (2, .int p1), (3, .int p2)]) hx hb dMod_feed_21 hl (by decide) rfl (fun ls hl => ?_)
    refine lv_iload hx hb dMod_feed_23 (lv_at hl 0 rfl) ?_
    obtain ⟨J4, hJ4, hm⟩ := sx_lj hm
    have jJ4 : ∀ (z0J4 : Int32), J4 z0J4 = some v → ∀ (ls : Array Slot), lv_has ls 6 [(0, .ref h_mod), (1, .int p0), (2, .int p1), (3, .int p2), (4, .int z0J3)] → W p l e (headSpec wsMod_feed rm_Mod_feed).room s m ([.ref h_mod, .int p0, .int p1, .int p2]).toArray below meth c s.heap [] 0 0 (MQ below (va_Qi (fun (r : Int32) (_ : Unit) => r = v.1) (fun _ t => sx_W (dC, dI) [(cI, .int), (cL, .long), (cZ, .boolean)] A [(h_mod, .inr (5, [.int v.2.1, .int mod_gates, .int v.2.2.1, .int mod_inputs, .int mod_latches, .int mod_outputs, .ref a_mod_sort, .ref a_mod_number, .ref a_mod_value, .ref a_mod_made, .ref a_mod_to, .ref a_mod_from, .ref a_mod_outputOf, .ref a_mod_negated, .int v.2.2.2.2.2.2, .ref a_mod_settles, .ref a_mod_next, .ref a_mod_ones, .ref a_mod_distance, .ref a_mod_apart, .ref a_mod_leads])), (a_mod_sort, .inl (cI, 60, .inl mod_sort)), (a_mod_to, .inl (cI, 240, .inl v.2.2.2.1)), (a_mod_from, .inl (cI, 240, .inl v.2.2.2.2.1)), (a_mod_negated, .inl (cZ, 240, .inl v.2.2.2.2.2.1))] t) A) ([.ref h_mod, .int p0, .int p1, .int p2]).toArray s 0 0 A) (F0 m 60 ls [.int z0J4]) := by
      intro z0J4 hm ls hl
      rw [hJ4] at hm
      dsimp only at hm
      refine lv_istore (lv' := [(5, .int z0J4), (0, .ref h_mod), (1, .int p0), (2, .int p1), (3, .int p2), (4, .int z0J3)]) hx hb dMod_feed_60 hl (by decide) rfl (fun ls hl => ?_)
      refine lv_aload_n hx hb dMod_feed_62 rfl (lv_at hl 1 rfl) ?_
      refine lv_iload hx hb dMod_feed_63 (lv_at hl 5 rfl) ?_
      obtain ⟨J5, hJ5, hm⟩ := sx_lj hm
      have jJ5 : ∀ (z0J5 : Int32), J5 z0J5 = some v → ∀ (ls : Array Slot), lv_has ls 6 [(0, .ref h_mod), (1, .int p0), (2, .int p1), (3, .int p2), (5, .int z0J4)] → W p l e (headSpec wsMod_feed rm_Mod_feed).room s m ([.ref h_mod, .int p0, .int p1, .int p2]).toArray below meth c s.heap [] 0 0 (MQ below (va_Qi (fun (r : Int32) (_ : Unit) => r = v.1) (fun _ t => sx_W (dC, dI) [(cI, .int), (cL, .long), (cZ, .boolean)] A [(h_mod, .inr (5, [.int v.2.1, .int mod_gates, .int v.2.2.1, .int mod_inputs, .int mod_latches, .int mod_outputs, .ref a_mod_sort, .ref a_mod_number, .ref a_mod_value, .ref a_mod_made, .ref a_mod_to, .ref a_mod_from, .ref a_mod_outputOf, .ref a_mod_negated, .int v.2.2.2.2.2.2, .ref a_mod_settles, .ref a_mod_next, .ref a_mod_ones, .ref a_mod_distance, .ref a_mod_apart, .ref a_mod_leads])), (a_mod_sort, .inl (cI, 60, .inl mod_sort)), (a_mod_to, .inl (cI, 240, .inl v.2.2.2.1)), (a_mod_from, .inl (cI, 240, .inl v.2.2.2.2.1)), (a_mod_negated, .inl (cZ, 240, .inl v.2.2.2.2.2.1))] t) A) ([.ref h_mod, .int p0, .int p1, .int p2]).toArray s 0 0 A) (F0 m 73 ls [.int z0J5, .ref h_mod]) := by
        intro z0J5 hm ls hl
        rw [hJ5] at hm
        dsimp only at hm
        refine lv_iload hx hb dMod_feed_73 (lv_at hl 4 rfl) ?_
        obtain ⟨v6, hv6, hm⟩ := sx_bind hm
        have hPc := hP.sub (ws' := [(h_mod, .inr (5, [.int mod_code, .int mod_gates, .int mod_feeds, .int mod_inputs, .int mod_latches, .int mod_outputs, .ref a_mod_sort, .ref a_mod_number, .ref a_mod_value, .ref a_mod_made, .ref a_mod_to, .ref a_mod_from, .ref a_mod_outputOf, .ref a_mod_negated, .int mod_explored, .ref a_mod_settles, .ref a_mod_next, .ref a_mod_ones, .ref a_mod_distance, .ref a_mod_apart, .ref a_mod_leads]))]) [0] rfl
        have hDc := hD.sub (ws' := [(h_mod, .inr (5, [.int mod_code, .int mod_gates, .int mod_feeds, .int mod_inputs, .int mod_latches, .int mod_outputs, .ref a_mod_sort, .ref a_mod_number, .ref a_mod_value, .ref a_mod_made, .ref a_mod_to, .ref a_mod_from, .ref a_mod_outputOf, .ref a_mod_negated, .int mod_explored, .ref a_mod_settles, .ref a_mod_next, .ref a_mod_ones, .ref a_mod_distance, .ref a_mod_apart, .ref a_mod_leads]))]) [0] (by decide) rfl
        have hFc := va_free (wc := [(h_mod, .inr (5, [.int mod_code, .int mod_gates, .int mod_feeds, .int mod_inputs, .int mod_latches, .int mod_outputs, .ref a_mod_sort, .ref a_mod_number, .ref a_mod_value, .ref a_mod_made, .ref a_mod_to, .ref a_mod_from, .ref a_mod_outputOf, .ref a_mod_negated, .int mod_explored, .ref a_mod_settles, .ref a_mod_next, .ref a_mod_ones, .ref a_mod_distance, .ref a_mod_apart, .ref a_mod_leads]))]) hD hS hA [0] rfl
        refine va_calli (va_runV (As := [.int z0J5, .int z0J4]) (rest := []) ⟨hx, hb, hml, hown, hts⟩ (k_Mod_fails l dC dI cI cL cZ t1 t2 h_mod a_mod_sort a_mod_number a_mod_value a_mod_made a_mod_to a_mod_from a_mod_outputOf a_mod_negated a_mod_settles a_mod_next a_mod_ones a_mod_distance a_mod_apart a_mod_leads mod_code mod_gates mod_feeds mod_inputs mod_latches mod_outputs mod_explored _ z0J5 z0J4 v6 hv6) (cwV 2 hts (sx_gV tw_680 tw_682 tw_19 tw_41 tcMod_fails) rfl rfl rfl (by decide +kernel) ⟨Nat.le_of_ble_eq_true rfl, Nat.le_of_ble_eq_true rfl⟩) (sx_pV hK hX hS hPc hDc hFc (va_recv hK hPc (ci := 5) (q0 := 0) rfl rfl)) rfl rfl hl.1 rfl (lv_room (Nat.le_of_ble_eq_true rfl)) dMod_feed_75 ⟨Nat.le_of_ble_eq_true rfl, Nat.le_of_ble_eq_true rfl⟩) hS (fun q _ h => hFc q h) hFc (fun r7 u_ t_ H locs ht hvm hw hB hz1 hk1 hS => ?_)
        obtain ⟨hP1, -, hD1⟩ := hB
        rw [ht] at hP1
        obtain ⟨hP, hD⟩ := va_join (wr := [(a_mod_sort, .inl (cI, 60, .inl mod_sort)), (a_mod_to, .inl (cI, 240, .inl mod_to)), (a_mod_from, .inl (cI, 240, .inl mod_from)), (a_mod_negated, .inl (cZ, 240, .inl mod_negated))]) (w1 := [(h_mod, .inr (5, [.int v6.2, .int mod_gates, .int mod_feeds, .int mod_inputs, .int mod_latches, .int mod_outputs, .ref a_mod_sort, .ref a_mod_number, .ref a_mod_value, .ref a_mod_made, .ref a_mod_to, .ref a_mod_from, .ref a_mod_outputOf, .ref a_mod_negated, .int mod_explored, .ref a_mod_settles, .ref a_mod_next, .ref a_mod_ones, .ref a_mod_distance, .ref a_mod_apart, .ref a_mod_leads]))]) hP hD [0] [1, 2, 3, 4] rfl rfl (by decide) (by decide) hk1 hFc hP1 hD1
        have hP : va_P (dC, dI) vwCl [(a_mod_sort, .inl (cI, 60, .inl mod_sort)), (a_mod_to, .inl (cI, 240, .inl mod_to)), (a_mod_from, .inl (cI, 240, .inl mod_from)), (a_mod_negated, .inl (cZ, 240, .inl mod_negated)), (h_mod, .inr (5, [.int v6.2, .int mod_gates, .int mod_feeds, .int mod_inputs, .int mod_latches, .int mod_outputs, .ref a_mod_sort, .ref a_mod_number, .ref a_mod_value, .ref a_mod_made, .ref a_mod_to, .ref a_mod_from, .ref a_mod_outputOf, .ref a_mod_negated, .int mod_explored, .ref a_mod_settles, .ref a_mod_next, .ref a_mod_ones, .ref a_mod_distance, .ref a_mod_apart, .ref a_mod_leads]))] H := hP
        have hD : va_D A [(a_mod_sort, .inl (cI, 60, .inl mod_sort)), (a_mod_to, .inl (cI, 240, .inl mod_to)), (a_mod_from, .inl (cI, 240, .inl mod_from)), (a_mod_negated, .inl (cZ, 240, .inl mod_negated)), (h_mod, .inr (5, [.int v6.2, .int mod_gates, .int mod_feeds, .int mod_inputs, .int mod_latches, .int mod_outputs, .ref a_mod_sort, .ref a_mod_number, .ref a_mod_value, .ref a_mod_made, .ref a_mod_to, .ref a_mod_from, .ref a_mod_outputOf, .ref a_mod_negated, .int mod_explored, .ref a_mod_settles, .ref a_mod_next, .ref a_mod_ones, .ref a_mod_distance, .ref a_mod_apart, .ref a_mod_leads]))] := hD
        have hw9 := hw.symm
        subst hw9
        refine lv_if_eq (tgt := 83) hx hb dMod_feed_78 (by decide) (fun c8 => ?_) (fun c8 => ?_)
        · have hm := sx_pos c8 hm
          refine lv_aload_n hx hb dMod_feed_83 rfl (lv_at hl 0 rfl) ?_
          refine va_get (D := (dC, dI)) (ci := 5) (v := .int mod_feeds) (C := RMod) (T := TMod) (N := 21) hx hb hts inMod hown hK hP 4 rfl rfl 2 (by decide) (hts _ tw_613) (fun _ h9 => h9) rfl dMod_feed_84 ?_
          refine lv_sipush (v := (240 : Int32)) hx hb dMod_feed_87 (by decide) ?_
          refine lv_icmp_ne (tgt := 95) hx hb dMod_feed_90 (by decide) (fun c9 => ?_) (fun c9 => ?_)
          · have hm := sx_neg c9 hm
            refine lv_aload_n hx hb dMod_feed_95 rfl (lv_at hl 0 rfl) ?_
            refine va_get (D := (dC, dI)) (ci := 5) (v := .ref a_mod_to) (C := RMod) (T := TMod) (N := 21) hx hb hts inMod hown hK hP 4 rfl rfl 10 (by decide) (hts _ tw_621) (fun _ h9 => h9) rfl dMod_feed_96 ?_
            refine lv_aload_n hx hb dMod_feed_99 rfl (lv_at hl 0 rfl) ?_
            refine va_get (D := (dC, dI)) (ci := 5) (v := .int mod_feeds) (C := RMod) (T := TMod) (N := 21) hx hb hts inMod hown hK hP 4 rfl rfl 2 (by decide) (hts _ tw_613) (fun _ h9 => h9) rfl dMod_feed_100 ?_
            refine lv_iload_n hx hb dMod_feed_103 rfl (lv_at hl 1 rfl) ?_
            obtain ⟨g10, hm⟩ := gd_el hm
            refine va_iast hx hb hK hP hD hS 1 0 rfl rfl g10 dMod_feed_104 (fun H locs hP hD hS => ?_)
            have hP : va_P (dC, dI) vwCl [(a_mod_sort, .inl (cI, 60, .inl mod_sort)), (a_mod_to, .inl (cI, 240, .inl (upd mod_to mod_feeds.toNatClampNeg p0))), (a_mod_from, .inl (cI, 240, .inl mod_from)), (a_mod_negated, .inl (cZ, 240, .inl mod_negated)), (h_mod, .inr (5, [.int v6.2, .int mod_gates, .int mod_feeds, .int mod_inputs, .int mod_latches, .int mod_outputs, .ref a_mod_sort, .ref a_mod_number, .ref a_mod_value, .ref a_mod_made, .ref a_mod_to, .ref a_mod_from, .ref a_mod_outputOf, .ref a_mod_negated, .int mod_explored, .ref a_mod_settles, .ref a_mod_next, .ref a_mod_ones, .ref a_mod_distance, .ref a_mod_apart, .ref a_mod_leads]))] H := hP
            have hD : va_D A [(a_mod_sort, .inl (cI, 60, .inl mod_sort)), (a_mod_to, .inl (cI, 240, .inl (upd mod_to mod_feeds.toNatClampNeg p0))), (a_mod_from, .inl (cI, 240, .inl mod_from)), (a_mod_negated, .inl (cZ, 240, .inl mod_negated)), (h_mod, .inr (5, [.int v6.2, .int mod_gates, .int mod_feeds, .int mod_inputs, .int mod_latches, .int mod_outputs, .ref a_mod_sort, .ref a_mod_number, .ref a_mod_value, .ref a_mod_made, .ref a_mod_to, .ref a_mod_from, .ref a_mod_outputOf, .ref a_mod_negated, .int mod_explored, .ref a_mod_settles, .ref a_mod_next, .ref a_mod_ones, .ref a_mod_distance, .ref a_mod_apart, .ref a_mod_leads]))] := hD
            refine lv_aload_n hx hb dMod_feed_105 rfl (lv_at hl 0 rfl) ?_
            refine va_get (D := (dC, dI)) (ci := 5) (v := .ref a_mod_from) (C := RMod) (T := TMod) (N := 21) hx hb hts inMod hown hK hP 4 rfl rfl 11 (by decide) (hts _ tw_622) (fun _ h9 => h9) rfl dMod_feed_106 ?_
            refine lv_aload_n hx hb dMod_feed_109 rfl (lv_at hl 0 rfl) ?_
            refine va_get (D := (dC, dI)) (ci := 5) (v := .int mod_feeds) (C := RMod) (T := TMod) (N := 21) hx hb hts inMod hown hK hP 4 rfl rfl 2 (by decide) (hts _ tw_613) (fun _ h9 => h9) rfl dMod_feed_110 ?_
            refine lv_iload_n hx hb dMod_feed_113 rfl (lv_at hl 2 rfl) ?_
            obtain ⟨g11, hm⟩ := gd_el hm
            refine va_iast hx hb hK hP hD hS 2 0 rfl rfl g11 dMod_feed_114 (fun H locs hP hD hS => ?_)
            have hP : va_P (dC, dI) vwCl [(a_mod_sort, .inl (cI, 60, .inl mod_sort)), (a_mod_to, .inl (cI, 240, .inl (upd mod_to mod_feeds.toNatClampNeg p0))), (a_mod_from, .inl (cI, 240, .inl (upd mod_from mod_feeds.toNatClampNeg p1))), (a_mod_negated, .inl (cZ, 240, .inl mod_negated)), (h_mod, .inr (5, [.int v6.2, .int mod_gates, .int mod_feeds, .int mod_inputs, .int mod_latches, .int mod_outputs, .ref a_mod_sort, .ref a_mod_number, .ref a_mod_value, .ref a_mod_made, .ref a_mod_to, .ref a_mod_from, .ref a_mod_outputOf, .ref a_mod_negated, .int mod_explored, .ref a_mod_settles, .ref a_mod_next, .ref a_mod_ones, .ref a_mod_distance, .ref a_mod_apart, .ref a_mod_leads]))] H := hP
            have hD : va_D A [(a_mod_sort, .inl (cI, 60, .inl mod_sort)), (a_mod_to, .inl (cI, 240, .inl (upd mod_to mod_feeds.toNatClampNeg p0))), (a_mod_from, .inl (cI, 240, .inl (upd mod_from mod_feeds.toNatClampNeg p1))), (a_mod_negated, .inl (cZ, 240, .inl mod_negated)), (h_mod, .inr (5, [.int v6.2, .int mod_gates, .int mod_feeds, .int mod_inputs, .int mod_latches, .int mod_outputs, .ref a_mod_sort, .ref a_mod_number, .ref a_mod_value, .ref a_mod_made, .ref a_mod_to, .ref a_mod_from, .ref a_mod_outputOf, .ref a_mod_negated, .int mod_explored, .ref a_mod_settles, .ref a_mod_next, .ref a_mod_ones, .ref a_mod_distance, .ref a_mod_apart, .ref a_mod_leads]))] := hD
            refine lv_aload_n hx hb dMod_feed_115 rfl (lv_at hl 0 rfl) ?_
            refine va_get (D := (dC, dI)) (ci := 5) (v := .ref a_mod_negated) (C := RMod) (T := TMod) (N := 21) hx hb hts inMod hown hK hP 4 rfl rfl 13 (by decide) (hts _ tw_624) (fun _ h9 => h9) rfl dMod_feed_116 ?_
            refine lv_aload_n hx hb dMod_feed_119 rfl (lv_at hl 0 rfl) ?_
            refine va_get (D := (dC, dI)) (ci := 5) (v := .int mod_feeds) (C := RMod) (T := TMod) (N := 21) hx hb hts inMod hown hK hP 4 rfl rfl 2 (by decide) (hts _ tw_613) (fun _ h9 => h9) rfl dMod_feed_120 ?_
            refine lv_iload_n hx hb dMod_feed_123 rfl (lv_at hl 3 rfl) ?_
            obtain ⟨g12, hm⟩ := gd_el hm
            refine va_zast hx hb hK hP hD hS 3 2 rfl rfl g12 dMod_feed_124 (fun H locs hP hD hS => ?_)
            have hP : va_P (dC, dI) vwCl [(a_mod_sort, .inl (cI, 60, .inl mod_sort)), (a_mod_to, .inl (cI, 240, .inl (upd mod_to mod_feeds.toNatClampNeg p0))), (a_mod_from, .inl (cI, 240, .inl (upd mod_from mod_feeds.toNatClampNeg p1))), (a_mod_negated, .inl (cZ, 240, .inl (upd mod_negated mod_feeds.toNatClampNeg (vp_nar .boolean p2)))), (h_mod, .inr (5, [.int v6.2, .int mod_gates, .int mod_feeds, .int mod_inputs, .int mod_latches, .int mod_outputs, .ref a_mod_sort, .ref a_mod_number, .ref a_mod_value, .ref a_mod_made, .ref a_mod_to, .ref a_mod_from, .ref a_mod_outputOf, .ref a_mod_negated, .int mod_explored, .ref a_mod_settles, .ref a_mod_next, .ref a_mod_ones, .ref a_mod_distance, .ref a_mod_apart, .ref a_mod_leads]))] H := hP
            have hD : va_D A [(a_mod_sort, .inl (cI, 60, .inl mod_sort)), (a_mod_to, .inl (cI, 240, .inl (upd mod_to mod_feeds.toNatClampNeg p0))), (a_mod_from, .inl (cI, 240, .inl (upd mod_from mod_feeds.toNatClampNeg p1))), (a_mod_negated, .inl (cZ, 240, .inl (upd mod_negated mod_feeds.toNatClampNeg (vp_nar .boolean p2)))), (h_mod, .inr (5, [.int v6.2, .int mod_gates, .int mod_feeds, .int mod_inputs, .int mod_latches, .int mod_outputs, .ref a_mod_sort, .ref a_mod_number, .ref a_mod_value, .ref a_mod_made, .ref a_mod_to, .ref a_mod_from, .ref a_mod_outputOf, .ref a_mod_negated, .int mod_explored, .ref a_mod_settles, .ref a_mod_next, .ref a_mod_ones, .ref a_mod_distance, .ref a_mod_apart, .ref a_mod_leads]))] := hD
            refine lv_aload_n hx hb dMod_feed_125 rfl (lv_at hl 0 rfl) ?_
            refine lv_dup hx hb dMod_feed_126 rfl ?_
            refine va_get (D := (dC, dI)) (ci := 5) (v := .int mod_feeds) (C := RMod) (T := TMod) (N := 21) hx hb hts inMod hown hK hP 4 rfl rfl 2 (by decide) (hts _ tw_613) (fun _ h9 => h9) rfl dMod_feed_127 ?_
            refine lv_iconst (v := (1 : Int32)) hx hb dMod_feed_130 (by decide) ?_
            refine lv_iadd hx hb dMod_feed_131 ?_
            refine va_put (D := (dC, dI)) (ci := 5) (v := .int (mod_feeds + (1 : Int32))) (ty := .int) (C := RMod) (T := TMod) (N := 21) hx hb hts inMod tyMod tyMod_ok nmMod hown hK hP hD hS 4 rfl rfl 2 (by decide) (hts _ tw_613) (fun _ h9 => h9) rfl (by decide +kernel) rfl rfl (Nat.le_of_ble_eq_true rfl) dMod_feed_132 (fun H locs hP hD hS => ?_)
            have hP : va_P (dC, dI) vwCl [(a_mod_sort, .inl (cI, 60, .inl mod_sort)), (a_mod_to, .inl (cI, 240, .inl (upd mod_to mod_feeds.toNatClampNeg p0))), (a_mod_from, .inl (cI, 240, .inl (upd mod_from mod_feeds.toNatClampNeg p1))), (a_mod_negated, .inl (cZ, 240, .inl (upd mod_negated mod_feeds.toNatClampNeg (vp_nar .boolean p2)))), (h_mod, .inr (5, [.int v6.2, .int mod_gates, .int (mod_feeds + (1 : Int32)), .int mod_inputs, .int mod_latches, .int mod_outputs, .ref a_mod_sort, .ref a_mod_number, .ref a_mod_value, .ref a_mod_made, .ref a_mod_to, .ref a_mod_from, .ref a_mod_outputOf, .ref a_mod_negated, .int mod_explored, .ref a_mod_settles, .ref a_mod_next, .ref a_mod_ones, .ref a_mod_distance, .ref a_mod_apart, .ref a_mod_leads]))] H := hP
            have hD : va_D A [(a_mod_sort, .inl (cI, 60, .inl mod_sort)), (a_mod_to, .inl (cI, 240, .inl (upd mod_to mod_feeds.toNatClampNeg p0))), (a_mod_from, .inl (cI, 240, .inl (upd mod_from mod_feeds.toNatClampNeg p1))), (a_mod_negated, .inl (cZ, 240, .inl (upd mod_negated mod_feeds.toNatClampNeg (vp_nar .boolean p2)))), (h_mod, .inr (5, [.int v6.2, .int mod_gates, .int (mod_feeds + (1 : Int32)), .int mod_inputs, .int mod_latches, .int mod_outputs, .ref a_mod_sort, .ref a_mod_number, .ref a_mod_value, .ref a_mod_made, .ref a_mod_to, .ref a_mod_from, .ref a_mod_outputOf, .ref a_mod_negated, .int mod_explored, .ref a_mod_settles, .ref a_mod_next, .ref a_mod_ones, .ref a_mod_distance, .ref a_mod_apart, .ref a_mod_leads]))] := hD
            refine lv_aload_n hx hb dMod_feed_135 rfl (lv_at hl 0 rfl) ?_
            refine lv_iconst (v := (0 : Int32)) hx hb dMod_feed_136 (by decide) ?_
            refine va_put (D := (dC, dI)) (ci := 5) (v := .int (0 : Int32)) (ty := .boolean) (C := RMod) (T := TMod) (N := 21) hx hb hts inMod tyMod tyMod_ok nmMod hown hK hP hD hS 4 rfl rfl 14 (by decide) (hts _ tw_625) (fun _ h9 => h9) rfl (by decide +kernel) (by decide) (by decide) (Nat.le_of_ble_eq_true rfl) dMod_feed_137 (fun H locs hP hD hS => ?_)
            have hP : va_P (dC, dI) vwCl [(a_mod_sort, .inl (cI, 60, .inl mod_sort)), (a_mod_to, .inl (cI, 240, .inl (upd mod_to mod_feeds.toNatClampNeg p0))), (a_mod_from, .inl (cI, 240, .inl (upd mod_from mod_feeds.toNatClampNeg p1))), (a_mod_negated, .inl (cZ, 240, .inl (upd mod_negated mod_feeds.toNatClampNeg (vp_nar .boolean p2)))), (h_mod, .inr (5, [.int v6.2, .int mod_gates, .int (mod_feeds + (1 : Int32)), .int mod_inputs, .int mod_latches, .int mod_outputs, .ref a_mod_sort, .ref a_mod_number, .ref a_mod_value, .ref a_mod_made, .ref a_mod_to, .ref a_mod_from, .ref a_mod_outputOf, .ref a_mod_negated, .int (0 : Int32), .ref a_mod_settles, .ref a_mod_next, .ref a_mod_ones, .ref a_mod_distance, .ref a_mod_apart, .ref a_mod_leads]))] H := hP
            have hD : va_D A [(a_mod_sort, .inl (cI, 60, .inl mod_sort)), (a_mod_to, .inl (cI, 240, .inl (upd mod_to mod_feeds.toNatClampNeg p0))), (a_mod_from, .inl (cI, 240, .inl (upd mod_from mod_feeds.toNatClampNeg p1))), (a_mod_negated, .inl (cZ, 240, .inl (upd mod_negated mod_feeds.toNatClampNeg (vp_nar .boolean p2)))), (h_mod, .inr (5, [.int v6.2, .int mod_gates, .int (mod_feeds + (1 : Int32)), .int mod_inputs, .int mod_latches, .int mod_outputs, .ref a_mod_sort, .ref a_mod_number, .ref a_mod_value, .ref a_mod_made, .ref a_mod_to, .ref a_mod_from, .ref a_mod_outputOf, .ref a_mod_negated, .int (0 : Int32), .ref a_mod_settles, .ref a_mod_next, .ref a_mod_ones, .ref a_mod_distance, .ref a_mod_apart, .ref a_mod_leads]))] := hD
            refine lv_aload_n hx hb dMod_feed_140 rfl (lv_at hl 0 rfl) ?_
            refine lv_iload_n hx hb dMod_feed_141 rfl (lv_at hl 1 rfl) ?_
            obtain ⟨v13, hv13, hm⟩ := sx_bind hm
            have hPc := hP.sub (ws' := [(h_mod, .inr (5, [.int v6.2, .int mod_gates, .int (mod_feeds + (1 : Int32)), .int mod_inputs, .int mod_latches, .int mod_outputs, .ref a_mod_sort, .ref a_mod_number, .ref a_mod_value, .ref a_mod_made, .ref a_mod_to, .ref a_mod_from, .ref a_mod_outputOf, .ref a_mod_negated, .int (0 : Int32), .ref a_mod_settles, .ref a_mod_next, .ref a_mod_ones, .ref a_mod_distance, .ref a_mod_apart, .ref a_mod_leads])), (a_mod_to, .inl (cI, 240, .inl (upd mod_to mod_feeds.toNatClampNeg p0)))]) [4, 1] rfl
            have hDc := hD.sub (ws' := [(h_mod, .inr (5, [.int v6.2, .int mod_gates, .int (mod_feeds + (1 : Int32)), .int mod_inputs, .int mod_latches, .int mod_outputs, .ref a_mod_sort, .ref a_mod_number, .ref a_mod_value, .ref a_mod_made, .ref a_mod_to, .ref a_mod_from, .ref a_mod_outputOf, .ref a_mod_negated, .int (0 : Int32), .ref a_mod_settles, .ref a_mod_next, .ref a_mod_ones, .ref a_mod_distance, .ref a_mod_apart, .ref a_mod_leads])), (a_mod_to, .inl (cI, 240, .inl (upd mod_to mod_feeds.toNatClampNeg p0)))]) [4, 1] (by decide) rfl
            have hFc := va_free (wc := [(h_mod, .inr (5, [.int v6.2, .int mod_gates, .int (mod_feeds + (1 : Int32)), .int mod_inputs, .int mod_latches, .int mod_outputs, .ref a_mod_sort, .ref a_mod_number, .ref a_mod_value, .ref a_mod_made, .ref a_mod_to, .ref a_mod_from, .ref a_mod_outputOf, .ref a_mod_negated, .int (0 : Int32), .ref a_mod_settles, .ref a_mod_next, .ref a_mod_ones, .ref a_mod_distance, .ref a_mod_apart, .ref a_mod_leads])), (a_mod_to, .inl (cI, 240, .inl (upd mod_to mod_feeds.toNatClampNeg p0)))]) hD hS hA [4, 1] rfl
            refine sx_stI (va_runV (As := [.int p0]) (rest := []) ⟨hx, hb, hml, hown, hts⟩ (k_Mod_feedsOf l dC dI cI cL cZ t1 t2 h_mod a_mod_sort a_mod_number a_mod_value a_mod_made a_mod_to a_mod_from a_mod_outputOf a_mod_negated a_mod_settles a_mod_next a_mod_ones a_mod_distance a_mod_apart a_mod_leads v6.2 mod_gates (mod_feeds + (1 : Int32)) mod_inputs mod_latches mod_outputs (upd mod_to mod_feeds.toNatClampNeg p0) (0 : Int32) _ p0 v13 hv13) (cwV 1 hts (sx_gV tw_692 tw_694 tw_21 tw_41 tcMod_feedsOf) rfl rfl rfl (by decide +kernel) ⟨Nat.le_of_ble_eq_true rfl, Nat.le_of_ble_eq_true rfl⟩) (sx_pV hK hX hS hPc hDc hFc (va_recv hK hPc (ci := 5) (q0 := 0) rfl rfl)) rfl rfl hl.1 rfl (lv_room (Nat.le_of_ble_eq_true rfl)) dMod_feed_142 ⟨Nat.le_of_ble_eq_true rfl, Nat.le_of_ble_eq_true rfl⟩) ?_
            obtain rfl := Option.some.inj hm
            exact W.iret (v := v13) hx hb hr (fun t ht hW => ⟨⟨v13, (), rfl, rfl, sx_Wi (hP.sub (ws' := [(h_mod, .inr (5, [.int v6.2, .int mod_gates, .int (mod_feeds + (1 : Int32)), .int mod_inputs, .int mod_latches, .int mod_outputs, .ref a_mod_sort, .ref a_mod_number, .ref a_mod_value, .ref a_mod_made, .ref a_mod_to, .ref a_mod_from, .ref a_mod_outputOf, .ref a_mod_negated, .int (0 : Int32), .ref a_mod_settles, .ref a_mod_next, .ref a_mod_ones, .ref a_mod_distance, .ref a_mod_apart, .ref a_mod_leads])), (a_mod_sort, .inl (cI, 60, .inl mod_sort)), (a_mod_to, .inl (cI, 240, .inl (upd mod_to mod_feeds.toNatClampNeg p0))), (a_mod_from, .inl (cI, 240, .inl (upd mod_from mod_feeds.toNatClampNeg p1))), (a_mod_negated, .inl (cZ, 240, .inl (upd mod_negated mod_feeds.toNatClampNeg (vp_nar .boolean p2))))]) [4, 0, 1, 2, 3] rfl) hK (hD.sub (ws' := [(h_mod, .inr (5, [.int v6.2, .int mod_gates, .int (mod_feeds + (1 : Int32)), .int mod_inputs, .int mod_latches, .int mod_outputs, .ref a_mod_sort, .ref a_mod_number, .ref a_mod_value, .ref a_mod_made, .ref a_mod_to, .ref a_mod_from, .ref a_mod_outputOf, .ref a_mod_negated, .int (0 : Int32), .ref a_mod_settles, .ref a_mod_next, .ref a_mod_ones, .ref a_mod_distance, .ref a_mod_apart, .ref a_mod_leads])), (a_mod_sort, .inl (cI, 60, .inl mod_sort)), (a_mod_to, .inl (cI, 240, .inl (upd mod_to mod_feeds.toNatClampNeg p0))), (a_mod_from, .inl (cI, 240, .inl (upd mod_from mod_feeds.toNatClampNeg p1))), (a_mod_negated, .inl (cZ, 240, .inl (upd mod_negated mod_feeds.toNatClampNeg (vp_nar .boolean p2))))]) [4, 0, 1, 2, 3] (by decide) rfl) ht hW.alike⟩, hS.F ht⟩) hS.2.2 dMod_feed_145
          · have hm := sx_pos c9 hm
            refine lv_iconst (v := (-1 : Int32)) hx hb dMod_feed_93 (by decide) ?_
            obtain rfl := Option.some.inj hm
            exact W.iret (v := (-1 : Int32)) hx hb hr (fun t ht hW => ⟨⟨(-1 : Int32), (), rfl, rfl, sx_Wi (hP.sub (ws' := [(h_mod, .inr (5, [.int v6.2, .int mod_gates, .int mod_feeds, .int mod_inputs, .int mod_latches, .int mod_outputs, .ref a_mod_sort, .ref a_mod_number, .ref a_mod_value, .ref a_mod_made, .ref a_mod_to, .ref a_mod_from, .ref a_mod_outputOf, .ref a_mod_negated, .int mod_explored, .ref a_mod_settles, .ref a_mod_next, .ref a_mod_ones, .ref a_mod_distance, .ref a_mod_apart, .ref a_mod_leads])), (a_mod_sort, .inl (cI, 60, .inl mod_sort)), (a_mod_to, .inl (cI, 240, .inl mod_to)), (a_mod_from, .inl (cI, 240, .inl mod_from)), (a_mod_negated, .inl (cZ, 240, .inl mod_negated))]) [4, 0, 1, 2, 3] rfl) hK (hD.sub (ws' := [(h_mod, .inr (5, [.int v6.2, .int mod_gates, .int mod_feeds, .int mod_inputs, .int mod_latches, .int mod_outputs, .ref a_mod_sort, .ref a_mod_number, .ref a_mod_value, .ref a_mod_made, .ref a_mod_to, .ref a_mod_from, .ref a_mod_outputOf, .ref a_mod_negated, .int mod_explored, .ref a_mod_settles, .ref a_mod_next, .ref a_mod_ones, .ref a_mod_distance, .ref a_mod_apart, .ref a_mod_leads])), (a_mod_sort, .inl (cI, 60, .inl mod_sort)), (a_mod_to, .inl (cI, 240, .inl mod_to)), (a_mod_from, .inl (cI, 240, .inl mod_from)), (a_mod_negated, .inl (cZ, 240, .inl mod_negated))]) [4, 0, 1, 2, 3] (by decide) rfl) ht hW.alike⟩, hS.F ht⟩) hS.2.2 dMod_feed_94
        · have hm := sx_neg c8 hm
          refine lv_iconst (v := (0 : Int32)) hx hb dMod_feed_81 (by decide) ?_
          obtain rfl := Option.some.inj hm
          exact W.iret (v := (0 : Int32)) hx hb hr (fun t ht hW => ⟨⟨(0 : Int32), (), rfl, rfl, sx_Wi (hP.sub (ws' := [(h_mod, .inr (5, [.int v6.2, .int mod_gates, .int mod_feeds, .int mod_inputs, .int mod_latches, .int mod_outputs, .ref a_mod_sort, .ref a_mod_number, .ref a_mod_value, .ref a_mod_made, .ref a_mod_to, .ref a_mod_from, .ref a_mod_outputOf, .ref a_mod_negated, .int mod_explored, .ref a_mod_settles, .ref a_mod_next, .ref a_mod_ones, .ref a_mod_distance, .ref a_mod_apart, .ref a_mod_leads])), (a_mod_sort, .inl (cI, 60, .inl mod_sort)), (a_mod_to, .inl (cI, 240, .inl mod_to)), (a_mod_from, .inl (cI, 240, .inl mod_from)), (a_mod_negated, .inl (cZ, 240, .inl mod_negated))]) [4, 0, 1, 2, 3] rfl) hK (hD.sub (ws' := [(h_mod, .inr (5, [.int v6.2, .int mod_gates, .int mod_feeds, .int mod_inputs, .int mod_latches, .int mod_outputs, .ref a_mod_sort, .ref a_mod_number, .ref a_mod_value, .ref a_mod_made, .ref a_mod_to, .ref a_mod_from, .ref a_mod_outputOf, .ref a_mod_negated, .int mod_explored, .ref a_mod_settles, .ref a_mod_next, .ref a_mod_ones, .ref a_mod_distance, .ref a_mod_apart, .ref a_mod_leads])), (a_mod_sort, .inl (cI, 60, .inl mod_sort)), (a_mod_to, .inl (cI, 240, .inl mod_to)), (a_mod_from, .inl (cI, 240, .inl mod_from)), (a_mod_negated, .inl (cZ, 240, .inl mod_negated))]) [4, 0, 1, 2, 3] (by decide) rfl) ht hW.alike⟩, hS.F ht⟩) hS.2.2 dMod_feed_82
      refine lv_if_ne (tgt := 72) hx hb dMod_feed_65 (by decide) (fun c15 => ?_) (fun c15 => ?_)
      · have hm := sx_neg c15 hm
        refine lv_iconst (v := (0 : Int32)) hx hb dMod_feed_72 (by decide) ?_
        exact jJ5 (0 : Int32) hm _ (lv_sub hl [1, 2, 3, 4, 0] rfl)
      · have hm := sx_pos c15 hm
        refine lv_iconst (v := (1 : Int32)) hx hb dMod_feed_68 (by decide) ?_
        refine lv_goto (tgt := 73) hx hb dMod_feed_69 (by decide) ?_
        exact jJ5 (1 : Int32) hm _ (lv_sub hl [1, 2, 3, 4, 0] rfl)
    obtain ⟨J16, hJ16, hm⟩ := sx_lj hm
    have jJ16 : ∀ (_ : Unit), J16 () = some v → ∀ (ls : Array Slot), lv_has ls 6 [(0, .ref h_mod), (1, .int p0), (2, .int p1), (3, .int p2), (4, .int z0J3)] → W p l e (headSpec wsMod_feed rm_Mod_feed).room s m ([.ref h_mod, .int p0, .int p1, .int p2]).toArray below meth c s.heap [] 0 0 (MQ below (va_Qi (fun (r : Int32) (_ : Unit) => r = v.1) (fun _ t => sx_W (dC, dI) [(cI, .int), (cL, .long), (cZ, .boolean)] A [(h_mod, .inr (5, [.int v.2.1, .int mod_gates, .int v.2.2.1, .int mod_inputs, .int mod_latches, .int mod_outputs, .ref a_mod_sort, .ref a_mod_number, .ref a_mod_value, .ref a_mod_made, .ref a_mod_to, .ref a_mod_from, .ref a_mod_outputOf, .ref a_mod_negated, .int v.2.2.2.2.2.2, .ref a_mod_settles, .ref a_mod_next, .ref a_mod_ones, .ref a_mod_distance, .ref a_mod_apart, .ref a_mod_leads])), (a_mod_sort, .inl (cI, 60, .inl mod_sort)), (a_mod_to, .inl (cI, 240, .inl v.2.2.2.1)), (a_mod_from, .inl (cI, 240, .inl v.2.2.2.2.1)), (a_mod_negated, .inl (cZ, 240, .inl v.2.2.2.2.2.1))] t) A) ([.ref h_mod, .int p0, .int p1, .int p2]).toArray s 0 0 A) (F0 m 59 ls []) := by
      intro _ hm ls hl
      rw [hJ16] at hm
      dsimp only at hm
      refine lv_iconst (v := (0 : Int32)) hx hb dMod_feed_59 (by decide) ?_
      exact jJ4 (0 : Int32) hm _ (hl)
    refine lv_if_eq (tgt := 59) hx hb dMod_feed_25 (by decide) (fun c17 => ?_) (fun c17 => ?_)
    · have hm := sx_pos c17 hm
      exact jJ16 () hm _ (lv_sub hl [1, 2, 3, 4, 0] rfl)
    · have hm := sx_neg c17 hm
      refine lv_aload_n hx hb dMod_feed_28 rfl (lv_at hl 1 rfl) ?_
      refine va_get (D := (dC, dI)) (ci := 5) (v := .ref a_mod_sort) (C := RMod) (T := TMod) (N := 21) hx hb hts inMod hown hK hP 0 rfl rfl 6 (by decide) (hts _ tw_617) (fun _ h9 => h9) rfl dMod_feed_29 ?_
      refine lv_iload_n hx hb dMod_feed_32 rfl (lv_at hl 2 rfl) ?_
      obtain ⟨g18, hm⟩ := gd_el hm
      refine va_iald hx hb hK hP 1 0 rfl rfl g18 dMod_feed_33 ?_
      obtain ⟨J19, hJ19, hm⟩ := sx_lj hm
      have jJ19 : ∀ (_ : Unit), J19 () = some v → ∀ (ls : Array Slot), lv_has ls 6 [(0, .ref h_mod), (1, .int p0), (2, .int p1), (3, .int p2), (4, .int z0J3)] → W p l e (headSpec wsMod_feed rm_Mod_feed).room s m ([.ref h_mod, .int p0, .int p1, .int p2]).toArray below meth c s.heap [] 0 0 (MQ below (va_Qi (fun (r : Int32) (_ : Unit) => r = v.1) (fun _ t => sx_W (dC, dI) [(cI, .int), (cL, .long), (cZ, .boolean)] A [(h_mod, .inr (5, [.int v.2.1, .int mod_gates, .int v.2.2.1, .int mod_inputs, .int mod_latches, .int mod_outputs, .ref a_mod_sort, .ref a_mod_number, .ref a_mod_value, .ref a_mod_made, .ref a_mod_to, .ref a_mod_from, .ref a_mod_outputOf, .ref a_mod_negated, .int v.2.2.2.2.2.2, .ref a_mod_settles, .ref a_mod_next, .ref a_mod_ones, .ref a_mod_distance, .ref a_mod_apart, .ref a_mod_leads])), (a_mod_sort, .inl (cI, 60, .inl mod_sort)), (a_mod_to, .inl (cI, 240, .inl v.2.2.2.1)), (a_mod_from, .inl (cI, 240, .inl v.2.2.2.2.1)), (a_mod_negated, .inl (cZ, 240, .inl v.2.2.2.2.2.1))] t) A) ([.ref h_mod, .int p0, .int p1, .int p2]).toArray s 0 0 A) (F0 m 55 ls []) := by
        intro _ hm ls hl
        rw [hJ19] at hm
        dsimp only at hm
        refine lv_iconst (v := (1 : Int32)) hx hb dMod_feed_55 (by decide) ?_
        refine lv_goto (tgt := 60) hx hb dMod_feed_56 (by decide) ?_
        exact jJ4 (1 : Int32) hm _ (hl)
      refine lv_if_eq (tgt := 55) hx hb dMod_feed_34 (by decide) (fun c20 => ?_) (fun c20 => ?_)
      · have hm := sx_pos c20 hm
        exact jJ19 () hm _ (lv_sub hl [1, 2, 3, 4, 0] rfl)
      · have hm := sx_neg c20 hm
        refine lv_aload_n hx hb dMod_feed_37 rfl (lv_at hl 1 rfl) ?_
        refine va_get (D := (dC, dI)) (ci := 5) (v := .ref a_mod_sort) (C := RMod) (T := TMod) (N := 21) hx hb hts inMod hown hK hP 0 rfl rfl 6 (by decide) (hts _ tw_617) (fun _ h9 => h9) rfl dMod_feed_38 ?_
        refine lv_iload_n hx hb dMod_feed_41 rfl (lv_at hl 2 rfl) ?_
        obtain ⟨g21, hm⟩ := gd_el hm
        refine va_iald hx hb hK hP 1 0 rfl rfl g21 dMod_feed_42 ?_
        refine lv_iconst (v := (1 : Int32)) hx hb dMod_feed_43 (by decide) ?_
        refine lv_icmp_ne (tgt := 59) hx hb dMod_feed_44 (by decide) (fun c22 => ?_) (fun c22 => ?_)
        · have hm := sx_neg c22 hm
          exact jJ16 () hm _ (lv_sub hl [1, 2, 3, 4, 0] rfl)
        · have hm := sx_pos c22 hm
          refine lv_aload_n hx hb dMod_feed_47 rfl (lv_at hl 1 rfl) ?_
          refine lv_iload_n hx hb dMod_feed_48 rfl (lv_at hl 2 rfl) ?_
          obtain ⟨v23, hv23, hm⟩ := sx_bind hm
          have hPc := hP.sub (ws' := [(h_mod, .inr (5, [.int mod_code, .int mod_gates, .int mod_feeds, .int mod_inputs, .int mod_latches, .int mod_outputs, .ref a_mod_sort, .ref a_mod_number, .ref a_mod_value, .ref a_mod_made, .ref a_mod_to, .ref a_mod_from, .ref a_mod_outputOf, .ref a_mod_negated, .int mod_explored, .ref a_mod_settles, .ref a_mod_next, .ref a_mod_ones, .ref a_mod_distance, .ref a_mod_apart, .ref a_mod_leads])), (a_mod_to, .inl (cI, 240, .inl mod_to))]) [0, 2] rfl
          have hDc := hD.sub (ws' := [(h_mod, .inr (5, [.int mod_code, .int mod_gates, .int mod_feeds, .int mod_inputs, .int mod_latches, .int mod_outputs, .ref a_mod_sort, .ref a_mod_number, .ref a_mod_value, .ref a_mod_made, .ref a_mod_to, .ref a_mod_from, .ref a_mod_outputOf, .ref a_mod_negated, .int mod_explored, .ref a_mod_settles, .ref a_mod_next, .ref a_mod_ones, .ref a_mod_distance, .ref a_mod_apart, .ref a_mod_leads])), (a_mod_to, .inl (cI, 240, .inl mod_to))]) [0, 2] (by decide) rfl
          have hFc := va_free (wc := [(h_mod, .inr (5, [.int mod_code, .int mod_gates, .int mod_feeds, .int mod_inputs, .int mod_latches, .int mod_outputs, .ref a_mod_sort, .ref a_mod_number, .ref a_mod_value, .ref a_mod_made, .ref a_mod_to, .ref a_mod_from, .ref a_mod_outputOf, .ref a_mod_negated, .int mod_explored, .ref a_mod_settles, .ref a_mod_next, .ref a_mod_ones, .ref a_mod_distance, .ref a_mod_apart, .ref a_mod_leads])), (a_mod_to, .inl (cI, 240, .inl mod_to))]) hD hS hA [0, 2] rfl
          refine sx_stI (va_runV (As := [.int p0]) (rest := []) ⟨hx, hb, hml, hown, hts⟩ (k_Mod_feedsOf l dC dI cI cL cZ t1 t2 h_mod a_mod_sort a_mod_number a_mod_value a_mod_made a_mod_to a_mod_from a_mod_outputOf a_mod_negated a_mod_settles a_mod_next a_mod_ones a_mod_distance a_mod_apart a_mod_leads mod_code mod_gates mod_feeds mod_inputs mod_latches mod_outputs mod_to mod_explored _ p0 v23 hv23) (cwV 1 hts (sx_gV tw_692 tw_694 tw_21 tw_41 tcMod_feedsOf) rfl rfl rfl (by decide +kernel) ⟨Nat.le_of_ble_eq_true rfl, Nat.le_of_ble_eq_true rfl⟩) (sx_pV hK hX hS hPc hDc hFc (va_recv hK hPc (ci := 5) (q0 := 0) rfl rfl)) rfl rfl hl.1 rfl (lv_room (Nat.le_of_ble_eq_true rfl)) dMod_feed_49 ⟨Nat.le_of_ble_eq_true rfl, Nat.le_of_ble_eq_true rfl⟩) ?_
          refine lv_if_le (tgt := 59) hx hb dMod_feed_52 (by decide) (fun c25 => ?_) (fun c25 => ?_)
          · have hm := sx_pos c25 hm
            exact jJ16 () hm _ (lv_sub hl [1, 2, 3, 4, 0] rfl)
          · have hm := sx_neg c25 hm
            exact jJ19 () hm _ (lv_sub hl [1, 2, 3, 4, 0] rfl)
  obtain ⟨J26, hJ26, hm⟩ := sx_lj hm
  have jJ26 : ∀ (_ : Unit), J26 () = some v → ∀ (ls : Array Slot), lv_has ls 6 [(0, .ref h_mod), (1, .int p0), (2, .int p1), (3, .int p2)] → W p l e (headSpec wsMod_feed rm_Mod_feed).room s m ([.ref h_mod, .int p0, .int p1, .int p2]).toArray below meth c s.heap [] 0 0 (MQ below (va_Qi (fun (r : Int32) (_ : Unit) => r = v.1) (fun _ t => sx_W (dC, dI) [(cI, .int), (cL, .long), (cZ, .boolean)] A [(h_mod, .inr (5, [.int v.2.1, .int mod_gates, .int v.2.2.1, .int mod_inputs, .int mod_latches, .int mod_outputs, .ref a_mod_sort, .ref a_mod_number, .ref a_mod_value, .ref a_mod_made, .ref a_mod_to, .ref a_mod_from, .ref a_mod_outputOf, .ref a_mod_negated, .int v.2.2.2.2.2.2, .ref a_mod_settles, .ref a_mod_next, .ref a_mod_ones, .ref a_mod_distance, .ref a_mod_apart, .ref a_mod_leads])), (a_mod_sort, .inl (cI, 60, .inl mod_sort)), (a_mod_to, .inl (cI, 240, .inl v.2.2.2.1)), (a_mod_from, .inl (cI, 240, .inl v.2.2.2.2.1)), (a_mod_negated, .inl (cZ, 240, .inl v.2.2.2.2.2.1))] t) A) ([.ref h_mod, .int p0, .int p1, .int p2]).toArray s 0 0 A) (F0 m 20 ls []) := by
    intro _ hm ls hl
    rw [hJ26] at hm
    dsimp only at hm
    refine lv_iconst (v := (0 : Int32)) hx hb dMod_feed_20 (by decide) ?_
    exact jJ3 (0 : Int32) hm _ (hl)
  refine lv_if_eq (tgt := 20) hx hb dMod_feed_5 (by decide) (fun c27 => ?_) (fun c27 => ?_)
  · have hm := sx_pos c27 hm
    exact jJ26 () hm _ (hl)
  · have hm := sx_neg c27 hm
    refine lv_aload_n hx hb dMod_feed_8 rfl (lv_at hl 0 rfl) ?_
    refine lv_iload_n hx hb dMod_feed_9 rfl (lv_at hl 2 rfl) ?_
    obtain ⟨v28, hv28, hm⟩ := sx_bind hm
    have hPc := hP.sub (ws' := [(h_mod, .inr (5, [.int mod_code, .int mod_gates, .int mod_feeds, .int mod_inputs, .int mod_latches, .int mod_outputs, .ref a_mod_sort, .ref a_mod_number, .ref a_mod_value, .ref a_mod_made, .ref a_mod_to, .ref a_mod_from, .ref a_mod_outputOf, .ref a_mod_negated, .int mod_explored, .ref a_mod_settles, .ref a_mod_next, .ref a_mod_ones, .ref a_mod_distance, .ref a_mod_apart, .ref a_mod_leads]))]) [0] rfl
    have hDc := hD.sub (ws' := [(h_mod, .inr (5, [.int mod_code, .int mod_gates, .int mod_feeds, .int mod_inputs, .int mod_latches, .int mod_outputs, .ref a_mod_sort, .ref a_mod_number, .ref a_mod_value, .ref a_mod_made, .ref a_mod_to, .ref a_mod_from, .ref a_mod_outputOf, .ref a_mod_negated, .int mod_explored, .ref a_mod_settles, .ref a_mod_next, .ref a_mod_ones, .ref a_mod_distance, .ref a_mod_apart, .ref a_mod_leads]))]) [0] (by decide) rfl
    have hFc := va_free (wc := [(h_mod, .inr (5, [.int mod_code, .int mod_gates, .int mod_feeds, .int mod_inputs, .int mod_latches, .int mod_outputs, .ref a_mod_sort, .ref a_mod_number, .ref a_mod_value, .ref a_mod_made, .ref a_mod_to, .ref a_mod_from, .ref a_mod_outputOf, .ref a_mod_negated, .int mod_explored, .ref a_mod_settles, .ref a_mod_next, .ref a_mod_ones, .ref a_mod_distance, .ref a_mod_apart, .ref a_mod_leads]))]) hD hS hA [0] rfl
    refine sx_stI (va_runV (As := [.int p1]) (rest := []) ⟨hx, hb, hml, hown, hts⟩ (k_Mod_isGate l dC dI cI cL cZ t1 t2 h_mod a_mod_sort a_mod_number a_mod_value a_mod_made a_mod_to a_mod_from a_mod_outputOf a_mod_negated a_mod_settles a_mod_next a_mod_ones a_mod_distance a_mod_apart a_mod_leads mod_code mod_gates mod_feeds mod_inputs mod_latches mod_outputs mod_explored _ p1 v28 hv28) (cwV 1 hts (sx_gV tw_688 tw_690 tw_20 tw_41 tcMod_isGate) rfl rfl rfl (by decide +kernel) ⟨Nat.le_of_ble_eq_true rfl, Nat.le_of_ble_eq_true rfl⟩) (sx_pV hK hX hS hPc hDc hFc (va_recv hK hPc (ci := 5) (q0 := 0) rfl rfl)) rfl rfl hl.1 rfl (lv_room (Nat.le_of_ble_eq_true rfl)) dMod_feed_10 ⟨Nat.le_of_ble_eq_true rfl, Nat.le_of_ble_eq_true rfl⟩) ?_
    refine lv_if_eq (tgt := 20) hx hb dMod_feed_13 (by decide) (fun c30 => ?_) (fun c30 => ?_)
    · have hm := sx_pos c30 hm
      exact jJ26 () hm _ (hl)
    · have hm := sx_neg c30 hm
      refine lv_iconst (v := (1 : Int32)) hx hb dMod_feed_16 (by decide) ?_
      refine lv_goto (tgt := 21) hx hb dMod_feed_17 (by decide) ?_
      exact jJ3 (1 : Int32) hm _ (hl)
noncomputable def m_Mod_output (mod_code mod_gates mod_outputs : Int32) (mod_outputOf : Nat → Int32) (mod_explored : Int32) (p0 : Int32) : Option (Int32 × Int32 × Int32 × (Nat → Int32) × Int32) := (m_Mod_isGate mod_gates p0).bind (fun v1 => (sx_let (fun (z0J3 : Int32) => (m_Mod_fails mod_code z0J3 (0 : Int32)).bind (fun v4 => (if v4.1 = (0 : Int32) then (if mod_outputs = (6 : Int32) then some ((-1 : Int32), v4.2, mod_outputs, mod_outputOf, mod_explored) else gd (vp_in mod_outputs 6) (some (mod_outputs + (1 : Int32), v4.2, mod_outputs + (1 : Int32), upd mod_outputOf mod_outputs.toNatClampNeg p0, (0 : Int32)))) else some ((0 : Int32), v4.2, mod_outputs, mod_outputOf, mod_explored)))) (fun J3 => (if v1 = (0 : Int32) then (J3 (1 : Int32)) else (J3 (0 : Int32))))))
def rm_Mod_output : Room := { frames := 1, cells := 0, slots := 0, locals := 22 }
set_option maxHeartbeats 4000000 in
set_option maxRecDepth 100000 in
theorem k_Mod_output (l : Launch) (dC : Nat → ClassId) (dI : Nat → Nat → Nat) (cI cL cZ : ClassId) (t1 t2 : Nat) (h_mod a_mod_sort a_mod_number a_mod_value a_mod_made a_mod_to a_mod_from a_mod_outputOf a_mod_negated a_mod_settles a_mod_next a_mod_ones a_mod_distance a_mod_apart a_mod_leads : Nat) (mod_code mod_gates mod_feeds mod_inputs mod_latches mod_outputs : Int32) (mod_outputOf : Nat → Int32) (mod_explored : Int32) (sz : Nat) (p0 : Int32) (v : Int32 × Int32 × Int32 × (Nat → Int32) × Int32) (hm : m_Mod_output mod_code mod_gates mod_outputs mod_outputOf mod_explored p0 = some v) : Met l yMod_output wsMod_output rm_Mod_output (sx_Pc (dC, dI) [(cI, .int), (cL, .long), (cZ, .boolean)] t1 t2 [(h_mod, .inr (5, [.int mod_code, .int mod_gates, .int mod_feeds, .int mod_inputs, .int mod_latches, .int mod_outputs, .ref a_mod_sort, .ref a_mod_number, .ref a_mod_value, .ref a_mod_made, .ref a_mod_to, .ref a_mod_from, .ref a_mod_outputOf, .ref a_mod_negated, .int mod_explored, .ref a_mod_settles, .ref a_mod_next, .ref a_mod_ones, .ref a_mod_distance, .ref a_mod_apart, .ref a_mod_leads])), (a_mod_outputOf, .inl (cI, 6, .inl mod_outputOf))] sz [.ref h_mod, .int p0]) (va_Qi (fun (r : Int32) (_ : Unit) => r = v.1) (fun _ t => sx_W (dC, dI) [(cI, .int), (cL, .long), (cZ, .boolean)] (va_A [(h_mod, .inr (5, [.int mod_code, .int mod_gates, .int mod_feeds, .int mod_inputs, .int mod_latches, .int mod_outputs, .ref a_mod_sort, .ref a_mod_number, .ref a_mod_value, .ref a_mod_made, .ref a_mod_to, .ref a_mod_from, .ref a_mod_outputOf, .ref a_mod_negated, .int mod_explored, .ref a_mod_settles, .ref a_mod_next, .ref a_mod_ones, .ref a_mod_distance, .ref a_mod_apart, .ref a_mod_leads])), (a_mod_outputOf, .inl (cI, 6, .inl mod_outputOf))] sz) [(h_mod, .inr (5, [.int v.2.1, .int mod_gates, .int mod_feeds, .int mod_inputs, .int mod_latches, .int v.2.2.1, .ref a_mod_sort, .ref a_mod_number, .ref a_mod_value, .ref a_mod_made, .ref a_mod_to, .ref a_mod_from, .ref a_mod_outputOf, .ref a_mod_negated, .int v.2.2.2.2, .ref a_mod_settles, .ref a_mod_next, .ref a_mod_ones, .ref a_mod_distance, .ref a_mod_apart, .ref a_mod_leads])), (a_mod_outputOf, .inl (cI, 6, .inl v.2.2.2.1))] t) (va_A [(h_mod, .inr (5, [.int mod_code, .int mod_gates, .int mod_feeds, .int mod_inputs, .int mod_latches, .int mod_outputs, .ref a_mod_sort, .ref a_mod_number, .ref a_mod_value, .ref a_mod_made, .ref a_mod_to, .ref a_mod_from, .ref a_mod_outputOf, .ref a_mod_negated, .int mod_explored, .ref a_mod_settles, .ref a_mod_next, .ref a_mod_ones, .ref a_mod_distance, .ref a_mod_apart, .ref a_mod_leads])), (a_mod_outputOf, .inl (cI, 6, .inl mod_outputOf))] sz)) 0 0 (va_A [(h_mod, .inr (5, [.int mod_code, .int mod_gates, .int mod_feeds, .int mod_inputs, .int mod_latches, .int mod_outputs, .ref a_mod_sort, .ref a_mod_number, .ref a_mod_value, .ref a_mod_made, .ref a_mod_to, .ref a_mod_from, .ref a_mod_outputOf, .ref a_mod_negated, .int mod_explored, .ref a_mod_settles, .ref a_mod_next, .ref a_mod_ones, .ref a_mod_distance, .ref a_mod_apart, .ref a_mod_leads])), (a_mod_outputOf, .inl (cI, 6, .inl mod_outputOf))] sz) := by
  refine Met.ofW (cc := cMod_output) (maxL := 2) (ret := (some .int)) (by decide) rfl ?_
  intro p e s m args below meth c s₁ B hml hv
  obtain ⟨rfl, hsz, hP, hK, hD0, hX⟩ := hv
  have hx := B.exec
  have hb := B.bytes
  have hr := B.returns
  have hts0 := atoms_spec (ws := wsMod_output) B.pre
  have hts : ∀ w ∈ tb, w.before _ s = true := fun w h => hts0 w (List.mem_cons_of_mem _ h)
  have hown : s.vm.findClass "StateExplorerModel" = some m.cls := findClass_of_methodNamed B.named
  have hlocks := B.notSynchronized
  subst hsz
  have hD := hD0.self (sz := s.heap.size)
  generalize hAe : va_A [(h_mod, .inr (5, [.int mod_code, .int mod_gates, .int mod_feeds, .int mod_inputs, .int mod_latches, .int mod_outputs, .ref a_mod_sort, .ref a_mod_number, .ref a_mod_value, .ref a_mod_made, .ref a_mod_to, .ref a_mod_from, .ref a_mod_outputOf, .ref a_mod_negated, .int mod_explored, .ref a_mod_settles, .ref a_mod_next, .ref a_mod_ones, .ref a_mod_distance, .ref a_mod_apart, .ref a_mod_leads])), (a_mod_outputOf, .inl (cI, 6, .inl mod_outputOf))] s.heap.size = A at hD hX ⊢
  have hA : ∀ q : Nat, s.heap.size ≤ q → A q := fun q h => by rw [← hAe]; exact Or.inr h
  have hS : va_S A s.heap s.heap [] := va_S.rf
  have hl := lv_entry ([.ref h_mod, .int p0]) (n := 2) (Nat.le_of_ble_eq_true rfl)
  rw [lg_entry_eq]
  generalize (lg_sl ([.ref h_mod, .int p0]) ++ List.replicate (2 - (lg_sl ([.ref h_mod, .int p0])).length) Slot.unset).toArray = ls at hl ⊢
  have hl : lv_has ls 2 [(0, .ref h_mod), (1, .int p0)] := hl
  have C0 : sx_C p s m _ meth c cMod_output 2 "StateExplorerModel" A (dC, dI) [(cI, .int), (cL, .long), (cZ, .boolean)] t1 t2 := ⟨hx, hb, hml, hown, hts, hA, hK, hlocks, hX⟩
  rw [m_Mod_output] at hm
  refine lv_aload_n hx hb dMod_output_0 rfl (lv_at hl 0 rfl) ?_
  refine lv_aload_n hx hb dMod_output_1 rfl (lv_at hl 0 rfl) ?_
  refine lv_iload_n hx hb dMod_output_2 rfl (lv_at hl 1 rfl) ?_
  obtain ⟨v1, hv1, hm⟩ := sx_bind hm
  have hPc := hP.sub (ws' := [(h_mod, .inr (5, [.int mod_code, .int mod_gates, .int mod_feeds, .int mod_inputs, .int mod_latches, .int mod_outputs, .ref a_mod_sort, .ref a_mod_number, .ref a_mod_value, .ref a_mod_made, .ref a_mod_to, .ref a_mod_from, .ref a_mod_outputOf, .ref a_mod_negated, .int mod_explored, .ref a_mod_settles, .ref a_mod_next, .ref a_mod_ones, .ref a_mod_distance, .ref a_mod_apart, .ref a_mod_leads]))]) [0] rfl
  have hDc := hD.sub (ws' := [(h_mod, .inr (5, [.int mod_code, .int mod_gates, .int mod_feeds, .int mod_inputs, .int mod_latches, .int mod_outputs, .ref a_mod_sort, .ref a_mod_number, .ref a_mod_value, .ref a_mod_made, .ref a_mod_to, .ref a_mod_from, .ref a_mod_outputOf, .ref a_mod_negated, .int mod_explored, .ref a_mod_settles, .ref a_mod_next, .ref a_mod_ones, .ref a_mod_distance, .ref a_mod_apart, .ref a_mod_leads]))]) [0] (by decide) rfl
  have hFc := va_free (wc := [(h_mod, .inr (5, [.int mod_code, .int mod_gates, .int mod_feeds, .int mod_inputs, .int mod_latches, .int mod_outputs, .ref a_mod_sort, .ref a_mod_number, .ref a_mod_value, .ref a_mod_made, .ref a_mod_to, .ref a_mod_from, .ref a_mod_outputOf, .ref a_mod_negated, .int mod_explored, .ref a_mod_settles, .ref a_mod_next, .ref a_mod_ones, .ref a_mod_distance, .ref a_mod_apart, .ref a_mod_leads]))]) hD hS hA [0] rfl
  refine sx_stI (va_runV (As := [.int p0]) (rest := [.ref h_mod]) ⟨hx, hb, hml, hown, hts⟩ (k_Mod_isGate l dC dI cI cL cZ t1 t2 h_mod a_mod_sort a_mod_number a_mod_value a_mod_made a_mod_to a_mod_from a_mod_outputOf a_mod_negated a_mod_settles a_mod_next a_mod_ones a_mod_distance a_mod_apart a_mod_leads mod_code mod_gates mod_feeds mod_inputs mod_latches mod_outputs mod_explored _ p0 v1 hv1) (cwV 1 hts (sx_gV tw_688 tw_690 tw_20 tw_41 tcMod_isGate) rfl rfl rfl (by decide +kernel) ⟨Nat.le_of_ble_eq_true rfl, Nat.le_of_ble_eq_true rfl⟩) (sx_pV hK hX hS hPc hDc hFc (va_recv hK hPc (ci := 5) (q0 := 0) rfl rfl)) rfl rfl hl.1 rfl (lv_room (Nat.le_of_ble_eq_true rfl)) dMod_output_3 ⟨Nat.le_of_ble_eq_true rfl, Nat.le_of_ble_eq_true rfl⟩) ?_
  obtain ⟨J3, hJ3, hm⟩ := sx_lj hm
  have jJ3 : ∀ (z0J3 : Int32), J3 z0J3 = some v → ∀ (ls : Array Slot), lv_has ls 2 [(0, .ref h_mod), (1, .int p0)] → W p l e (headSpec wsMod_output rm_Mod_output).room s m ([.ref h_mod, .int p0]).toArray below meth c s.heap [] 0 0 (MQ below (va_Qi (fun (r : Int32) (_ : Unit) => r = v.1) (fun _ t => sx_W (dC, dI) [(cI, .int), (cL, .long), (cZ, .boolean)] A [(h_mod, .inr (5, [.int v.2.1, .int mod_gates, .int mod_feeds, .int mod_inputs, .int mod_latches, .int v.2.2.1, .ref a_mod_sort, .ref a_mod_number, .ref a_mod_value, .ref a_mod_made, .ref a_mod_to, .ref a_mod_from, .ref a_mod_outputOf, .ref a_mod_negated, .int v.2.2.2.2, .ref a_mod_settles, .ref a_mod_next, .ref a_mod_ones, .ref a_mod_distance, .ref a_mod_apart, .ref a_mod_leads])), (a_mod_outputOf, .inl (cI, 6, .inl v.2.2.2.1))] t) A) ([.ref h_mod, .int p0]).toArray s 0 0 A) (F0 m 14 ls [.int z0J3, .ref h_mod]) := by
    intro z0J3 hm ls hl
    rw [hJ3] at hm
    dsimp only at hm
    refine lv_iconst (v := (0 : Int32)) hx hb dMod_output_14 (by decide) ?_
    obtain ⟨v4, hv4, hm⟩ := sx_bind hm
    have hPc := hP.sub (ws' := [(h_mod, .inr (5, [.int mod_code, .int mod_gates, .int mod_feeds, .int mod_inputs, .int mod_latches, .int mod_outputs, .ref a_mod_sort, .ref a_mod_number, .ref a_mod_value, .ref a_mod_made, .ref a_mod_to, .ref a_mod_from, .ref a_mod_outputOf, .ref a_mod_negated, .int mod_explored, .ref a_mod_settles, .ref a_mod_next, .ref a_mod_ones, .ref a_mod_distance, .ref a_mod_apart, .ref a_mod_leads]))]) [0] rfl
    have hDc := hD.sub (ws' := [(h_mod, .inr (5, [.int mod_code, .int mod_gates, .int mod_feeds, .int mod_inputs, .int mod_latches, .int mod_outputs, .ref a_mod_sort, .ref a_mod_number, .ref a_mod_value, .ref a_mod_made, .ref a_mod_to, .ref a_mod_from, .ref a_mod_outputOf, .ref a_mod_negated, .int mod_explored, .ref a_mod_settles, .ref a_mod_next, .ref a_mod_ones, .ref a_mod_distance, .ref a_mod_apart, .ref a_mod_leads]))]) [0] (by decide) rfl
    have hFc := va_free (wc := [(h_mod, .inr (5, [.int mod_code, .int mod_gates, .int mod_feeds, .int mod_inputs, .int mod_latches, .int mod_outputs, .ref a_mod_sort, .ref a_mod_number, .ref a_mod_value, .ref a_mod_made, .ref a_mod_to, .ref a_mod_from, .ref a_mod_outputOf, .ref a_mod_negated, .int mod_explored, .ref a_mod_settles, .ref a_mod_next, .ref a_mod_ones, .ref a_mod_distance, .ref a_mod_apart, .ref a_mod_leads]))]) hD hS hA [0] rfl
    refine va_calli (va_runV (As := [.int z0J3, .int (0 : Int32)]) (rest := []) ⟨hx, hb, hml, hown, hts⟩ (k_Mod_fails l dC dI cI cL cZ t1 t2 h_mod a_mod_sort a_mod_number a_mod_value a_mod_made a_mod_to a_mod_from a_mod_outputOf a_mod_negated a_mod_settles a_mod_next a_mod_ones a_mod_distance a_mod_apart a_mod_leads mod_code mod_gates mod_feeds mod_inputs mod_latches mod_outputs mod_explored _ z0J3 (0 : Int32) v4 hv4) (cwV 2 hts (sx_gV tw_680 tw_682 tw_19 tw_41 tcMod_fails) rfl rfl rfl (by decide +kernel) ⟨Nat.le_of_ble_eq_true rfl, Nat.le_of_ble_eq_true rfl⟩) (sx_pV hK hX hS hPc hDc hFc (va_recv hK hPc (ci := 5) (q0 := 0) rfl rfl)) rfl rfl hl.1 rfl (lv_room (Nat.le_of_ble_eq_true rfl)) dMod_output_15 ⟨Nat.le_of_ble_eq_true rfl, Nat.le_of_ble_eq_true rfl⟩) hS (fun q _ h => hFc q h) hFc (fun r5 u_ t_ H locs ht hvm hw hB hz1 hk1 hS => ?_)
    obtain ⟨hP1, -, hD1⟩ := hB
    rw [ht] at hP1
    obtain ⟨hP, hD⟩ := va_join (wr := [(a_mod_outputOf, .inl (cI, 6, .inl mod_outputOf))]) (w1 := [(h_mod, .inr (5, [.int v4.2, .int mod_gates, .int mod_feeds, .int mod_inputs, .int mod_latches, .int mod_outputs, .ref a_mod_sort, .ref a_mod_number, .ref a_mod_value, .ref a_mod_made, .ref a_mod_to, .ref a_mod_from, .ref a_mod_outputOf, .ref a_mod_negated, .int mod_explored, .ref a_mod_settles, .ref a_mod_next, .ref a_mod_ones, .ref a_mod_distance, .ref a_mod_apart, .ref a_mod_leads]))]) hP hD [0] [1] rfl rfl (by decide) (by decide) hk1 hFc hP1 hD1
    have hP : va_P (dC, dI) vwCl [(a_mod_outputOf, .inl (cI, 6, .inl mod_outputOf)), (h_mod, .inr (5, [.int v4.2, .int mod_gates, .int mod_feeds, .int mod_inputs, .int mod_latches, .int mod_outputs, .ref a_mod_sort, .ref a_mod_number, .ref a_mod_value, .ref a_mod_made, .ref a_mod_to, .ref a_mod_from, .ref a_mod_outputOf, .ref a_mod_negated, .int mod_explored, .ref a_mod_settles, .ref a_mod_next, .ref a_mod_ones, .ref a_mod_distance, .ref a_mod_apart, .ref a_mod_leads]))] H := hP
    have hD : va_D A [(a_mod_outputOf, .inl (cI, 6, .inl mod_outputOf)), (h_mod, .inr (5, [.int v4.2, .int mod_gates, .int mod_feeds, .int mod_inputs, .int mod_latches, .int mod_outputs, .ref a_mod_sort, .ref a_mod_number, .ref a_mod_value, .ref a_mod_made, .ref a_mod_to, .ref a_mod_from, .ref a_mod_outputOf, .ref a_mod_negated, .int mod_explored, .ref a_mod_settles, .ref a_mod_next, .ref a_mod_ones, .ref a_mod_distance, .ref a_mod_apart, .ref a_mod_leads]))] := hD
    have hw9 := hw.symm
    subst hw9
    refine lv_if_eq (tgt := 23) hx hb dMod_output_18 (by decide) (fun c6 => ?_) (fun c6 => ?_)
    · have hm := sx_pos c6 hm
      refine lv_aload_n hx hb dMod_output_23 rfl (lv_at hl 0 rfl) ?_
      refine va_get (D := (dC, dI)) (ci := 5) (v := .int mod_outputs) (C := RMod) (T := TMod) (N := 21) hx hb hts inMod hown hK hP 1 rfl rfl 5 (by decide) (hts _ tw_616) (fun _ h9 => h9) rfl dMod_output_24 ?_
      refine lv_bipush (v := (6 : Int32)) hx hb dMod_output_27 (by decide) ?_
      refine lv_icmp_ne (tgt := 34) hx hb dMod_output_29 (by decide) (fun c7 => ?_) (fun c7 => ?_)
      · have hm := sx_neg c7 hm
        refine lv_aload_n hx hb dMod_output_34 rfl (lv_at hl 0 rfl) ?_
        refine va_get (D := (dC, dI)) (ci := 5) (v := .ref a_mod_outputOf) (C := RMod) (T := TMod) (N := 21) hx hb hts inMod hown hK hP 1 rfl rfl 12 (by decide) (hts _ tw_623) (fun _ h9 => h9) rfl dMod_output_35 ?_
        refine lv_aload_n hx hb dMod_output_38 rfl (lv_at hl 0 rfl) ?_
        refine va_get (D := (dC, dI)) (ci := 5) (v := .int mod_outputs) (C := RMod) (T := TMod) (N := 21) hx hb hts inMod hown hK hP 1 rfl rfl 5 (by decide) (hts _ tw_616) (fun _ h9 => h9) rfl dMod_output_39 ?_
        refine lv_iload_n hx hb dMod_output_42 rfl (lv_at hl 1 rfl) ?_
        obtain ⟨g8, hm⟩ := gd_el hm
        refine va_iast hx hb hK hP hD hS 0 0 rfl rfl g8 dMod_output_43 (fun H locs hP hD hS => ?_)
        have hP : va_P (dC, dI) vwCl [(a_mod_outputOf, .inl (cI, 6, .inl (upd mod_outputOf mod_outputs.toNatClampNeg p0))), (h_mod, .inr (5, [.int v4.2, .int mod_gates, .int mod_feeds, .int mod_inputs, .int mod_latches, .int mod_outputs, .ref a_mod_sort, .ref a_mod_number, .ref a_mod_value, .ref a_mod_made, .ref a_mod_to, .ref a_mod_from, .ref a_mod_outputOf, .ref a_mod_negated, .int mod_explored, .ref a_mod_settles, .ref a_mod_next, .ref a_mod_ones, .ref a_mod_distance, .ref a_mod_apart, .ref a_mod_leads]))] H := hP
        have hD : va_D A [(a_mod_outputOf, .inl (cI, 6, .inl (upd mod_outputOf mod_outputs.toNatClampNeg p0))), (h_mod, .inr (5, [.int v4.2, .int mod_gates, .int mod_feeds, .int mod_inputs, .int mod_latches, .int mod_outputs, .ref a_mod_sort, .ref a_mod_number, .ref a_mod_value, .ref a_mod_made, .ref a_mod_to, .ref a_mod_from, .ref a_mod_outputOf, .ref a_mod_negated, .int mod_explored, .ref a_mod_settles, .ref a_mod_next, .ref a_mod_ones, .ref a_mod_distance, .ref a_mod_apart, .ref a_mod_leads]))] := hD
        refine lv_aload_n hx hb dMod_output_44 rfl (lv_at hl 0 rfl) ?_
        refine lv_dup hx hb dMod_output_45 rfl ?_
        refine va_get (D := (dC, dI)) (ci := 5) (v := .int mod_outputs) (C := RMod) (T := TMod) (N := 21) hx hb hts inMod hown hK hP 1 rfl rfl 5 (by decide) (hts _ tw_616) (fun _ h9 => h9) rfl dMod_output_46 ?_
        refine lv_iconst (v := (1 : Int32)) hx hb dMod_output_49 (by decide) ?_
        refine lv_iadd hx hb dMod_output_50 ?_
        refine va_put (D := (dC, dI)) (ci := 5) (v := .int (mod_outputs + (1 : Int32))) (ty := .int) (C := RMod) (T := TMod) (N := 21) hx hb hts inMod tyMod tyMod_ok nmMod hown hK hP hD hS 1 rfl rfl 5 (by decide) (hts _ tw_616) (fun _ h9 => h9) rfl (by decide +kernel) rfl rfl (Nat.le_of_ble_eq_true rfl) dMod_output_51 (fun H locs hP hD hS => ?_)
        have hP : va_P (dC, dI) vwCl [(a_mod_outputOf, .inl (cI, 6, .inl (upd mod_outputOf mod_outputs.toNatClampNeg p0))), (h_mod, .inr (5, [.int v4.2, .int mod_gates, .int mod_feeds, .int mod_inputs, .int mod_latches, .int (mod_outputs + (1 : Int32)), .ref a_mod_sort, .ref a_mod_number, .ref a_mod_value, .ref a_mod_made, .ref a_mod_to, .ref a_mod_from, .ref a_mod_outputOf, .ref a_mod_negated, .int mod_explored, .ref a_mod_settles, .ref a_mod_next, .ref a_mod_ones, .ref a_mod_distance, .ref a_mod_apart, .ref a_mod_leads]))] H := hP
        have hD : va_D A [(a_mod_outputOf, .inl (cI, 6, .inl (upd mod_outputOf mod_outputs.toNatClampNeg p0))), (h_mod, .inr (5, [.int v4.2, .int mod_gates, .int mod_feeds, .int mod_inputs, .int mod_latches, .int (mod_outputs + (1 : Int32)), .ref a_mod_sort, .ref a_mod_number, .ref a_mod_value, .ref a_mod_made, .ref a_mod_to, .ref a_mod_from, .ref a_mod_outputOf, .ref a_mod_negated, .int mod_explored, .ref a_mod_settles, .ref a_mod_next, .ref a_mod_ones, .ref a_mod_distance, .ref a_mod_apart, .ref a_mod_leads]))] := hD
        refine lv_aload_n hx hb dMod_output_54 rfl (lv_at hl 0 rfl) ?_
        refine lv_iconst (v := (0 : Int32)) hx hb dMod_output_55 (by decide) ?_
        refine va_put (D := (dC, dI)) (ci := 5) (v := .int (0 : Int32)) (ty := .boolean) (C := RMod) (T := TMod) (N := 21) hx hb hts inMod tyMod tyMod_ok nmMod hown hK hP hD hS 1 rfl rfl 14 (by decide) (hts _ tw_625) (fun _ h9 => h9) rfl (by decide +kernel) (by decide) (by decide) (Nat.le_of_ble_eq_true rfl) dMod_output_56 (fun H locs hP hD hS => ?_)
        have hP : va_P (dC, dI) vwCl [(a_mod_outputOf, .inl (cI, 6, .inl (upd mod_outputOf mod_outputs.toNatClampNeg p0))), (h_mod, .inr (5, [.int v4.2, .int mod_gates, .int mod_feeds, .int mod_inputs, .int mod_latches, .int (mod_outputs + (1 : Int32)), .ref a_mod_sort, .ref a_mod_number, .ref a_mod_value, .ref a_mod_made, .ref a_mod_to, .ref a_mod_from, .ref a_mod_outputOf, .ref a_mod_negated, .int (0 : Int32), .ref a_mod_settles, .ref a_mod_next, .ref a_mod_ones, .ref a_mod_distance, .ref a_mod_apart, .ref a_mod_leads]))] H := hP
        have hD : va_D A [(a_mod_outputOf, .inl (cI, 6, .inl (upd mod_outputOf mod_outputs.toNatClampNeg p0))), (h_mod, .inr (5, [.int v4.2, .int mod_gates, .int mod_feeds, .int mod_inputs, .int mod_latches, .int (mod_outputs + (1 : Int32)), .ref a_mod_sort, .ref a_mod_number, .ref a_mod_value, .ref a_mod_made, .ref a_mod_to, .ref a_mod_from, .ref a_mod_outputOf, .ref a_mod_negated, .int (0 : Int32), .ref a_mod_settles, .ref a_mod_next, .ref a_mod_ones, .ref a_mod_distance, .ref a_mod_apart, .ref a_mod_leads]))] := hD
        refine lv_aload_n hx hb dMod_output_59 rfl (lv_at hl 0 rfl) ?_
        refine va_get (D := (dC, dI)) (ci := 5) (v := .int (mod_outputs + (1 : Int32))) (C := RMod) (T := TMod) (N := 21) hx hb hts inMod hown hK hP 1 rfl rfl 5 (by decide) (hts _ tw_616) (fun _ h9 => h9) rfl dMod_output_60 ?_
        obtain rfl := Option.some.inj hm
        exact W.iret (v := mod_outputs + (1 : Int32)) hx hb hr (fun t ht hW => ⟨⟨(mod_outputs + (1 : Int32)), (), rfl, rfl, sx_Wi (hP.sub (ws' := [(h_mod, .inr (5, [.int v4.2, .int mod_gates, .int mod_feeds, .int mod_inputs, .int mod_latches, .int (mod_outputs + (1 : Int32)), .ref a_mod_sort, .ref a_mod_number, .ref a_mod_value, .ref a_mod_made, .ref a_mod_to, .ref a_mod_from, .ref a_mod_outputOf, .ref a_mod_negated, .int (0 : Int32), .ref a_mod_settles, .ref a_mod_next, .ref a_mod_ones, .ref a_mod_distance, .ref a_mod_apart, .ref a_mod_leads])), (a_mod_outputOf, .inl (cI, 6, .inl (upd mod_outputOf mod_outputs.toNatClampNeg p0)))]) [1, 0] rfl) hK (hD.sub (ws' := [(h_mod, .inr (5, [.int v4.2, .int mod_gates, .int mod_feeds, .int mod_inputs, .int mod_latches, .int (mod_outputs + (1 : Int32)), .ref a_mod_sort, .ref a_mod_number, .ref a_mod_value, .ref a_mod_made, .ref a_mod_to, .ref a_mod_from, .ref a_mod_outputOf, .ref a_mod_negated, .int (0 : Int32), .ref a_mod_settles, .ref a_mod_next, .ref a_mod_ones, .ref a_mod_distance, .ref a_mod_apart, .ref a_mod_leads])), (a_mod_outputOf, .inl (cI, 6, .inl (upd mod_outputOf mod_outputs.toNatClampNeg p0)))]) [1, 0] (by decide) rfl) ht hW.alike⟩, hS.F ht⟩) hS.2.2 dMod_output_63
      · have hm := sx_pos c7 hm
        refine lv_iconst (v := (-1 : Int32)) hx hb dMod_output_32 (by decide) ?_
        obtain rfl := Option.some.inj hm
        exact W.iret (v := (-1 : Int32)) hx hb hr (fun t ht hW => ⟨⟨(-1 : Int32), (), rfl, rfl, sx_Wi (hP.sub (ws' := [(h_mod, .inr (5, [.int v4.2, .int mod_gates, .int mod_feeds, .int mod_inputs, .int mod_latches, .int mod_outputs, .ref a_mod_sort, .ref a_mod_number, .ref a_mod_value, .ref a_mod_made, .ref a_mod_to, .ref a_mod_from, .ref a_mod_outputOf, .ref a_mod_negated, .int mod_explored, .ref a_mod_settles, .ref a_mod_next, .ref a_mod_ones, .ref a_mod_distance, .ref a_mod_apart, .ref a_mod_leads])), (a_mod_outputOf, .inl (cI, 6, .inl mod_outputOf))]) [1, 0] rfl) hK (hD.sub (ws' := [(h_mod, .inr (5, [.int v4.2, .int mod_gates, .int mod_feeds, .int mod_inputs, .int mod_latches, .int mod_outputs, .ref a_mod_sort, .ref a_mod_number, .ref a_mod_value, .ref a_mod_made, .ref a_mod_to, .ref a_mod_from, .ref a_mod_outputOf, .ref a_mod_negated, .int mod_explored, .ref a_mod_settles, .ref a_mod_next, .ref a_mod_ones, .ref a_mod_distance, .ref a_mod_apart, .ref a_mod_leads])), (a_mod_outputOf, .inl (cI, 6, .inl mod_outputOf))]) [1, 0] (by decide) rfl) ht hW.alike⟩, hS.F ht⟩) hS.2.2 dMod_output_33
    · have hm := sx_neg c6 hm
      refine lv_iconst (v := (0 : Int32)) hx hb dMod_output_21 (by decide) ?_
      obtain rfl := Option.some.inj hm
      exact W.iret (v := (0 : Int32)) hx hb hr (fun t ht hW => ⟨⟨(0 : Int32), (), rfl, rfl, sx_Wi (hP.sub (ws' := [(h_mod, .inr (5, [.int v4.2, .int mod_gates, .int mod_feeds, .int mod_inputs, .int mod_latches, .int mod_outputs, .ref a_mod_sort, .ref a_mod_number, .ref a_mod_value, .ref a_mod_made, .ref a_mod_to, .ref a_mod_from, .ref a_mod_outputOf, .ref a_mod_negated, .int mod_explored, .ref a_mod_settles, .ref a_mod_next, .ref a_mod_ones, .ref a_mod_distance, .ref a_mod_apart, .ref a_mod_leads])), (a_mod_outputOf, .inl (cI, 6, .inl mod_outputOf))]) [1, 0] rfl) hK (hD.sub (ws' := [(h_mod, .inr (5, [.int v4.2, .int mod_gates, .int mod_feeds, .int mod_inputs, .int mod_latches, .int mod_outputs, .ref a_mod_sort, .ref a_mod_number, .ref a_mod_value, .ref a_mod_made, .ref a_mod_to, .ref a_mod_from, .ref a_mod_outputOf, .ref a_mod_negated, .int mod_explored, .ref a_mod_settles, .ref a_mod_next, .ref a_mod_ones, .ref a_mod_distance, .ref a_mod_apart, .ref a_mod_leads])), (a_mod_outputOf, .inl (cI, 6, .inl mod_outputOf))]) [1, 0] (by decide) rfl) ht hW.alike⟩, hS.F ht⟩) hS.2.2 dMod_output_22
  refine lv_if_ne (tgt := 13) hx hb dMod_output_6 (by decide) (fun c9 => ?_) (fun c9 => ?_)
  · have hm := sx_neg c9 hm
    refine lv_iconst (v := (0 : Int32)) hx hb dMod_output_13 (by decide) ?_
    exact jJ3 (0 : Int32) hm _ (hl)
  · have hm := sx_pos c9 hm
    refine lv_iconst (v := (1 : Int32)) hx hb dMod_output_9 (by decide) ?_
    refine lv_goto (tgt := 14) hx hb dMod_output_10 (by decide) ?_
    exact jJ3 (1 : Int32) hm _ (hl)
noncomputable def m_Mod_clear (mod_code mod_gates mod_feeds mod_inputs mod_latches mod_outputs mod_explored : Int32)  : Option (Int32 × Int32 × Int32 × Int32 × Int32 × Int32 × Int32 × Int32) := some (mod_gates, (0 : Int32), (0 : Int32), (0 : Int32), (0 : Int32), (0 : Int32), (0 : Int32), (0 : Int32))
def rm_Mod_clear : Room := { frames := 0, cells := 0, slots := 0, locals := 0 }
set_option maxHeartbeats 4000000 in
set_option maxRecDepth 100000 in
theorem k_Mod_clear (l : Launch) (dC : Nat → ClassId) (dI : Nat → Nat → Nat) (cI cL cZ : ClassId) (t1 t2 : Nat) (h_mod a_mod_sort a_mod_number a_mod_value a_mod_made a_mod_to a_mod_from a_mod_outputOf a_mod_negated a_mod_settles a_mod_next a_mod_ones a_mod_distance a_mod_apart a_mod_leads : Nat) (mod_code mod_gates mod_feeds mod_inputs mod_latches mod_outputs mod_explored : Int32) (sz : Nat)  (v : Int32 × Int32 × Int32 × Int32 × Int32 × Int32 × Int32 × Int32) (hm : m_Mod_clear mod_code mod_gates mod_feeds mod_inputs mod_latches mod_outputs mod_explored = some v) : Met l yMod_clear wsMod_clear rm_Mod_clear (sx_Pc (dC, dI) [(cI, .int), (cL, .long), (cZ, .boolean)] t1 t2 [(h_mod, .inr (5, [.int mod_code, .int mod_gates, .int mod_feeds, .int mod_inputs, .int mod_latches, .int mod_outputs, .ref a_mod_sort, .ref a_mod_number, .ref a_mod_value, .ref a_mod_made, .ref a_mod_to, .ref a_mod_from, .ref a_mod_outputOf, .ref a_mod_negated, .int mod_explored, .ref a_mod_settles, .ref a_mod_next, .ref a_mod_ones, .ref a_mod_distance, .ref a_mod_apart, .ref a_mod_leads]))] sz [.ref h_mod]) (va_Qi (fun (r : Int32) (_ : Unit) => r = v.1) (fun _ t => sx_W (dC, dI) [(cI, .int), (cL, .long), (cZ, .boolean)] (va_A [(h_mod, .inr (5, [.int mod_code, .int mod_gates, .int mod_feeds, .int mod_inputs, .int mod_latches, .int mod_outputs, .ref a_mod_sort, .ref a_mod_number, .ref a_mod_value, .ref a_mod_made, .ref a_mod_to, .ref a_mod_from, .ref a_mod_outputOf, .ref a_mod_negated, .int mod_explored, .ref a_mod_settles, .ref a_mod_next, .ref a_mod_ones, .ref a_mod_distance, .ref a_mod_apart, .ref a_mod_leads]))] sz) [(h_mod, .inr (5, [.int v.2.1, .int v.2.2.1, .int v.2.2.2.1, .int v.2.2.2.2.1, .int v.2.2.2.2.2.1, .int v.2.2.2.2.2.2.1, .ref a_mod_sort, .ref a_mod_number, .ref a_mod_value, .ref a_mod_made, .ref a_mod_to, .ref a_mod_from, .ref a_mod_outputOf, .ref a_mod_negated, .int v.2.2.2.2.2.2.2, .ref a_mod_settles, .ref a_mod_next, .ref a_mod_ones, .ref a_mod_distance, .ref a_mod_apart, .ref a_mod_leads]))] t) (va_A [(h_mod, .inr (5, [.int mod_code, .int mod_gates, .int mod_feeds, .int mod_inputs, .int mod_latches, .int mod_outputs, .ref a_mod_sort, .ref a_mod_number, .ref a_mod_value, .ref a_mod_made, .ref a_mod_to, .ref a_mod_from, .ref a_mod_outputOf, .ref a_mod_negated, .int mod_explored, .ref a_mod_settles, .ref a_mod_next, .ref a_mod_ones, .ref a_mod_distance, .ref a_mod_apart, .ref a_mod_leads]))] sz)) 0 0 (va_A [(h_mod, .inr (5, [.int mod_code, .int mod_gates, .int mod_feeds, .int mod_inputs, .int mod_latches, .int mod_outputs, .ref a_mod_sort, .ref a_mod_number, .ref a_mod_value, .ref a_mod_made, .ref a_mod_to, .ref a_mod_from, .ref a_mod_outputOf, .ref a_mod_negated, .int mod_explored, .ref a_mod_settles, .ref a_mod_next, .ref a_mod_ones, .ref a_mod_distance, .ref a_mod_apart, .ref a_mod_leads]))] sz) := by
  refine Met.ofW (cc := cMod_clear) (maxL := 2) (ret := (some .int)) (by decide) rfl ?_
  intro p e s m args below meth c s₁ B hml hv
  obtain ⟨rfl, hsz, hP, hK, hD0, hX⟩ := hv
  have hx := B.exec
  have hb := B.bytes
  have hr := B.returns
  have hts0 := atoms_spec (ws := wsMod_clear) B.pre
  have hts : ∀ w ∈ tb, w.before _ s = true := fun w h => hts0 w (List.mem_cons_of_mem _ h)
  have hown : s.vm.findClass "StateExplorerModel" = some m.cls := findClass_of_methodNamed B.named
  have hlocks := B.notSynchronized
  subst hsz
  have hD := hD0.self (sz := s.heap.size)
  generalize hAe : va_A [(h_mod, .inr (5, [.int mod_code, .int mod_gates, .int mod_feeds, .int mod_inputs, .int mod_latches, .int mod_outputs, .ref a_mod_sort, .ref a_mod_number, .ref a_mod_value, .ref a_mod_made, .ref a_mod_to, .ref a_mod_from, .ref a_mod_outputOf, .ref a_mod_negated, .int mod_explored, .ref a_mod_settles, .ref a_mod_next, .ref a_mod_ones, .ref a_mod_distance, .ref a_mod_apart, .ref a_mod_leads]))] s.heap.size = A at hD hX ⊢
  have hA : ∀ q : Nat, s.heap.size ≤ q → A q := fun q h => by rw [← hAe]; exact Or.inr h
  have hS : va_S A s.heap s.heap [] := va_S.rf
  have hl := lv_entry ([.ref h_mod]) (n := 2) (Nat.le_of_ble_eq_true rfl)
  rw [lg_entry_eq]
  generalize (lg_sl ([.ref h_mod]) ++ List.replicate (2 - (lg_sl ([.ref h_mod])).length) Slot.unset).toArray = ls at hl ⊢
  have hl : lv_has ls 2 [(0, .ref h_mod)] := hl
  have C0 : sx_C p s m _ meth c cMod_clear 2 "StateExplorerModel" A (dC, dI) [(cI, .int), (cL, .long), (cZ, .boolean)] t1 t2 := ⟨hx, hb, hml, hown, hts, hA, hK, hlocks, hX⟩
  rw [m_Mod_clear] at hm
  refine lv_aload_n hx hb dMod_clear_0 rfl (lv_at hl 0 rfl) ?_
  refine lv_iconst (v := (0 : Int32)) hx hb dMod_clear_1 (by decide) ?_
  refine va_put (D := (dC, dI)) (ci := 5) (v := .int (0 : Int32)) (ty := .int) (C := RMod) (T := TMod) (N := 21) hx hb hts inMod tyMod tyMod_ok nmMod hown hK hP hD hS 0 rfl rfl 0 (by decide) (hts _ tw_611) (fun _ h9 => h9) rfl (by decide +kernel) rfl rfl (Nat.le_of_ble_eq_true rfl) dMod_clear_2 (fun H locs hP hD hS => ?_)
  have hP : va_P (dC, dI) vwCl [(h_mod, .inr (5, [.int (0 : Int32), .int mod_gates, .int mod_feeds, .int mod_inputs, .int mod_latches, .int mod_outputs, .ref a_mod_sort, .ref a_mod_number, .ref a_mod_value, .ref a_mod_made, .ref a_mod_to, .ref a_mod_from, .ref a_mod_outputOf, .ref a_mod_negated, .int mod_explored, .ref a_mod_settles, .ref a_mod_next, .ref a_mod_ones, .ref a_mod_distance, .ref a_mod_apart, .ref a_mod_leads]))] H := hP
  have hD : va_D A [(h_mod, .inr (5, [.int (0 : Int32), .int mod_gates, .int mod_feeds, .int mod_inputs, .int mod_latches, .int mod_outputs, .ref a_mod_sort, .ref a_mod_number, .ref a_mod_value, .ref a_mod_made, .ref a_mod_to, .ref a_mod_from, .ref a_mod_outputOf, .ref a_mod_negated, .int mod_explored, .ref a_mod_settles, .ref a_mod_next, .ref a_mod_ones, .ref a_mod_distance, .ref a_mod_apart, .ref a_mod_leads]))] := hD
  refine lv_aload_n hx hb dMod_clear_5 rfl (lv_at hl 0 rfl) ?_
  refine va_get (D := (dC, dI)) (ci := 5) (v := .int mod_gates) (C := RMod) (T := TMod) (N := 21) hx hb hts inMod hown hK hP 0 rfl rfl 1 (by decide) (hts _ tw_612) (fun _ h9 => h9) rfl dMod_clear_6 ?_
  refine lv_istore_n (lv' := [(1, .int mod_gates), (0, .ref h_mod)]) hx hb dMod_clear_9 rfl hl (by decide) rfl (fun ls hl => ?_)
  refine lv_aload_n hx hb dMod_clear_10 rfl (lv_at hl 1 rfl) ?_
  refine lv_aload_n hx hb dMod_clear_11 rfl (lv_at hl 1 rfl) ?_
  refine lv_aload_n hx hb dMod_clear_12 rfl (lv_at hl 1 rfl) ?_
  refine lv_aload_n hx hb dMod_clear_13 rfl (lv_at hl 1 rfl) ?_
  refine lv_aload_n hx hb dMod_clear_14 rfl (lv_at hl 1 rfl) ?_
  refine lv_iconst (v := (0 : Int32)) hx hb dMod_clear_15 (by decide) ?_
  refine lv_dup_x1 hx hb dMod_clear_16 rfl rfl ?_
  refine va_put (D := (dC, dI)) (ci := 5) (v := .int (0 : Int32)) (ty := .int) (C := RMod) (T := TMod) (N := 21) hx hb hts inMod tyMod tyMod_ok nmMod hown hK hP hD hS 0 rfl rfl 5 (by decide) (hts _ tw_616) (fun _ h9 => h9) rfl (by decide +kernel) rfl rfl (Nat.le_of_ble_eq_true rfl) dMod_clear_17 (fun H locs hP hD hS => ?_)
  have hP : va_P (dC, dI) vwCl [(h_mod, .inr (5, [.int (0 : Int32), .int mod_gates, .int mod_feeds, .int mod_inputs, .int mod_latches, .int (0 : Int32), .ref a_mod_sort, .ref a_mod_number, .ref a_mod_value, .ref a_mod_made, .ref a_mod_to, .ref a_mod_from, .ref a_mod_outputOf, .ref a_mod_negated, .int mod_explored, .ref a_mod_settles, .ref a_mod_next, .ref a_mod_ones, .ref a_mod_distance, .ref a_mod_apart, .ref a_mod_leads]))] H := hP
  have hD : va_D A [(h_mod, .inr (5, [.int (0 : Int32), .int mod_gates, .int mod_feeds, .int mod_inputs, .int mod_latches, .int (0 : Int32), .ref a_mod_sort, .ref a_mod_number, .ref a_mod_value, .ref a_mod_made, .ref a_mod_to, .ref a_mod_from, .ref a_mod_outputOf, .ref a_mod_negated, .int mod_explored, .ref a_mod_settles, .ref a_mod_next, .ref a_mod_ones, .ref a_mod_distance, .ref a_mod_apart, .ref a_mod_leads]))] := hD
  refine lv_dup_x1 hx hb dMod_clear_20 rfl rfl ?_
  refine va_put (D := (dC, dI)) (ci := 5) (v := .int (0 : Int32)) (ty := .int) (C := RMod) (T := TMod) (N := 21) hx hb hts inMod tyMod tyMod_ok nmMod hown hK hP hD hS 0 rfl rfl 4 (by decide) (hts _ tw_615) (fun _ h9 => h9) rfl (by decide +kernel) rfl rfl (Nat.le_of_ble_eq_true rfl) dMod_clear_21 (fun H locs hP hD hS => ?_)
  have hP : va_P (dC, dI) vwCl [(h_mod, .inr (5, [.int (0 : Int32), .int mod_gates, .int mod_feeds, .int mod_inputs, .int (0 : Int32), .int (0 : Int32), .ref a_mod_sort, .ref a_mod_number, .ref a_mod_value, .ref a_mod_made, .ref a_mod_to, .ref a_mod_from, .ref a_mod_outputOf, .ref a_mod_negated, .int mod_explored, .ref a_mod_settles, .ref a_mod_next, .ref a_mod_ones, .ref a_mod_distance, .ref a_mod_apart, .ref a_mod_leads]))] H := hP
  have hD : va_D A [(h_mod, .inr (5, [.int (0 : Int32), .int mod_gates, .int mod_feeds, .int mod_inputs, .int (0 : Int32), .int (0 : Int32), .ref a_mod_sort, .ref a_mod_number, .ref a_mod_value, .ref a_mod_made, .ref a_mod_to, .ref a_mod_from, .ref a_mod_outputOf, .ref a_mod_negated, .int mod_explored, .ref a_mod_settles, .ref a_mod_next, .ref a_mod_ones, .ref a_mod_distance, .ref a_mod_apart, .ref a_mod_leads]))] := hD
  refine lv_dup_x1 hx hb dMod_clear_24 rfl rfl ?_
  refine va_put (D := (dC, dI)) (ci := 5) (v := .int (0 : Int32)) (ty := .int) (C := RMod) (T := TMod) (N := 21) hx hb hts inMod tyMod tyMod_ok nmMod hown hK hP hD hS 0 rfl rfl 3 (by decide) (hts _ tw_614) (fun _ h9 => h9) rfl (by decide +kernel) rfl rfl (Nat.le_of_ble_eq_true rfl) dMod_clear_25 (fun H locs hP hD hS => ?_)
  have hP : va_P (dC, dI) vwCl [(h_mod, .inr (5, [.int (0 : Int32), .int mod_gates, .int mod_feeds, .int (0 : Int32), .int (0 : Int32), .int (0 : Int32), .ref a_mod_sort, .ref a_mod_number, .ref a_mod_value, .ref a_mod_made, .ref a_mod_to, .ref a_mod_from, .ref a_mod_outputOf, .ref a_mod_negated, .int mod_explored, .ref a_mod_settles, .ref a_mod_next, .ref a_mod_ones, .ref a_mod_distance, .ref a_mod_apart, .ref a_mod_leads]))] H := hP
  have hD : va_D A [(h_mod, .inr (5, [.int (0 : Int32), .int mod_gates, .int mod_feeds, .int (0 : Int32), .int (0 : Int32), .int (0 : Int32), .ref a_mod_sort, .ref a_mod_number, .ref a_mod_value, .ref a_mod_made, .ref a_mod_to, .ref a_mod_from, .ref a_mod_outputOf, .ref a_mod_negated, .int mod_explored, .ref a_mod_settles, .ref a_mod_next, .ref a_mod_ones, .ref a_mod_distance, .ref a_mod_apart, .ref a_mod_leads]))] := hD
  refine lv_dup_x1 hx hb dMod_clear_28 rfl rfl ?_
  refine va_put (D := (dC, dI)) (ci := 5) (v := .int (0 : Int32)) (ty := .int) (C := RMod) (T := TMod) (N := 21) hx hb hts inMod tyMod tyMod_ok nmMod hown hK hP hD hS 0 rfl rfl 2 (by decide) (hts _ tw_613) (fun _ h9 => h9) rfl (by decide +kernel) rfl rfl (Nat.le_of_ble_eq_true rfl) dMod_clear_29 (fun H locs hP hD hS => ?_)
  have hP : va_P (dC, dI) vwCl [(h_mod, .inr (5, [.int (0 : Int32), .int mod_gates, .int (0 : Int32), .int (0 : Int32), .int (0 : Int32), .int (0 : Int32), .ref a_mod_sort, .ref a_mod_number, .ref a_mod_value, .ref a_mod_made, .ref a_mod_to, .ref a_mod_from, .ref a_mod_outputOf, .ref a_mod_negated, .int mod_explored, .ref a_mod_settles, .ref a_mod_next, .ref a_mod_ones, .ref a_mod_distance, .ref a_mod_apart, .ref a_mod_leads]))] H := hP
  have hD : va_D A [(h_mod, .inr (5, [.int (0 : Int32), .int mod_gates, .int (0 : Int32), .int (0 : Int32), .int (0 : Int32), .int (0 : Int32), .ref a_mod_sort, .ref a_mod_number, .ref a_mod_value, .ref a_mod_made, .ref a_mod_to, .ref a_mod_from, .ref a_mod_outputOf, .ref a_mod_negated, .int mod_explored, .ref a_mod_settles, .ref a_mod_next, .ref a_mod_ones, .ref a_mod_distance, .ref a_mod_apart, .ref a_mod_leads]))] := hD
  refine va_put (D := (dC, dI)) (ci := 5) (v := .int (0 : Int32)) (ty := .int) (C := RMod) (T := TMod) (N := 21) hx hb hts inMod tyMod tyMod_ok nmMod hown hK hP hD hS 0 rfl rfl 1 (by decide) (hts _ tw_612) (fun _ h9 => h9) rfl (by decide +kernel) rfl rfl (Nat.le_of_ble_eq_true rfl) dMod_clear_32 (fun H locs hP hD hS => ?_)
  have hP : va_P (dC, dI) vwCl [(h_mod, .inr (5, [.int (0 : Int32), .int (0 : Int32), .int (0 : Int32), .int (0 : Int32), .int (0 : Int32), .int (0 : Int32), .ref a_mod_sort, .ref a_mod_number, .ref a_mod_value, .ref a_mod_made, .ref a_mod_to, .ref a_mod_from, .ref a_mod_outputOf, .ref a_mod_negated, .int mod_explored, .ref a_mod_settles, .ref a_mod_next, .ref a_mod_ones, .ref a_mod_distance, .ref a_mod_apart, .ref a_mod_leads]))] H := hP
  have hD : va_D A [(h_mod, .inr (5, [.int (0 : Int32), .int (0 : Int32), .int (0 : Int32), .int (0 : Int32), .int (0 : Int32), .int (0 : Int32), .ref a_mod_sort, .ref a_mod_number, .ref a_mod_value, .ref a_mod_made, .ref a_mod_to, .ref a_mod_from, .ref a_mod_outputOf, .ref a_mod_negated, .int mod_explored, .ref a_mod_settles, .ref a_mod_next, .ref a_mod_ones, .ref a_mod_distance, .ref a_mod_apart, .ref a_mod_leads]))] := hD
  refine lv_aload_n hx hb dMod_clear_35 rfl (lv_at hl 1 rfl) ?_
  refine lv_iconst (v := (0 : Int32)) hx hb dMod_clear_36 (by decide) ?_
  refine va_put (D := (dC, dI)) (ci := 5) (v := .int (0 : Int32)) (ty := .boolean) (C := RMod) (T := TMod) (N := 21) hx hb hts inMod tyMod tyMod_ok nmMod hown hK hP hD hS 0 rfl rfl 14 (by decide) (hts _ tw_625) (fun _ h9 => h9) rfl (by decide +kernel) (by decide) (by decide) (Nat.le_of_ble_eq_true rfl) dMod_clear_37 (fun H locs hP hD hS => ?_)
  have hP : va_P (dC, dI) vwCl [(h_mod, .inr (5, [.int (0 : Int32), .int (0 : Int32), .int (0 : Int32), .int (0 : Int32), .int (0 : Int32), .int (0 : Int32), .ref a_mod_sort, .ref a_mod_number, .ref a_mod_value, .ref a_mod_made, .ref a_mod_to, .ref a_mod_from, .ref a_mod_outputOf, .ref a_mod_negated, .int (0 : Int32), .ref a_mod_settles, .ref a_mod_next, .ref a_mod_ones, .ref a_mod_distance, .ref a_mod_apart, .ref a_mod_leads]))] H := hP
  have hD : va_D A [(h_mod, .inr (5, [.int (0 : Int32), .int (0 : Int32), .int (0 : Int32), .int (0 : Int32), .int (0 : Int32), .int (0 : Int32), .ref a_mod_sort, .ref a_mod_number, .ref a_mod_value, .ref a_mod_made, .ref a_mod_to, .ref a_mod_from, .ref a_mod_outputOf, .ref a_mod_negated, .int (0 : Int32), .ref a_mod_settles, .ref a_mod_next, .ref a_mod_ones, .ref a_mod_distance, .ref a_mod_apart, .ref a_mod_leads]))] := hD
  refine lv_iload_n hx hb dMod_clear_40 rfl (lv_at hl 0 rfl) ?_
  obtain rfl := Option.some.inj hm
  exact W.iret (v := mod_gates) hx hb hr (fun t ht hW => ⟨⟨mod_gates, (), rfl, rfl, sx_Wi hP hK hD ht hW.alike⟩, hS.F ht⟩) hS.2.2 dMod_clear_41
noncomputable def m_Mod_taken (mod_value mod_from mod_negated : Nat → Int32) (p0 : Int32) : Option (Int32) := gd (vp_in p0 240) (gd (vp_in (mod_from p0.toNatClampNeg) 60) ((if mod_value (mod_from p0.toNatClampNeg).toNatClampNeg = (2 : Int32) then some (mod_value (mod_from p0.toNatClampNeg).toNatClampNeg) else gd (vp_in p0 240) ((if mod_negated p0.toNatClampNeg = (0 : Int32) then some (mod_value (mod_from p0.toNatClampNeg).toNatClampNeg) else some ((1 : Int32) - (mod_value (mod_from p0.toNatClampNeg).toNatClampNeg)))))))
def rm_Mod_taken : Room := { frames := 0, cells := 0, slots := 0, locals := 0 }
set_option maxHeartbeats 4000000 in
set_option maxRecDepth 100000 in
theorem k_Mod_taken (l : Launch) (dC : Nat → ClassId) (dI : Nat → Nat → Nat) (cI cL cZ : ClassId) (t1 t2 : Nat) (h_mod a_mod_sort a_mod_number a_mod_value a_mod_made a_mod_to a_mod_from a_mod_outputOf a_mod_negated a_mod_settles a_mod_next a_mod_ones a_mod_distance a_mod_apart a_mod_leads : Nat) (mod_code mod_gates mod_feeds mod_inputs mod_latches mod_outputs : Int32) (mod_value mod_from mod_negated : Nat → Int32) (mod_explored : Int32) (sz : Nat) (p0 : Int32) (v : Int32) (hm : m_Mod_taken mod_value mod_from mod_negated p0 = some v) : Met l yMod_taken wsMod_taken rm_Mod_taken (sx_Pc (dC, dI) [(cI, .int), (cL, .long), (cZ, .boolean)] t1 t2 [(h_mod, .inr (5, [.int mod_code, .int mod_gates, .int mod_feeds, .int mod_inputs, .int mod_latches, .int mod_outputs, .ref a_mod_sort, .ref a_mod_number, .ref a_mod_value, .ref a_mod_made, .ref a_mod_to, .ref a_mod_from, .ref a_mod_outputOf, .ref a_mod_negated, .int mod_explored, .ref a_mod_settles, .ref a_mod_next, .ref a_mod_ones, .ref a_mod_distance, .ref a_mod_apart, .ref a_mod_leads])), (a_mod_value, .inl (cI, 60, .inl mod_value)), (a_mod_from, .inl (cI, 240, .inl mod_from)), (a_mod_negated, .inl (cZ, 240, .inl mod_negated))] sz [.ref h_mod, .int p0]) (sx_Si v) 0 0 (fun _ => False) := by
  refine Met.ofW (cc := cMod_taken) (maxL := 3) (ret := (some .int)) (by decide) rfl ?_
  intro p e s m args below meth c s₁ B hml hv
  obtain ⟨rfl, hsz, hP, hK, hD0, hX⟩ := hv
  have hx := B.exec
  have hb := B.bytes
  have hr := B.returns
  have hts0 := atoms_spec (ws := wsMod_taken) B.pre
  have hts : ∀ w ∈ tb, w.before _ s = true := fun w h => hts0 w (List.mem_cons_of_mem _ h)
  have hown : s.vm.findClass "StateExplorerModel" = some m.cls := findClass_of_methodNamed B.named
  have hlocks := B.notSynchronized
  subst hsz
  have hD := hD0.self (sz := s.heap.size)
  generalize hAe : va_A [(h_mod, .inr (5, [.int mod_code, .int mod_gates, .int mod_feeds, .int mod_inputs, .int mod_latches, .int mod_outputs, .ref a_mod_sort, .ref a_mod_number, .ref a_mod_value, .ref a_mod_made, .ref a_mod_to, .ref a_mod_from, .ref a_mod_outputOf, .ref a_mod_negated, .int mod_explored, .ref a_mod_settles, .ref a_mod_next, .ref a_mod_ones, .ref a_mod_distance, .ref a_mod_apart, .ref a_mod_leads])), (a_mod_value, .inl (cI, 60, .inl mod_value)), (a_mod_from, .inl (cI, 240, .inl mod_from)), (a_mod_negated, .inl (cZ, 240, .inl mod_negated))] s.heap.size = A at hD hX 
  have hA : ∀ q : Nat, s.heap.size ≤ q → A q := fun q h => by rw [← hAe]; exact Or.inr h
  have hS : va_S A s.heap s.heap [] := va_S.rf
  have hl := lv_entry ([.ref h_mod, .int p0]) (n := 3) (Nat.le_of_ble_eq_true rfl)
  rw [lg_entry_eq]
  generalize (lg_sl ([.ref h_mod, .int p0]) ++ List.replicate (3 - (lg_sl ([.ref h_mod, .int p0])).length) Slot.unset).toArray = ls at hl ⊢
  have hl : lv_has ls 3 [(0, .ref h_mod), (1, .int p0)] := hl
  have C0 : sx_C p s m _ meth c cMod_taken 3 "StateExplorerModel" A (dC, dI) [(cI, .int), (cL, .long), (cZ, .boolean)] t1 t2 := ⟨hx, hb, hml, hown, hts, hA, hK, hlocks, hX⟩
  rw [m_Mod_taken] at hm
  refine lv_aload_n hx hb dMod_taken_0 rfl (lv_at hl 0 rfl) ?_
  refine va_get (D := (dC, dI)) (ci := 5) (v := .ref a_mod_value) (C := RMod) (T := TMod) (N := 21) hx hb hts inMod hown hK hP 0 rfl rfl 8 (by decide) (hts _ tw_619) (fun _ h9 => h9) rfl dMod_taken_1 ?_
  refine lv_aload_n hx hb dMod_taken_4 rfl (lv_at hl 0 rfl) ?_
  refine va_get (D := (dC, dI)) (ci := 5) (v := .ref a_mod_from) (C := RMod) (T := TMod) (N := 21) hx hb hts inMod hown hK hP 0 rfl rfl 11 (by decide) (hts _ tw_622) (fun _ h9 => h9) rfl dMod_taken_5 ?_
  refine lv_iload_n hx hb dMod_taken_8 rfl (lv_at hl 1 rfl) ?_
  obtain ⟨g1, hm⟩ := gd_el hm
  refine va_iald hx hb hK hP 2 0 rfl rfl g1 dMod_taken_9 ?_
  obtain ⟨g2, hm⟩ := gd_el hm
  refine va_iald hx hb hK hP 1 0 rfl rfl g2 dMod_taken_10 ?_
  refine lv_istore_n (lv' := [(2, .int (mod_value (mod_from p0.toNatClampNeg).toNatClampNeg)), (0, .ref h_mod), (1, .int p0)]) hx hb dMod_taken_11 rfl hl (by decide) rfl (fun ls hl => ?_)
  refine lv_iload_n hx hb dMod_taken_12 rfl (lv_at hl 0 rfl) ?_
  refine lv_iconst (v := (2 : Int32)) hx hb dMod_taken_13 (by decide) ?_
  refine lv_icmp_eq (tgt := 26) hx hb dMod_taken_14 (by decide) (fun c3 => ?_) (fun c3 => ?_)
  · have hm := sx_pos c3 hm
    refine lv_iload_n hx hb dMod_taken_26 rfl (lv_at hl 0 rfl) ?_
    refine lv_goto (tgt := 33) hx hb dMod_taken_27 (by decide) ?_
    obtain rfl := Option.some.inj hm
    exact W.iret (v := mod_value (mod_from p0.toNatClampNeg).toNatClampNeg) hx hb hr (fun t ht hW => ⟨rfl, ht⟩) (fun q hq => nomatch hq) dMod_taken_33
  · have hm := sx_neg c3 hm
    refine lv_aload_n hx hb dMod_taken_17 rfl (lv_at hl 1 rfl) ?_
    refine va_get (D := (dC, dI)) (ci := 5) (v := .ref a_mod_negated) (C := RMod) (T := TMod) (N := 21) hx hb hts inMod hown hK hP 0 rfl rfl 13 (by decide) (hts _ tw_624) (fun _ h9 => h9) rfl dMod_taken_18 ?_
    refine lv_iload_n hx hb dMod_taken_21 rfl (lv_at hl 2 rfl) ?_
    obtain ⟨g4, hm⟩ := gd_el hm
    refine va_zald hx hb hK hP 3 2 rfl rfl g4 dMod_taken_22 ?_
    refine lv_if_ne (tgt := 30) hx hb dMod_taken_23 (by decide) (fun c5 => ?_) (fun c5 => ?_)
    · have hm := sx_neg c5 hm
      refine lv_iconst (v := (1 : Int32)) hx hb dMod_taken_30 (by decide) ?_
      refine lv_iload_n hx hb dMod_taken_31 rfl (lv_at hl 0 rfl) ?_
      refine lv_isub hx hb dMod_taken_32 ?_
      obtain rfl := Option.some.inj hm
      exact W.iret (v := (1 : Int32) - (mod_value (mod_from p0.toNatClampNeg).toNatClampNeg)) hx hb hr (fun t ht hW => ⟨rfl, ht⟩) (fun q hq => nomatch hq) dMod_taken_33
    · have hm := sx_pos c5 hm
      refine lv_iload_n hx hb dMod_taken_26 rfl (lv_at hl 0 rfl) ?_
      refine lv_goto (tgt := 33) hx hb dMod_taken_27 (by decide) ?_
      obtain rfl := Option.some.inj hm
      exact W.iret (v := mod_value (mod_from p0.toNatClampNeg).toNatClampNeg) hx hb hr (fun t ht hW => ⟨rfl, ht⟩) (fun q hq => nomatch hq) dMod_taken_33
noncomputable def L_Mod_again_4 (mod_gates : Int32) (mod_sort : Nat → Int32) : Nat → Int32 → (Nat → Int32) → Option ((Nat → Int32))
  | 0, _, _ => none
  | n + 1, x2, mod_made => (if mod_gates ≤ x2 then some mod_made else gd (vp_in x2 60) ((if mod_sort x2.toNatClampNeg = (2 : Int32) then gd (vp_in x2 60) ((L_Mod_again_4 mod_gates mod_sort n (x2 + (1 : Int32)) (upd mod_made x2.toNatClampNeg (1 : Int32)))) else gd (vp_in x2 60) ((L_Mod_again_4 mod_gates mod_sort n (x2 + (1 : Int32)) (upd mod_made x2.toNatClampNeg (0 : Int32)))))))
noncomputable def L_Mod_again_41 (mod_feeds : Int32) (mod_sort mod_value mod_to mod_from mod_negated : Nat → Int32) : Nat → Int32 → (Nat → Int32) → Option ((Nat → Int32))
  | 0, _, _ => none
  | n + 1, x2, mod_made => (if mod_feeds ≤ x2 then some mod_made else gd (vp_in x2 240) (gd (vp_in (mod_to x2.toNatClampNeg) 60) ((sx_let (fun (z0J10 : Int32) => (m_Mod_taken mod_value mod_from mod_negated x2).bind (fun v11 => (sx_let (fun (mod_madeJ13 : Nat → Int32) => (if v11 = (2 : Int32) then gd (vp_in (mod_to x2.toNatClampNeg) 60) ((if mod_madeJ13 (mod_to x2.toNatClampNeg).toNatClampNeg = z0J10 then (L_Mod_again_41 mod_feeds mod_sort mod_value mod_to mod_from mod_negated n (x2 + (1 : Int32)) mod_madeJ13) else gd (vp_in (mod_to x2.toNatClampNeg) 60) ((L_Mod_again_41 mod_feeds mod_sort mod_value mod_to mod_from mod_negated n (x2 + (1 : Int32)) (upd mod_madeJ13 (mod_to x2.toNatClampNeg).toNatClampNeg (2 : Int32)))))) else (L_Mod_again_41 mod_feeds mod_sort mod_value mod_to mod_from mod_negated n (x2 + (1 : Int32)) mod_madeJ13))) (fun J13 => (if v11 = z0J10 then gd (vp_in (mod_to x2.toNatClampNeg) 60) ((J13 (upd mod_made (mod_to x2.toNatClampNeg).toNatClampNeg z0J10))) else (J13 mod_made)))))) (fun J10 => (if mod_sort (mod_to x2.toNatClampNeg).toNatClampNeg = (2 : Int32) then (J10 (0 : Int32)) else (J10 (1 : Int32))))))))
noncomputable def L_Mod_again_127 (mod_gates : Int32) (mod_sort mod_made : Nat → Int32) : Nat → Int32 → Int32 → (Nat → Int32) → Option (Int32 × (Nat → Int32))
  | 0, _, _, _ => none
  | n + 1, x1, x2, mod_value => (if mod_gates ≤ x2 then some (x1, mod_value) else gd (vp_in x2 60) ((sx_let (fun (z0J24 : Int32) => (sx_let (fun (z0J25 : Int32) (z1J25 : Int32) => gd (vp_in z1J25 60) ((if x1 = (0 : Int32) then (if z0J24 = (0 : Int32) then (L_Mod_again_127 mod_gates mod_sort mod_made n (0 : Int32) (x2 + (1 : Int32)) (upd mod_value z1J25.toNatClampNeg z0J25)) else (L_Mod_again_127 mod_gates mod_sort mod_made n (1 : Int32) (x2 + (1 : Int32)) (upd mod_value z1J25.toNatClampNeg z0J25))) else (L_Mod_again_127 mod_gates mod_sort mod_made n (1 : Int32) (x2 + (1 : Int32)) (upd mod_value z1J25.toNatClampNeg z0J25))))) (fun J25 => (if z0J24 = (0 : Int32) then gd (vp_in x2 60) ((J25 (mod_value x2.toNatClampNeg) x2)) else gd (vp_in x2 60) ((J25 (mod_made x2.toNatClampNeg) x2)))))) (fun J24 => sx_let (fun (_ : Unit) => (J24 (0 : Int32))) (fun J32 => (if mod_sort x2.toNatClampNeg < (2 : Int32) then (J32 ()) else gd (vp_in x2 60) ((if mod_value x2.toNatClampNeg = (2 : Int32) then gd (vp_in x2 60) ((if mod_made x2.toNatClampNeg = (2 : Int32) then (J32 ()) else (J24 (1 : Int32)))) else (J32 ())))))))))
noncomputable def m_Mod_again (mod_gates mod_feeds : Int32) (mod_sort mod_value mod_made mod_to mod_from mod_negated : Nat → Int32)  : Option (Int32 × (Nat → Int32) × (Nat → Int32)) := ((L_Mod_again_4 mod_gates mod_sort fu (0 : Int32) mod_made).bind (fun v6 => ((L_Mod_again_41 mod_feeds mod_sort mod_value mod_to mod_from mod_negated fu (0 : Int32) v6).bind (fun v21 => ((L_Mod_again_127 mod_gates mod_sort v21 fu (0 : Int32) (0 : Int32) mod_value).bind (fun v38 => gd (sx_zok v38.1) (some (v38.1, v38.2, v21))))))))
def rm_Mod_again : Room := { frames := 1, cells := 0, slots := 0, locals := 22 }
set_option maxHeartbeats 4000000 in
set_option maxRecDepth 100000 in
theorem w_Mod_again_4 {p : Program} {l : Launch} {e : Env} {s : State} {m : MethodId} {args : Array Value} {below : List Frame} {meth : Method} {c : Code} {dC : Nat → ClassId} {dI : Nat → Nat → Nat} {cI cL cZ : ClassId} {A : Nat → Prop} {Q : State → Prop} {t1 t2 : Nat} (C0 : sx_C p s m args meth c cMod_again 6 "StateExplorerModel" A (dC, dI) [(cI, .int), (cL, .long), (cZ, .boolean)] t1 t2) (h_mod a_mod_sort a_mod_number a_mod_value a_mod_made a_mod_to a_mod_from a_mod_outputOf a_mod_negated a_mod_settles a_mod_next a_mod_ones a_mod_distance a_mod_apart a_mod_leads : Nat) (mod_code mod_gates mod_feeds mod_inputs mod_latches mod_outputs : Int32) (mod_sort mod_value mod_to mod_from mod_negated : Nat → Int32) (mod_explored : Int32) (x1 : Int32) :
    ∀ (n : Nat) (x2 : Int32) (mod_made : Nat → Int32) (r : (Nat → Int32)), L_Mod_again_4 mod_gates mod_sort n x2 mod_made = some r → ∀ (H : Heap) (locs : List Loc) (ls : Array Slot), va_P (dC, dI) vwCl [(h_mod, .inr (5, [.int mod_code, .int mod_gates, .int mod_feeds, .int mod_inputs, .int mod_latches, .int mod_outputs, .ref a_mod_sort, .ref a_mod_number, .ref a_mod_value, .ref a_mod_made, .ref a_mod_to, .ref a_mod_from, .ref a_mod_outputOf, .ref a_mod_negated, .int mod_explored, .ref a_mod_settles, .ref a_mod_next, .ref a_mod_ones, .ref a_mod_distance, .ref a_mod_apart, .ref a_mod_leads])), (a_mod_sort, .inl (cI, 60, .inl mod_sort)), (a_mod_value, .inl (cI, 60, .inl mod_value)), (a_mod_made, .inl (cI, 60, .inl mod_made)), (a_mod_to, .inl (cI, 240, .inl mod_to)), (a_mod_from, .inl (cI, 240, .inl mod_from)), (a_mod_negated, .inl (cZ, 240, .inl mod_negated))] H → va_D A [(h_mod, .inr (5, [.int mod_code, .int mod_gates, .int mod_feeds, .int mod_inputs, .int mod_latches, .int mod_outputs, .ref a_mod_sort, .ref a_mod_number, .ref a_mod_value, .ref a_mod_made, .ref a_mod_to, .ref a_mod_from, .ref a_mod_outputOf, .ref a_mod_negated, .int mod_explored, .ref a_mod_settles, .ref a_mod_next, .ref a_mod_ones, .ref a_mod_distance, .ref a_mod_apart, .ref a_mod_leads])), (a_mod_sort, .inl (cI, 60, .inl mod_sort)), (a_mod_value, .inl (cI, 60, .inl mod_value)), (a_mod_made, .inl (cI, 60, .inl mod_made)), (a_mod_to, .inl (cI, 240, .inl mod_to)), (a_mod_from, .inl (cI, 240, .inl mod_from)), (a_mod_negated, .inl (cZ, 240, .inl mod_negated))] → va_S A s.heap H locs → lv_has ls 6 [(0, .ref h_mod), (1, .int x1), (2, .int x2)] →
    (∀ (H : Heap) (locs : List Loc) (ls : Array Slot), va_P (dC, dI) vwCl [(h_mod, .inr (5, [.int mod_code, .int mod_gates, .int mod_feeds, .int mod_inputs, .int mod_latches, .int mod_outputs, .ref a_mod_sort, .ref a_mod_number, .ref a_mod_value, .ref a_mod_made, .ref a_mod_to, .ref a_mod_from, .ref a_mod_outputOf, .ref a_mod_negated, .int mod_explored, .ref a_mod_settles, .ref a_mod_next, .ref a_mod_ones, .ref a_mod_distance, .ref a_mod_apart, .ref a_mod_leads])), (a_mod_sort, .inl (cI, 60, .inl mod_sort)), (a_mod_value, .inl (cI, 60, .inl mod_value)), (a_mod_made, .inl (cI, 60, .inl r)), (a_mod_to, .inl (cI, 240, .inl mod_to)), (a_mod_from, .inl (cI, 240, .inl mod_from)), (a_mod_negated, .inl (cZ, 240, .inl mod_negated))] H → va_D A [(h_mod, .inr (5, [.int mod_code, .int mod_gates, .int mod_feeds, .int mod_inputs, .int mod_latches, .int mod_outputs, .ref a_mod_sort, .ref a_mod_number, .ref a_mod_value, .ref a_mod_made, .ref a_mod_to, .ref a_mod_from, .ref a_mod_outputOf, .ref a_mod_negated, .int mod_explored, .ref a_mod_settles, .ref a_mod_next, .ref a_mod_ones, .ref a_mod_distance, .ref a_mod_apart, .ref a_mod_leads])), (a_mod_sort, .inl (cI, 60, .inl mod_sort)), (a_mod_value, .inl (cI, 60, .inl mod_value)), (a_mod_made, .inl (cI, 60, .inl r)), (a_mod_to, .inl (cI, 240, .inl mod_to)), (a_mod_from, .inl (cI, 240, .inl mod_from)), (a_mod_negated, .inl (cZ, 240, .inl mod_negated))] → va_S A s.heap H locs → lv_has ls 6 [(0, .ref h_mod), (1, .int x1)] → W p l e (headSpec wsMod_again rm_Mod_again).room s m args below meth c H locs 0 0 Q (F0 m 39 ls [])) →
    W p l e (headSpec wsMod_again rm_Mod_again).room s m args below meth c H locs 0 0 Q (F0 m 4 ls []) := by
  obtain ⟨hx, hb, hml, hown, hts, hA, hK, hlocks, hX⟩ := id C0
  intro n
  induction n with
  | zero => intro x2 mod_made r hm; rw [L_Mod_again_4] at hm; cases hm
  | succ n ih =>
    intro x2 mod_made r hm H locs ls hP hD hS hl k1
    rw [L_Mod_again_4] at hm
    refine lv_iload_n hx hb dMod_again_4 rfl (lv_at hl 2 rfl) ?_
    refine lv_aload_n hx hb dMod_again_5 rfl (lv_at hl 0 rfl) ?_
    refine va_get (D := (dC, dI)) (ci := 5) (v := .int mod_gates) (C := RMod) (T := TMod) (N := 21) hx hb hts inMod hown hK hP 0 rfl rfl 1 (by decide) (hts _ tw_612) (fun _ h9 => h9) rfl dMod_again_6 ?_
    refine lv_icmp_ge (tgt := 39) hx hb dMod_again_9 (by decide) (fun c1 => ?_) (fun c1 => ?_)
    · have hm := sx_pos c1 hm
      obtain rfl := Option.some.inj hm
      exact k1 _ _ _ hP hD hS (lv_sub hl [0, 1] rfl)
    · have hm := sx_neg c1 hm
      refine lv_aload_n hx hb dMod_again_12 rfl (lv_at hl 0 rfl) ?_
      refine va_get (D := (dC, dI)) (ci := 5) (v := .ref a_mod_made) (C := RMod) (T := TMod) (N := 21) hx hb hts inMod hown hK hP 0 rfl rfl 9 (by decide) (hts _ tw_620) (fun _ h9 => h9) rfl dMod_again_13 ?_
      refine lv_iload_n hx hb dMod_again_16 rfl (lv_at hl 2 rfl) ?_
      refine lv_aload_n hx hb dMod_again_17 rfl (lv_at hl 0 rfl) ?_
      refine va_get (D := (dC, dI)) (ci := 5) (v := .ref a_mod_sort) (C := RMod) (T := TMod) (N := 21) hx hb hts inMod hown hK hP 0 rfl rfl 6 (by decide) (hts _ tw_617) (fun _ h9 => h9) rfl dMod_again_18 ?_
      refine lv_iload_n hx hb dMod_again_21 rfl (lv_at hl 2 rfl) ?_
      obtain ⟨g2, hm⟩ := gd_el hm
      refine va_iald hx hb hK hP 1 0 rfl rfl g2 dMod_again_22 ?_
      refine lv_iconst (v := (2 : Int32)) hx hb dMod_again_23 (by decide) ?_
      refine lv_icmp_ne (tgt := 31) hx hb dMod_again_24 (by decide) (fun c3 => ?_) (fun c3 => ?_)
      · have hm := sx_neg c3 hm
        refine lv_iconst (v := (0 : Int32)) hx hb dMod_again_31 (by decide) ?_
        obtain ⟨g4, hm⟩ := gd_el hm
        refine va_iast hx hb hK hP hD hS 3 0 rfl rfl g4 dMod_again_32 (fun H locs hP hD hS => ?_)
        have hP : va_P (dC, dI) vwCl [(h_mod, .inr (5, [.int mod_code, .int mod_gates, .int mod_feeds, .int mod_inputs, .int mod_latches, .int mod_outputs, .ref a_mod_sort, .ref a_mod_number, .ref a_mod_value, .ref a_mod_made, .ref a_mod_to, .ref a_mod_from, .ref a_mod_outputOf, .ref a_mod_negated, .int mod_explored, .ref a_mod_settles, .ref a_mod_next, .ref a_mod_ones, .ref a_mod_distance, .ref a_mod_apart, .ref a_mod_leads])), (a_mod_sort, .inl (cI, 60, .inl mod_sort)), (a_mod_value, .inl (cI, 60, .inl mod_value)), (a_mod_made, .inl (cI, 60, .inl (upd mod_made x2.toNatClampNeg (0 : Int32)))), (a_mod_to, .inl (cI, 240, .inl mod_to)), (a_mod_from, .inl (cI, 240, .inl mod_from)), (a_mod_negated, .inl (cZ, 240, .inl mod_negated))] H := hP
        have hD : va_D A [(h_mod, .inr (5, [.int mod_code, .int mod_gates, .int mod_feeds, .int mod_inputs, .int mod_latches, .int mod_outputs, .ref a_mod_sort, .ref a_mod_number, .ref a_mod_value, .ref a_mod_made, .ref a_mod_to, .ref a_mod_from, .ref a_mod_outputOf, .ref a_mod_negated, .int mod_explored, .ref a_mod_settles, .ref a_mod_next, .ref a_mod_ones, .ref a_mod_distance, .ref a_mod_apart, .ref a_mod_leads])), (a_mod_sort, .inl (cI, 60, .inl mod_sort)), (a_mod_value, .inl (cI, 60, .inl mod_value)), (a_mod_made, .inl (cI, 60, .inl (upd mod_made x2.toNatClampNeg (0 : Int32)))), (a_mod_to, .inl (cI, 240, .inl mod_to)), (a_mod_from, .inl (cI, 240, .inl mod_from)), (a_mod_negated, .inl (cZ, 240, .inl mod_negated))] := hD
        refine lv_iinc (v := x2 + (1 : Int32)) (lv' := [(2, .int (x2 + (1 : Int32))), (0, .ref h_mod), (1, .int x1)]) hx hb dMod_again_33 hl (k := 2) rfl rfl (by decide) rfl (fun ls hl => ?_)
        refine lv_goto (tgt := 4) hx hb dMod_again_36 (by decide) ?_
        exact ih (x2 + (1 : Int32)) (upd mod_made x2.toNatClampNeg (0 : Int32)) r hm _ _ _ hP hD hS (lv_sub hl [1, 2, 0] rfl) k1
      · have hm := sx_pos c3 hm
        refine lv_iconst (v := (1 : Int32)) hx hb dMod_again_27 (by decide) ?_
        refine lv_goto (tgt := 32) hx hb dMod_again_28 (by decide) ?_
        obtain ⟨g5, hm⟩ := gd_el hm
        refine va_iast hx hb hK hP hD hS 3 0 rfl rfl g5 dMod_again_32 (fun H locs hP hD hS => ?_)
        have hP : va_P (dC, dI) vwCl [(h_mod, .inr (5, [.int mod_code, .int mod_gates, .int mod_feeds, .int mod_inputs, .int mod_latches, .int mod_outputs, .ref a_mod_sort, .ref a_mod_number, .ref a_mod_value, .ref a_mod_made, .ref a_mod_to, .ref a_mod_from, .ref a_mod_outputOf, .ref a_mod_negated, .int mod_explored, .ref a_mod_settles, .ref a_mod_next, .ref a_mod_ones, .ref a_mod_distance, .ref a_mod_apart, .ref a_mod_leads])), (a_mod_sort, .inl (cI, 60, .inl mod_sort)), (a_mod_value, .inl (cI, 60, .inl mod_value)), (a_mod_made, .inl (cI, 60, .inl (upd mod_made x2.toNatClampNeg (1 : Int32)))), (a_mod_to, .inl (cI, 240, .inl mod_to)), (a_mod_from, .inl (cI, 240, .inl mod_from)), (a_mod_negated, .inl (cZ, 240, .inl mod_negated))] H := hP
        have hD : va_D A [(h_mod, .inr (5, [.int mod_code, .int mod_gates, .int mod_feeds, .int mod_inputs, .int mod_latches, .int mod_outputs, .ref a_mod_sort, .ref a_mod_number, .ref a_mod_value, .ref a_mod_made, .ref a_mod_to, .ref a_mod_from, .ref a_mod_outputOf, .ref a_mod_negated, .int mod_explored, .ref a_mod_settles, .ref a_mod_next, .ref a_mod_ones, .ref a_mod_distance, .ref a_mod_apart, .ref a_mod_leads])), (a_mod_sort, .inl (cI, 60, .inl mod_sort)), (a_mod_value, .inl (cI, 60, .inl mod_value)), (a_mod_made, .inl (cI, 60, .inl (upd mod_made x2.toNatClampNeg (1 : Int32)))), (a_mod_to, .inl (cI, 240, .inl mod_to)), (a_mod_from, .inl (cI, 240, .inl mod_from)), (a_mod_negated, .inl (cZ, 240, .inl mod_negated))] := hD
        refine lv_iinc (v := x2 + (1 : Int32)) (lv' := [(2, .int (x2 + (1 : Int32))), (0, .ref h_mod), (1, .int x1)]) hx hb dMod_again_33 hl (k := 2) rfl rfl (by decide) rfl (fun ls hl => ?_)
        refine lv_goto (tgt := 4) hx hb dMod_again_36 (by decide) ?_
        exact ih (x2 + (1 : Int32)) (upd mod_made x2.toNatClampNeg (1 : Int32)) r hm _ _ _ hP hD hS (lv_sub hl [1, 2, 0] rfl) k1
set_option maxHeartbeats 4000000 in
set_option maxRecDepth 100000 in
theorem w_Mod_again_41 {p : Program} {l : Launch} {e : Env} {s : State} {m : MethodId} {args : Array Value} {below : List Frame} {meth : Method} {c : Code} {dC : Nat → ClassId} {dI : Nat → Nat → Nat} {cI cL cZ : ClassId} {A : Nat → Prop} {Q : State → Prop} {t1 t2 : Nat} (C0 : sx_C p s m args meth c cMod_again 6 "StateExplorerModel" A (dC, dI) [(cI, .int), (cL, .long), (cZ, .boolean)] t1 t2) (h_mod a_mod_sort a_mod_number a_mod_value a_mod_made a_mod_to a_mod_from a_mod_outputOf a_mod_negated a_mod_settles a_mod_next a_mod_ones a_mod_distance a_mod_apart a_mod_leads : Nat) (mod_code mod_gates mod_feeds mod_inputs mod_latches mod_outputs : Int32) (mod_sort mod_value mod_to mod_from mod_negated : Nat → Int32) (mod_explored : Int32) (x1 : Int32) :
    ∀ (n : Nat) (x2 : Int32) (mod_made : Nat → Int32) (r : (Nat → Int32)), L_Mod_again_41 mod_feeds mod_sort mod_value mod_to mod_from mod_negated n x2 mod_made = some r → ∀ (H : Heap) (locs : List Loc) (ls : Array Slot), va_P (dC, dI) vwCl [(h_mod, .inr (5, [.int mod_code, .int mod_gates, .int mod_feeds, .int mod_inputs, .int mod_latches, .int mod_outputs, .ref a_mod_sort, .ref a_mod_number, .ref a_mod_value, .ref a_mod_made, .ref a_mod_to, .ref a_mod_from, .ref a_mod_outputOf, .ref a_mod_negated, .int mod_explored, .ref a_mod_settles, .ref a_mod_next, .ref a_mod_ones, .ref a_mod_distance, .ref a_mod_apart, .ref a_mod_leads])), (a_mod_sort, .inl (cI, 60, .inl mod_sort)), (a_mod_value, .inl (cI, 60, .inl mod_value)), (a_mod_made, .inl (cI, 60, .inl mod_made)), (a_mod_to, .inl (cI, 240, .inl mod_to)), (a_mod_from, .inl (cI, 240, .inl mod_from)), (a_mod_negated, .inl (cZ, 240, .inl mod_negated))] H → va_D A [(h_mod, .inr (5, [.int mod_code, .int mod_gates, .int mod_feeds, .int mod_inputs, .int mod_latches, .int mod_outputs, .ref a_mod_sort, .ref a_mod_number, .ref a_mod_value, .ref a_mod_made, .ref a_mod_to, .ref a_mod_from, .ref a_mod_outputOf, .ref a_mod_negated, .int mod_explored, .ref a_mod_settles, .ref a_mod_next, .ref a_mod_ones, .ref a_mod_distance, .ref a_mod_apart, .ref a_mod_leads])), (a_mod_sort, .inl (cI, 60, .inl mod_sort)), (a_mod_value, .inl (cI, 60, .inl mod_value)), (a_mod_made, .inl (cI, 60, .inl mod_made)), (a_mod_to, .inl (cI, 240, .inl mod_to)), (a_mod_from, .inl (cI, 240, .inl mod_from)), (a_mod_negated, .inl (cZ, 240, .inl mod_negated))] → va_S A s.heap H locs → lv_has ls 6 [(0, .ref h_mod), (1, .int x1), (2, .int x2)] →
    (∀ (H : Heap) (locs : List Loc) (ls : Array Slot), va_P (dC, dI) vwCl [(h_mod, .inr (5, [.int mod_code, .int mod_gates, .int mod_feeds, .int mod_inputs, .int mod_latches, .int mod_outputs, .ref a_mod_sort, .ref a_mod_number, .ref a_mod_value, .ref a_mod_made, .ref a_mod_to, .ref a_mod_from, .ref a_mod_outputOf, .ref a_mod_negated, .int mod_explored, .ref a_mod_settles, .ref a_mod_next, .ref a_mod_ones, .ref a_mod_distance, .ref a_mod_apart, .ref a_mod_leads])), (a_mod_sort, .inl (cI, 60, .inl mod_sort)), (a_mod_value, .inl (cI, 60, .inl mod_value)), (a_mod_made, .inl (cI, 60, .inl r)), (a_mod_to, .inl (cI, 240, .inl mod_to)), (a_mod_from, .inl (cI, 240, .inl mod_from)), (a_mod_negated, .inl (cZ, 240, .inl mod_negated))] H → va_D A [(h_mod, .inr (5, [.int mod_code, .int mod_gates, .int mod_feeds, .int mod_inputs, .int mod_latches, .int mod_outputs, .ref a_mod_sort, .ref a_mod_number, .ref a_mod_value, .ref a_mod_made, .ref a_mod_to, .ref a_mod_from, .ref a_mod_outputOf, .ref a_mod_negated, .int mod_explored, .ref a_mod_settles, .ref a_mod_next, .ref a_mod_ones, .ref a_mod_distance, .ref a_mod_apart, .ref a_mod_leads])), (a_mod_sort, .inl (cI, 60, .inl mod_sort)), (a_mod_value, .inl (cI, 60, .inl mod_value)), (a_mod_made, .inl (cI, 60, .inl r)), (a_mod_to, .inl (cI, 240, .inl mod_to)), (a_mod_from, .inl (cI, 240, .inl mod_from)), (a_mod_negated, .inl (cZ, 240, .inl mod_negated))] → va_S A s.heap H locs → lv_has ls 6 [(0, .ref h_mod), (1, .int x1)] → W p l e (headSpec wsMod_again rm_Mod_again).room s m args below meth c H locs 0 0 Q (F0 m 125 ls [])) →
    W p l e (headSpec wsMod_again rm_Mod_again).room s m args below meth c H locs 0 0 Q (F0 m 41 ls []) := by
  obtain ⟨hx, hb, hml, hown, hts, hA, hK, hlocks, hX⟩ := id C0
  intro n
  induction n with
  | zero => intro x2 mod_made r hm; rw [L_Mod_again_41] at hm; cases hm
  | succ n ih =>
    intro x2 mod_made r hm H locs ls hP hD hS hl k1
    rw [L_Mod_again_41] at hm
    refine lv_iload_n hx hb dMod_again_41 rfl (lv_at hl 2 rfl) ?_
    refine lv_aload_n hx hb dMod_again_42 rfl (lv_at hl 0 rfl) ?_
    refine va_get (D := (dC, dI)) (ci := 5) (v := .int mod_feeds) (C := RMod) (T := TMod) (N := 21) hx hb hts inMod hown hK hP 0 rfl rfl 2 (by decide) (hts _ tw_613) (fun _ h9 => h9) rfl dMod_again_43 ?_
    refine lv_icmp_ge (tgt := 125) hx hb dMod_again_46 (by decide) (fun c7 => ?_) (fun c7 => ?_)
    · have hm := sx_pos c7 hm
      obtain rfl := Option.some.inj hm
      exact k1 _ _ _ hP hD hS (lv_sub hl [0, 1] rfl)
    · have hm := sx_neg c7 hm
      refine lv_aload_n hx hb dMod_again_49 rfl (lv_at hl 0 rfl) ?_
      refine va_get (D := (dC, dI)) (ci := 5) (v := .ref a_mod_to) (C := RMod) (T := TMod) (N := 21) hx hb hts inMod hown hK hP 0 rfl rfl 10 (by decide) (hts _ tw_621) (fun _ h9 => h9) rfl dMod_again_50 ?_
      refine lv_iload_n hx hb dMod_again_53 rfl (lv_at hl 2 rfl) ?_
      obtain ⟨g8, hm⟩ := gd_el hm
      refine va_iald hx hb hK hP 4 0 rfl rfl g8 dMod_again_54 ?_
      refine lv_istore_n (lv' := [(3, .int (mod_to x2.toNatClampNeg)), (0, .ref h_mod), (1, .int x1), (2, .int x2)]) hx hb dMod_again_55 rfl hl (by decide) rfl (fun ls hl => ?_)
      refine lv_aload_n hx hb dMod_again_56 rfl (lv_at hl 1 rfl) ?_
      refine va_get (D := (dC, dI)) (ci := 5) (v := .ref a_mod_sort) (C := RMod) (T := TMod) (N := 21) hx hb hts inMod hown hK hP 0 rfl rfl 6 (by decide) (hts _ tw_617) (fun _ h9 => h9) rfl dMod_again_57 ?_
      refine lv_iload_n hx hb dMod_again_60 rfl (lv_at hl 0 rfl) ?_
      obtain ⟨g9, hm⟩ := gd_el hm
      refine va_iald hx hb hK hP 1 0 rfl rfl g9 dMod_again_61 ?_
      refine lv_iconst (v := (2 : Int32)) hx hb dMod_again_62 (by decide) ?_
      obtain ⟨J10, hJ10, hm⟩ := sx_lj hm
      have jJ10 : ∀ (z0J10 : Int32), J10 z0J10 = some r → ∀ (ls : Array Slot), lv_has ls 6 [(0, .ref h_mod), (1, .int x1), (2, .int x2), (3, .int (mod_to x2.toNatClampNeg))] → W p l e (headSpec wsMod_again rm_Mod_again).room s m args below meth c H locs 0 0 Q (F0 m 71 ls [.int z0J10]) := by
        intro z0J10 hm ls hl
        rw [hJ10] at hm
        dsimp only at hm
        refine lv_istore (lv' := [(4, .int z0J10), (0, .ref h_mod), (1, .int x1), (2, .int x2), (3, .int (mod_to x2.toNatClampNeg))]) hx hb dMod_again_71 hl (by decide) rfl (fun ls hl => ?_)
        refine lv_aload_n hx hb dMod_again_73 rfl (lv_at hl 1 rfl) ?_
        refine lv_iload_n hx hb dMod_again_74 rfl (lv_at hl 3 rfl) ?_
        obtain ⟨v11, hv11, hm⟩ := sx_bind hm
        have hPc := hP.sub (ws' := [(h_mod, .inr (5, [.int mod_code, .int mod_gates, .int mod_feeds, .int mod_inputs, .int mod_latches, .int mod_outputs, .ref a_mod_sort, .ref a_mod_number, .ref a_mod_value, .ref a_mod_made, .ref a_mod_to, .ref a_mod_from, .ref a_mod_outputOf, .ref a_mod_negated, .int mod_explored, .ref a_mod_settles, .ref a_mod_next, .ref a_mod_ones, .ref a_mod_distance, .ref a_mod_apart, .ref a_mod_leads])), (a_mod_value, .inl (cI, 60, .inl mod_value)), (a_mod_from, .inl (cI, 240, .inl mod_from)), (a_mod_negated, .inl (cZ, 240, .inl mod_negated))]) [0, 2, 5, 6] rfl
        have hDc := hD.sub (ws' := [(h_mod, .inr (5, [.int mod_code, .int mod_gates, .int mod_feeds, .int mod_inputs, .int mod_latches, .int mod_outputs, .ref a_mod_sort, .ref a_mod_number, .ref a_mod_value, .ref a_mod_made, .ref a_mod_to, .ref a_mod_from, .ref a_mod_outputOf, .ref a_mod_negated, .int mod_explored, .ref a_mod_settles, .ref a_mod_next, .ref a_mod_ones, .ref a_mod_distance, .ref a_mod_apart, .ref a_mod_leads])), (a_mod_value, .inl (cI, 60, .inl mod_value)), (a_mod_from, .inl (cI, 240, .inl mod_from)), (a_mod_negated, .inl (cZ, 240, .inl mod_negated))]) [0, 2, 5, 6] (by decide) rfl
        have hFc := va_free (wc := [(h_mod, .inr (5, [.int mod_code, .int mod_gates, .int mod_feeds, .int mod_inputs, .int mod_latches, .int mod_outputs, .ref a_mod_sort, .ref a_mod_number, .ref a_mod_value, .ref a_mod_made, .ref a_mod_to, .ref a_mod_from, .ref a_mod_outputOf, .ref a_mod_negated, .int mod_explored, .ref a_mod_settles, .ref a_mod_next, .ref a_mod_ones, .ref a_mod_distance, .ref a_mod_apart, .ref a_mod_leads])), (a_mod_value, .inl (cI, 60, .inl mod_value)), (a_mod_from, .inl (cI, 240, .inl mod_from)), (a_mod_negated, .inl (cZ, 240, .inl mod_negated))]) hD hS hA [0, 2, 5, 6] rfl
        refine sx_stI (va_runV (As := [.int x2]) (rest := []) ⟨hx, hb, hml, hown, hts⟩ (k_Mod_taken l dC dI cI cL cZ t1 t2 h_mod a_mod_sort a_mod_number a_mod_value a_mod_made a_mod_to a_mod_from a_mod_outputOf a_mod_negated a_mod_settles a_mod_next a_mod_ones a_mod_distance a_mod_apart a_mod_leads mod_code mod_gates mod_feeds mod_inputs mod_latches mod_outputs mod_value mod_from mod_negated mod_explored _ x2 v11 hv11) (cwV 1 hts (sx_gV tw_724 tw_726 tw_26 tw_41 tcMod_taken) rfl rfl rfl (by decide +kernel) ⟨Nat.le_of_ble_eq_true rfl, Nat.le_of_ble_eq_true rfl⟩) (sx_pV hK hX hS hPc hDc hFc (va_recv hK hPc (ci := 5) (q0 := 0) rfl rfl)) rfl rfl hl.1 rfl (lv_room (Nat.le_of_ble_eq_true rfl)) dMod_again_75 ⟨Nat.le_of_ble_eq_true rfl, Nat.le_of_ble_eq_true rfl⟩) ?_
        refine lv_istore (lv' := [(5, .int v11), (4, .int z0J10), (0, .ref h_mod), (1, .int x1), (2, .int x2), (3, .int (mod_to x2.toNatClampNeg))]) hx hb dMod_again_78 hl (by decide) rfl (fun ls hl => ?_)
        refine lv_iload hx hb dMod_again_80 (lv_at hl 0 rfl) ?_
        refine lv_iload hx hb dMod_again_82 (lv_at hl 1 rfl) ?_
        obtain ⟨J13, hJ13, hm⟩ := sx_lj hm
        have jJ13 : ∀ (mod_madeJ13 : Nat → Int32), J13 mod_madeJ13 = some r → ∀ (H : Heap) (locs : List Loc) (ls : Array Slot), va_P (dC, dI) vwCl [(h_mod, .inr (5, [.int mod_code, .int mod_gates, .int mod_feeds, .int mod_inputs, .int mod_latches, .int mod_outputs, .ref a_mod_sort, .ref a_mod_number, .ref a_mod_value, .ref a_mod_made, .ref a_mod_to, .ref a_mod_from, .ref a_mod_outputOf, .ref a_mod_negated, .int mod_explored, .ref a_mod_settles, .ref a_mod_next, .ref a_mod_ones, .ref a_mod_distance, .ref a_mod_apart, .ref a_mod_leads])), (a_mod_sort, .inl (cI, 60, .inl mod_sort)), (a_mod_value, .inl (cI, 60, .inl mod_value)), (a_mod_made, .inl (cI, 60, .inl mod_madeJ13)), (a_mod_to, .inl (cI, 240, .inl mod_to)), (a_mod_from, .inl (cI, 240, .inl mod_from)), (a_mod_negated, .inl (cZ, 240, .inl mod_negated))] H → va_D A [(h_mod, .inr (5, [.int mod_code, .int mod_gates, .int mod_feeds, .int mod_inputs, .int mod_latches, .int mod_outputs, .ref a_mod_sort, .ref a_mod_number, .ref a_mod_value, .ref a_mod_made, .ref a_mod_to, .ref a_mod_from, .ref a_mod_outputOf, .ref a_mod_negated, .int mod_explored, .ref a_mod_settles, .ref a_mod_next, .ref a_mod_ones, .ref a_mod_distance, .ref a_mod_apart, .ref a_mod_leads])), (a_mod_sort, .inl (cI, 60, .inl mod_sort)), (a_mod_value, .inl (cI, 60, .inl mod_value)), (a_mod_made, .inl (cI, 60, .inl mod_madeJ13)), (a_mod_to, .inl (cI, 240, .inl mod_to)), (a_mod_from, .inl (cI, 240, .inl mod_from)), (a_mod_negated, .inl (cZ, 240, .inl mod_negated))] → va_S A s.heap H locs → lv_has ls 6 [(0, .ref h_mod), (1, .int x1), (2, .int x2), (3, .int (mod_to x2.toNatClampNeg)), (4, .int z0J10), (5, .int v11)] → W p l e (headSpec wsMod_again rm_Mod_again).room s m args below meth c H locs 0 0 Q (F0 m 95 ls []) := by
          intro mod_madeJ13 hm H locs ls hP hD hS hl
          rw [hJ13] at hm
          dsimp only at hm
          refine lv_iload hx hb dMod_again_95 (lv_at hl 5 rfl) ?_
          refine lv_iconst (v := (2 : Int32)) hx hb dMod_again_97 (by decide) ?_
          refine lv_icmp_ne (tgt := 119) hx hb dMod_again_98 (by decide) (fun c14 => ?_) (fun c14 => ?_)
          · have hm := sx_neg c14 hm
            refine lv_iinc (v := x2 + (1 : Int32)) (lv' := [(2, .int (x2 + (1 : Int32))), (0, .ref h_mod), (1, .int x1), (3, .int (mod_to x2.toNatClampNeg)), (4, .int z0J10), (5, .int v11)]) hx hb dMod_again_119 hl (k := 2) rfl rfl (by decide) rfl (fun ls hl => ?_)
            refine lv_goto (tgt := 41) hx hb dMod_again_122 (by decide) ?_
            exact ih (x2 + (1 : Int32)) mod_madeJ13 r hm _ _ _ hP hD hS (lv_sub hl [1, 2, 0] rfl) k1
          · have hm := sx_pos c14 hm
            refine lv_aload_n hx hb dMod_again_101 rfl (lv_at hl 0 rfl) ?_
            refine va_get (D := (dC, dI)) (ci := 5) (v := .ref a_mod_made) (C := RMod) (T := TMod) (N := 21) hx hb hts inMod hown hK hP 0 rfl rfl 9 (by decide) (hts _ tw_620) (fun _ h9 => h9) rfl dMod_again_102 ?_
            refine lv_iload_n hx hb dMod_again_105 rfl (lv_at hl 3 rfl) ?_
            obtain ⟨g15, hm⟩ := gd_el hm
            refine va_iald hx hb hK hP 3 0 rfl rfl g15 dMod_again_106 ?_
            refine lv_iload hx hb dMod_again_107 (lv_at hl 4 rfl) ?_
            refine lv_icmp_eq (tgt := 119) hx hb dMod_again_109 (by decide) (fun c16 => ?_) (fun c16 => ?_)
            · have hm := sx_pos c16 hm
              refine lv_iinc (v := x2 + (1 : Int32)) (lv' := [(2, .int (x2 + (1 : Int32))), (0, .ref h_mod), (1, .int x1), (3, .int (mod_to x2.toNatClampNeg)), (4, .int z0J10), (5, .int v11)]) hx hb dMod_again_119 hl (k := 2) rfl rfl (by decide) rfl (fun ls hl => ?_)
              refine lv_goto (tgt := 41) hx hb dMod_again_122 (by decide) ?_
              exact ih (x2 + (1 : Int32)) mod_madeJ13 r hm _ _ _ hP hD hS (lv_sub hl [1, 2, 0] rfl) k1
            · have hm := sx_neg c16 hm
              refine lv_aload_n hx hb dMod_again_112 rfl (lv_at hl 0 rfl) ?_
              refine va_get (D := (dC, dI)) (ci := 5) (v := .ref a_mod_made) (C := RMod) (T := TMod) (N := 21) hx hb hts inMod hown hK hP 0 rfl rfl 9 (by decide) (hts _ tw_620) (fun _ h9 => h9) rfl dMod_again_113 ?_
              refine lv_iload_n hx hb dMod_again_116 rfl (lv_at hl 3 rfl) ?_
              refine lv_iconst (v := (2 : Int32)) hx hb dMod_again_117 (by decide) ?_
              obtain ⟨g17, hm⟩ := gd_el hm
              refine va_iast hx hb hK hP hD hS 3 0 rfl rfl g17 dMod_again_118 (fun H locs hP hD hS => ?_)
              have hP : va_P (dC, dI) vwCl [(h_mod, .inr (5, [.int mod_code, .int mod_gates, .int mod_feeds, .int mod_inputs, .int mod_latches, .int mod_outputs, .ref a_mod_sort, .ref a_mod_number, .ref a_mod_value, .ref a_mod_made, .ref a_mod_to, .ref a_mod_from, .ref a_mod_outputOf, .ref a_mod_negated, .int mod_explored, .ref a_mod_settles, .ref a_mod_next, .ref a_mod_ones, .ref a_mod_distance, .ref a_mod_apart, .ref a_mod_leads])), (a_mod_sort, .inl (cI, 60, .inl mod_sort)), (a_mod_value, .inl (cI, 60, .inl mod_value)), (a_mod_made, .inl (cI, 60, .inl (upd mod_madeJ13 (mod_to x2.toNatClampNeg).toNatClampNeg (2 : Int32)))), (a_mod_to, .inl (cI, 240, .inl mod_to)), (a_mod_from, .inl (cI, 240, .inl mod_from)), (a_mod_negated, .inl (cZ, 240, .inl mod_negated))] H := hP
              have hD : va_D A [(h_mod, .inr (5, [.int mod_code, .int mod_gates, .int mod_feeds, .int mod_inputs, .int mod_latches, .int mod_outputs, .ref a_mod_sort, .ref a_mod_number, .ref a_mod_value, .ref a_mod_made, .ref a_mod_to, .ref a_mod_from, .ref a_mod_outputOf, .ref a_mod_negated, .int mod_explored, .ref a_mod_settles, .ref a_mod_next, .ref a_mod_ones, .ref a_mod_distance, .ref a_mod_apart, .ref a_mod_leads])), (a_mod_sort, .inl (cI, 60, .inl mod_sort)), (a_mod_value, .inl (cI, 60, .inl mod_value)), (a_mod_made, .inl (cI, 60, .inl (upd mod_madeJ13 (mod_to x2.toNatClampNeg).toNatClampNeg (2 : Int32)))), (a_mod_to, .inl (cI, 240, .inl mod_to)), (a_mod_from, .inl (cI, 240, .inl mod_from)), (a_mod_negated, .inl (cZ, 240, .inl mod_negated))] := hD
              refine lv_iinc (v := x2 + (1 : Int32)) (lv' := [(2, .int (x2 + (1 : Int32))), (0, .ref h_mod), (1, .int x1), (3, .int (mod_to x2.toNatClampNeg)), (4, .int z0J10), (5, .int v11)]) hx hb dMod_again_119 hl (k := 2) rfl rfl (by decide) rfl (fun ls hl => ?_)
              refine lv_goto (tgt := 41) hx hb dMod_again_122 (by decide) ?_
              exact ih (x2 + (1 : Int32)) (upd mod_madeJ13 (mod_to x2.toNatClampNeg).toNatClampNeg (2 : Int32)) r hm _ _ _ hP hD hS (lv_sub hl [1, 2, 0] rfl) k1
        refine lv_icmp_ne (tgt := 95) hx hb dMod_again_84 (by decide) (fun c18 => ?_) (fun c18 => ?_)
        · have hm := sx_neg c18 hm
          exact jJ13 mod_made hm _ _ _ hP hD hS (lv_sub hl [2, 3, 4, 5, 1, 0] rfl)
        · have hm := sx_pos c18 hm
          refine lv_aload_n hx hb dMod_again_87 rfl (lv_at hl 2 rfl) ?_
          refine va_get (D := (dC, dI)) (ci := 5) (v := .ref a_mod_made) (C := RMod) (T := TMod) (N := 21) hx hb hts inMod hown hK hP 0 rfl rfl 9 (by decide) (hts _ tw_620) (fun _ h9 => h9) rfl dMod_again_88 ?_
          refine lv_iload_n hx hb dMod_again_91 rfl (lv_at hl 5 rfl) ?_
          refine lv_iload hx hb dMod_again_92 (lv_at hl 1 rfl) ?_
          obtain ⟨g19, hm⟩ := gd_el hm
          refine va_iast hx hb hK hP hD hS 3 0 rfl rfl g19 dMod_again_94 (fun H locs hP hD hS => ?_)
          have hP : va_P (dC, dI) vwCl [(h_mod, .inr (5, [.int mod_code, .int mod_gates, .int mod_feeds, .int mod_inputs, .int mod_latches, .int mod_outputs, .ref a_mod_sort, .ref a_mod_number, .ref a_mod_value, .ref a_mod_made, .ref a_mod_to, .ref a_mod_from, .ref a_mod_outputOf, .ref a_mod_negated, .int mod_explored, .ref a_mod_settles, .ref a_mod_next, .ref a_mod_ones, .ref a_mod_distance, .ref a_mod_apart, .ref a_mod_leads])), (a_mod_sort, .inl (cI, 60, .inl mod_sort)), (a_mod_value, .inl (cI, 60, .inl mod_value)), (a_mod_made, .inl (cI, 60, .inl (upd mod_made (mod_to x2.toNatClampNeg).toNatClampNeg z0J10))), (a_mod_to, .inl (cI, 240, .inl mod_to)), (a_mod_from, .inl (cI, 240, .inl mod_from)), (a_mod_negated, .inl (cZ, 240, .inl mod_negated))] H := hP
          have hD : va_D A [(h_mod, .inr (5, [.int mod_code, .int mod_gates, .int mod_feeds, .int mod_inputs, .int mod_latches, .int mod_outputs, .ref a_mod_sort, .ref a_mod_number, .ref a_mod_value, .ref a_mod_made, .ref a_mod_to, .ref a_mod_from, .ref a_mod_outputOf, .ref a_mod_negated, .int mod_explored, .ref a_mod_settles, .ref a_mod_next, .ref a_mod_ones, .ref a_mod_distance, .ref a_mod_apart, .ref a_mod_leads])), (a_mod_sort, .inl (cI, 60, .inl mod_sort)), (a_mod_value, .inl (cI, 60, .inl mod_value)), (a_mod_made, .inl (cI, 60, .inl (upd mod_made (mod_to x2.toNatClampNeg).toNatClampNeg z0J10))), (a_mod_to, .inl (cI, 240, .inl mod_to)), (a_mod_from, .inl (cI, 240, .inl mod_from)), (a_mod_negated, .inl (cZ, 240, .inl mod_negated))] := hD
          exact jJ13 (upd mod_made (mod_to x2.toNatClampNeg).toNatClampNeg z0J10) hm _ _ _ hP hD hS (lv_sub hl [2, 3, 4, 5, 1, 0] rfl)
      refine lv_icmp_ne (tgt := 70) hx hb dMod_again_63 (by decide) (fun c20 => ?_) (fun c20 => ?_)
      · have hm := sx_neg c20 hm
        refine lv_iconst (v := (1 : Int32)) hx hb dMod_again_70 (by decide) ?_
        exact jJ10 (1 : Int32) hm _ (lv_sub hl [1, 2, 3, 0] rfl)
      · have hm := sx_pos c20 hm
        refine lv_iconst (v := (0 : Int32)) hx hb dMod_again_66 (by decide) ?_
        refine lv_goto (tgt := 71) hx hb dMod_again_67 (by decide) ?_
        exact jJ10 (0 : Int32) hm _ (lv_sub hl [1, 2, 3, 0] rfl)
set_option maxHeartbeats 4000000 in
set_option maxRecDepth 100000 in
theorem w_Mod_again_127 {p : Program} {l : Launch} {e : Env} {s : State} {m : MethodId} {args : Array Value} {below : List Frame} {meth : Method} {c : Code} {dC : Nat → ClassId} {dI : Nat → Nat → Nat} {cI cL cZ : ClassId} {A : Nat → Prop} {Q : State → Prop} {t1 t2 : Nat} (C0 : sx_C p s m args meth c cMod_again 6 "StateExplorerModel" A (dC, dI) [(cI, .int), (cL, .long), (cZ, .boolean)] t1 t2) (h_mod a_mod_sort a_mod_number a_mod_value a_mod_made a_mod_to a_mod_from a_mod_outputOf a_mod_negated a_mod_settles a_mod_next a_mod_ones a_mod_distance a_mod_apart a_mod_leads : Nat) (mod_code mod_gates mod_feeds mod_inputs mod_latches mod_outputs : Int32) (mod_sort mod_made mod_to mod_from mod_negated : Nat → Int32) (mod_explored : Int32)  :
    ∀ (n : Nat) (x1 : Int32) (x2 : Int32) (mod_value : Nat → Int32) (r : Int32 × (Nat → Int32)), L_Mod_again_127 mod_gates mod_sort mod_made n x1 x2 mod_value = some r → ∀ (H : Heap) (locs : List Loc) (ls : Array Slot), va_P (dC, dI) vwCl [(h_mod, .inr (5, [.int mod_code, .int mod_gates, .int mod_feeds, .int mod_inputs, .int mod_latches, .int mod_outputs, .ref a_mod_sort, .ref a_mod_number, .ref a_mod_value, .ref a_mod_made, .ref a_mod_to, .ref a_mod_from, .ref a_mod_outputOf, .ref a_mod_negated, .int mod_explored, .ref a_mod_settles, .ref a_mod_next, .ref a_mod_ones, .ref a_mod_distance, .ref a_mod_apart, .ref a_mod_leads])), (a_mod_sort, .inl (cI, 60, .inl mod_sort)), (a_mod_value, .inl (cI, 60, .inl mod_value)), (a_mod_made, .inl (cI, 60, .inl mod_made)), (a_mod_to, .inl (cI, 240, .inl mod_to)), (a_mod_from, .inl (cI, 240, .inl mod_from)), (a_mod_negated, .inl (cZ, 240, .inl mod_negated))] H → va_D A [(h_mod, .inr (5, [.int mod_code, .int mod_gates, .int mod_feeds, .int mod_inputs, .int mod_latches, .int mod_outputs, .ref a_mod_sort, .ref a_mod_number, .ref a_mod_value, .ref a_mod_made, .ref a_mod_to, .ref a_mod_from, .ref a_mod_outputOf, .ref a_mod_negated, .int mod_explored, .ref a_mod_settles, .ref a_mod_next, .ref a_mod_ones, .ref a_mod_distance, .ref a_mod_apart, .ref a_mod_leads])), (a_mod_sort, .inl (cI, 60, .inl mod_sort)), (a_mod_value, .inl (cI, 60, .inl mod_value)), (a_mod_made, .inl (cI, 60, .inl mod_made)), (a_mod_to, .inl (cI, 240, .inl mod_to)), (a_mod_from, .inl (cI, 240, .inl mod_from)), (a_mod_negated, .inl (cZ, 240, .inl mod_negated))] → va_S A s.heap H locs → lv_has ls 6 [(0, .ref h_mod), (1, .int x1), (2, .int x2)] →
    (∀ (H : Heap) (locs : List Loc) (ls : Array Slot), va_P (dC, dI) vwCl [(h_mod, .inr (5, [.int mod_code, .int mod_gates, .int mod_feeds, .int mod_inputs, .int mod_latches, .int mod_outputs, .ref a_mod_sort, .ref a_mod_number, .ref a_mod_value, .ref a_mod_made, .ref a_mod_to, .ref a_mod_from, .ref a_mod_outputOf, .ref a_mod_negated, .int mod_explored, .ref a_mod_settles, .ref a_mod_next, .ref a_mod_ones, .ref a_mod_distance, .ref a_mod_apart, .ref a_mod_leads])), (a_mod_sort, .inl (cI, 60, .inl mod_sort)), (a_mod_value, .inl (cI, 60, .inl r.2)), (a_mod_made, .inl (cI, 60, .inl mod_made)), (a_mod_to, .inl (cI, 240, .inl mod_to)), (a_mod_from, .inl (cI, 240, .inl mod_from)), (a_mod_negated, .inl (cZ, 240, .inl mod_negated))] H → va_D A [(h_mod, .inr (5, [.int mod_code, .int mod_gates, .int mod_feeds, .int mod_inputs, .int mod_latches, .int mod_outputs, .ref a_mod_sort, .ref a_mod_number, .ref a_mod_value, .ref a_mod_made, .ref a_mod_to, .ref a_mod_from, .ref a_mod_outputOf, .ref a_mod_negated, .int mod_explored, .ref a_mod_settles, .ref a_mod_next, .ref a_mod_ones, .ref a_mod_distance, .ref a_mod_apart, .ref a_mod_leads])), (a_mod_sort, .inl (cI, 60, .inl mod_sort)), (a_mod_value, .inl (cI, 60, .inl r.2)), (a_mod_made, .inl (cI, 60, .inl mod_made)), (a_mod_to, .inl (cI, 240, .inl mod_to)), (a_mod_from, .inl (cI, 240, .inl mod_from)), (a_mod_negated, .inl (cZ, 240, .inl mod_negated))] → va_S A s.heap H locs → lv_has ls 6 [(1, .int r.1)] → W p l e (headSpec wsMod_again rm_Mod_again).room s m args below meth c H locs 0 0 Q (F0 m 216 ls [])) →
    W p l e (headSpec wsMod_again rm_Mod_again).room s m args below meth c H locs 0 0 Q (F0 m 127 ls []) := by
  obtain ⟨hx, hb, hml, hown, hts, hA, hK, hlocks, hX⟩ := id C0
  intro n
  induction n with
  | zero => intro x1 x2 mod_value r hm; rw [L_Mod_again_127] at hm; cases hm
  | succ n ih =>
    intro x1 x2 mod_value r hm H locs ls hP hD hS hl k1
    rw [L_Mod_again_127] at hm
    refine lv_iload_n hx hb dMod_again_127 rfl (lv_at hl 2 rfl) ?_
    refine lv_aload_n hx hb dMod_again_128 rfl (lv_at hl 0 rfl) ?_
    refine va_get (D := (dC, dI)) (ci := 5) (v := .int mod_gates) (C := RMod) (T := TMod) (N := 21) hx hb hts inMod hown hK hP 0 rfl rfl 1 (by decide) (hts _ tw_612) (fun _ h9 => h9) rfl dMod_again_129 ?_
    refine lv_icmp_ge (tgt := 216) hx hb dMod_again_132 (by decide) (fun c22 => ?_) (fun c22 => ?_)
    · have hm := sx_pos c22 hm
      obtain rfl := Option.some.inj hm
      exact k1 _ _ _ hP hD hS (lv_sub hl [1] rfl)
    · have hm := sx_neg c22 hm
      refine lv_aload_n hx hb dMod_again_135 rfl (lv_at hl 0 rfl) ?_
      refine va_get (D := (dC, dI)) (ci := 5) (v := .ref a_mod_sort) (C := RMod) (T := TMod) (N := 21) hx hb hts inMod hown hK hP 0 rfl rfl 6 (by decide) (hts _ tw_617) (fun _ h9 => h9) rfl dMod_again_136 ?_
      refine lv_iload_n hx hb dMod_again_139 rfl (lv_at hl 2 rfl) ?_
      obtain ⟨g23, hm⟩ := gd_el hm
      refine va_iald hx hb hK hP 1 0 rfl rfl g23 dMod_again_140 ?_
      refine lv_iconst (v := (2 : Int32)) hx hb dMod_again_141 (by decide) ?_
      obtain ⟨J24, hJ24, hm⟩ := sx_lj hm
      have jJ24 : ∀ (z0J24 : Int32), J24 z0J24 = some r → ∀ (ls : Array Slot), lv_has ls 6 [(0, .ref h_mod), (1, .int x1), (2, .int x2)] → W p l e (headSpec wsMod_again rm_Mod_again).room s m args below meth c H locs 0 0 Q (F0 m 170 ls [.int z0J24]) := by
        intro z0J24 hm ls hl
        rw [hJ24] at hm
        dsimp only at hm
        refine lv_istore_n (lv' := [(3, .int z0J24), (0, .ref h_mod), (1, .int x1), (2, .int x2)]) hx hb dMod_again_170 rfl hl (by decide) rfl (fun ls hl => ?_)
        refine lv_aload_n hx hb dMod_again_171 rfl (lv_at hl 1 rfl) ?_
        refine va_get (D := (dC, dI)) (ci := 5) (v := .ref a_mod_value) (C := RMod) (T := TMod) (N := 21) hx hb hts inMod hown hK hP 0 rfl rfl 8 (by decide) (hts _ tw_619) (fun _ h9 => h9) rfl dMod_again_172 ?_
        refine lv_iload_n hx hb dMod_again_175 rfl (lv_at hl 3 rfl) ?_
        refine lv_iload_n hx hb dMod_again_176 rfl (lv_at hl 0 rfl) ?_
        obtain ⟨J25, hJ25, hm⟩ := sx_lj hm
        have jJ25 : ∀ (z0J25 : Int32) (z1J25 : Int32), J25 z0J25 z1J25 = some r → ∀ (ls : Array Slot), lv_has ls 6 [(0, .ref h_mod), (1, .int x1), (2, .int x2), (3, .int z0J24)] → W p l e (headSpec wsMod_again rm_Mod_again).room s m args below meth c H locs 0 0 Q (F0 m 195 ls [.int z0J25, .int z1J25, .ref a_mod_value]) := by
          intro z0J25 z1J25 hm ls hl
          rw [hJ25] at hm
          dsimp only at hm
          obtain ⟨g26, hm⟩ := gd_el hm
          refine va_iast hx hb hK hP hD hS 2 0 rfl rfl g26 dMod_again_195 (fun H locs hP hD hS => ?_)
          have hP : va_P (dC, dI) vwCl [(h_mod, .inr (5, [.int mod_code, .int mod_gates, .int mod_feeds, .int mod_inputs, .int mod_latches, .int mod_outputs, .ref a_mod_sort, .ref a_mod_number, .ref a_mod_value, .ref a_mod_made, .ref a_mod_to, .ref a_mod_from, .ref a_mod_outputOf, .ref a_mod_negated, .int mod_explored, .ref a_mod_settles, .ref a_mod_next, .ref a_mod_ones, .ref a_mod_distance, .ref a_mod_apart, .ref a_mod_leads])), (a_mod_sort, .inl (cI, 60, .inl mod_sort)), (a_mod_value, .inl (cI, 60, .inl (upd mod_value z1J25.toNatClampNeg z0J25))), (a_mod_made, .inl (cI, 60, .inl mod_made)), (a_mod_to, .inl (cI, 240, .inl mod_to)), (a_mod_from, .inl (cI, 240, .inl mod_from)), (a_mod_negated, .inl (cZ, 240, .inl mod_negated))] H := hP
          have hD : va_D A [(h_mod, .inr (5, [.int mod_code, .int mod_gates, .int mod_feeds, .int mod_inputs, .int mod_latches, .int mod_outputs, .ref a_mod_sort, .ref a_mod_number, .ref a_mod_value, .ref a_mod_made, .ref a_mod_to, .ref a_mod_from, .ref a_mod_outputOf, .ref a_mod_negated, .int mod_explored, .ref a_mod_settles, .ref a_mod_next, .ref a_mod_ones, .ref a_mod_distance, .ref a_mod_apart, .ref a_mod_leads])), (a_mod_sort, .inl (cI, 60, .inl mod_sort)), (a_mod_value, .inl (cI, 60, .inl (upd mod_value z1J25.toNatClampNeg z0J25))), (a_mod_made, .inl (cI, 60, .inl mod_made)), (a_mod_to, .inl (cI, 240, .inl mod_to)), (a_mod_from, .inl (cI, 240, .inl mod_from)), (a_mod_negated, .inl (cZ, 240, .inl mod_negated))] := hD
          refine lv_iload_n hx hb dMod_again_196 rfl (lv_at hl 1 rfl) ?_
          refine lv_if_ne (tgt := 204) hx hb dMod_again_197 (by decide) (fun c27 => ?_) (fun c27 => ?_)
          · have hm := sx_neg c27 hm
            refine lv_iconst (v := (1 : Int32)) hx hb dMod_again_204 (by decide) ?_
            refine lv_goto (tgt := 209) hx hb dMod_again_205 (by decide) ?_
            refine lv_istore_n (lv' := [(1, .int (1 : Int32)), (0, .ref h_mod), (2, .int x2), (3, .int z0J24)]) hx hb dMod_again_209 rfl hl (by decide) rfl (fun ls hl => ?_)
            refine lv_iinc (v := x2 + (1 : Int32)) (lv' := [(2, .int (x2 + (1 : Int32))), (1, .int (1 : Int32)), (0, .ref h_mod), (3, .int z0J24)]) hx hb dMod_again_210 hl (k := 2) rfl rfl (by decide) rfl (fun ls hl => ?_)
            refine lv_goto (tgt := 127) hx hb dMod_again_213 (by decide) ?_
            exact ih (1 : Int32) (x2 + (1 : Int32)) (upd mod_value z1J25.toNatClampNeg z0J25) r hm _ _ _ hP hD hS (lv_sub hl [2, 1, 0] rfl) k1
          · have hm := sx_pos c27 hm
            refine lv_iload_n hx hb dMod_again_200 rfl (lv_at hl 3 rfl) ?_
            refine lv_if_eq (tgt := 208) hx hb dMod_again_201 (by decide) (fun c28 => ?_) (fun c28 => ?_)
            · have hm := sx_pos c28 hm
              refine lv_iconst (v := (0 : Int32)) hx hb dMod_again_208 (by decide) ?_
              refine lv_istore_n (lv' := [(1, .int (0 : Int32)), (0, .ref h_mod), (2, .int x2), (3, .int z0J24)]) hx hb dMod_again_209 rfl hl (by decide) rfl (fun ls hl => ?_)
              refine lv_iinc (v := x2 + (1 : Int32)) (lv' := [(2, .int (x2 + (1 : Int32))), (1, .int (0 : Int32)), (0, .ref h_mod), (3, .int z0J24)]) hx hb dMod_again_210 hl (k := 2) rfl rfl (by decide) rfl (fun ls hl => ?_)
              refine lv_goto (tgt := 127) hx hb dMod_again_213 (by decide) ?_
              exact ih (0 : Int32) (x2 + (1 : Int32)) (upd mod_value z1J25.toNatClampNeg z0J25) r hm _ _ _ hP hD hS (lv_sub hl [2, 1, 0] rfl) k1
            · have hm := sx_neg c28 hm
              refine lv_iconst (v := (1 : Int32)) hx hb dMod_again_204 (by decide) ?_
              refine lv_goto (tgt := 209) hx hb dMod_again_205 (by decide) ?_
              refine lv_istore_n (lv' := [(1, .int (1 : Int32)), (0, .ref h_mod), (2, .int x2), (3, .int z0J24)]) hx hb dMod_again_209 rfl hl (by decide) rfl (fun ls hl => ?_)
              refine lv_iinc (v := x2 + (1 : Int32)) (lv' := [(2, .int (x2 + (1 : Int32))), (1, .int (1 : Int32)), (0, .ref h_mod), (3, .int z0J24)]) hx hb dMod_again_210 hl (k := 2) rfl rfl (by decide) rfl (fun ls hl => ?_)
              refine lv_goto (tgt := 127) hx hb dMod_again_213 (by decide) ?_
              exact ih (1 : Int32) (x2 + (1 : Int32)) (upd mod_value z1J25.toNatClampNeg z0J25) r hm _ _ _ hP hD hS (lv_sub hl [2, 1, 0] rfl) k1
        refine lv_if_eq (tgt := 189) hx hb dMod_again_177 (by decide) (fun c29 => ?_) (fun c29 => ?_)
        · have hm := sx_pos c29 hm
          refine lv_aload_n hx hb dMod_again_189 rfl (lv_at hl 1 rfl) ?_
          refine va_get (D := (dC, dI)) (ci := 5) (v := .ref a_mod_value) (C := RMod) (T := TMod) (N := 21) hx hb hts inMod hown hK hP 0 rfl rfl 8 (by decide) (hts _ tw_619) (fun _ h9 => h9) rfl dMod_again_190 ?_
          refine lv_iload_n hx hb dMod_again_193 rfl (lv_at hl 3 rfl) ?_
          obtain ⟨g30, hm⟩ := gd_el hm
          refine va_iald hx hb hK hP 2 0 rfl rfl g30 dMod_again_194 ?_
          exact jJ25 (mod_value x2.toNatClampNeg) x2 hm _ (lv_sub hl [1, 2, 3, 0] rfl)
        · have hm := sx_neg c29 hm
          refine lv_aload_n hx hb dMod_again_180 rfl (lv_at hl 1 rfl) ?_
          refine va_get (D := (dC, dI)) (ci := 5) (v := .ref a_mod_made) (C := RMod) (T := TMod) (N := 21) hx hb hts inMod hown hK hP 0 rfl rfl 9 (by decide) (hts _ tw_620) (fun _ h9 => h9) rfl dMod_again_181 ?_
          refine lv_iload_n hx hb dMod_again_184 rfl (lv_at hl 3 rfl) ?_
          obtain ⟨g31, hm⟩ := gd_el hm
          refine va_iald hx hb hK hP 3 0 rfl rfl g31 dMod_again_185 ?_
          refine lv_goto (tgt := 195) hx hb dMod_again_186 (by decide) ?_
          exact jJ25 (mod_made x2.toNatClampNeg) x2 hm _ (lv_sub hl [1, 2, 3, 0] rfl)
      obtain ⟨J32, hJ32, hm⟩ := sx_lj hm
      have jJ32 : ∀ (_ : Unit), J32 () = some r → ∀ (ls : Array Slot), lv_has ls 6 [(0, .ref h_mod), (1, .int x1), (2, .int x2)] → W p l e (headSpec wsMod_again rm_Mod_again).room s m args below meth c H locs 0 0 Q (F0 m 169 ls []) := by
        intro _ hm ls hl
        rw [hJ32] at hm
        dsimp only at hm
        refine lv_iconst (v := (0 : Int32)) hx hb dMod_again_169 (by decide) ?_
        exact jJ24 (0 : Int32) hm _ (hl)
      refine lv_icmp_lt (tgt := 169) hx hb dMod_again_142 (by decide) (fun c33 => ?_) (fun c33 => ?_)
      · have hm := sx_pos c33 hm
        exact jJ32 () hm _ (hl)
      · have hm := sx_neg c33 hm
        refine lv_aload_n hx hb dMod_again_145 rfl (lv_at hl 0 rfl) ?_
        refine va_get (D := (dC, dI)) (ci := 5) (v := .ref a_mod_value) (C := RMod) (T := TMod) (N := 21) hx hb hts inMod hown hK hP 0 rfl rfl 8 (by decide) (hts _ tw_619) (fun _ h9 => h9) rfl dMod_again_146 ?_
        refine lv_iload_n hx hb dMod_again_149 rfl (lv_at hl 2 rfl) ?_
        obtain ⟨g34, hm⟩ := gd_el hm
        refine va_iald hx hb hK hP 2 0 rfl rfl g34 dMod_again_150 ?_
        refine lv_iconst (v := (2 : Int32)) hx hb dMod_again_151 (by decide) ?_
        refine lv_icmp_ne (tgt := 169) hx hb dMod_again_152 (by decide) (fun c35 => ?_) (fun c35 => ?_)
        · have hm := sx_neg c35 hm
          exact jJ32 () hm _ (hl)
        · have hm := sx_pos c35 hm
          refine lv_aload_n hx hb dMod_again_155 rfl (lv_at hl 0 rfl) ?_
          refine va_get (D := (dC, dI)) (ci := 5) (v := .ref a_mod_made) (C := RMod) (T := TMod) (N := 21) hx hb hts inMod hown hK hP 0 rfl rfl 9 (by decide) (hts _ tw_620) (fun _ h9 => h9) rfl dMod_again_156 ?_
          refine lv_iload_n hx hb dMod_again_159 rfl (lv_at hl 2 rfl) ?_
          obtain ⟨g36, hm⟩ := gd_el hm
          refine va_iald hx hb hK hP 3 0 rfl rfl g36 dMod_again_160 ?_
          refine lv_iconst (v := (2 : Int32)) hx hb dMod_again_161 (by decide) ?_
          refine lv_icmp_eq (tgt := 169) hx hb dMod_again_162 (by decide) (fun c37 => ?_) (fun c37 => ?_)
          · have hm := sx_pos c37 hm
            exact jJ32 () hm _ (hl)
          · have hm := sx_neg c37 hm
            refine lv_iconst (v := (1 : Int32)) hx hb dMod_again_165 (by decide) ?_
            refine lv_goto (tgt := 170) hx hb dMod_again_166 (by decide) ?_
            exact jJ24 (1 : Int32) hm _ (hl)
set_option maxHeartbeats 4000000 in
set_option maxRecDepth 100000 in
theorem k_Mod_again (l : Launch) (dC : Nat → ClassId) (dI : Nat → Nat → Nat) (cI cL cZ : ClassId) (t1 t2 : Nat) (h_mod a_mod_sort a_mod_number a_mod_value a_mod_made a_mod_to a_mod_from a_mod_outputOf a_mod_negated a_mod_settles a_mod_next a_mod_ones a_mod_distance a_mod_apart a_mod_leads : Nat) (mod_code mod_gates mod_feeds mod_inputs mod_latches mod_outputs : Int32) (mod_sort mod_value mod_made mod_to mod_from mod_negated : Nat → Int32) (mod_explored : Int32) (sz : Nat)  (v : Int32 × (Nat → Int32) × (Nat → Int32)) (hm : m_Mod_again mod_gates mod_feeds mod_sort mod_value mod_made mod_to mod_from mod_negated = some v) : Met l yMod_again wsMod_again rm_Mod_again (sx_Pc (dC, dI) [(cI, .int), (cL, .long), (cZ, .boolean)] t1 t2 [(h_mod, .inr (5, [.int mod_code, .int mod_gates, .int mod_feeds, .int mod_inputs, .int mod_latches, .int mod_outputs, .ref a_mod_sort, .ref a_mod_number, .ref a_mod_value, .ref a_mod_made, .ref a_mod_to, .ref a_mod_from, .ref a_mod_outputOf, .ref a_mod_negated, .int mod_explored, .ref a_mod_settles, .ref a_mod_next, .ref a_mod_ones, .ref a_mod_distance, .ref a_mod_apart, .ref a_mod_leads])), (a_mod_sort, .inl (cI, 60, .inl mod_sort)), (a_mod_value, .inl (cI, 60, .inl mod_value)), (a_mod_made, .inl (cI, 60, .inl mod_made)), (a_mod_to, .inl (cI, 240, .inl mod_to)), (a_mod_from, .inl (cI, 240, .inl mod_from)), (a_mod_negated, .inl (cZ, 240, .inl mod_negated))] sz [.ref h_mod]) (va_Qi (fun (r : Int32) (_ : Unit) => r = v.1) (fun _ t => sx_W (dC, dI) [(cI, .int), (cL, .long), (cZ, .boolean)] (va_A [(h_mod, .inr (5, [.int mod_code, .int mod_gates, .int mod_feeds, .int mod_inputs, .int mod_latches, .int mod_outputs, .ref a_mod_sort, .ref a_mod_number, .ref a_mod_value, .ref a_mod_made, .ref a_mod_to, .ref a_mod_from, .ref a_mod_outputOf, .ref a_mod_negated, .int mod_explored, .ref a_mod_settles, .ref a_mod_next, .ref a_mod_ones, .ref a_mod_distance, .ref a_mod_apart, .ref a_mod_leads])), (a_mod_sort, .inl (cI, 60, .inl mod_sort)), (a_mod_value, .inl (cI, 60, .inl mod_value)), (a_mod_made, .inl (cI, 60, .inl mod_made)), (a_mod_to, .inl (cI, 240, .inl mod_to)), (a_mod_from, .inl (cI, 240, .inl mod_from)), (a_mod_negated, .inl (cZ, 240, .inl mod_negated))] sz) [(h_mod, .inr (5, [.int mod_code, .int mod_gates, .int mod_feeds, .int mod_inputs, .int mod_latches, .int mod_outputs, .ref a_mod_sort, .ref a_mod_number, .ref a_mod_value, .ref a_mod_made, .ref a_mod_to, .ref a_mod_from, .ref a_mod_outputOf, .ref a_mod_negated, .int mod_explored, .ref a_mod_settles, .ref a_mod_next, .ref a_mod_ones, .ref a_mod_distance, .ref a_mod_apart, .ref a_mod_leads])), (a_mod_sort, .inl (cI, 60, .inl mod_sort)), (a_mod_value, .inl (cI, 60, .inl v.2.1)), (a_mod_made, .inl (cI, 60, .inl v.2.2)), (a_mod_to, .inl (cI, 240, .inl mod_to)), (a_mod_from, .inl (cI, 240, .inl mod_from)), (a_mod_negated, .inl (cZ, 240, .inl mod_negated))] t) (va_A [(h_mod, .inr (5, [.int mod_code, .int mod_gates, .int mod_feeds, .int mod_inputs, .int mod_latches, .int mod_outputs, .ref a_mod_sort, .ref a_mod_number, .ref a_mod_value, .ref a_mod_made, .ref a_mod_to, .ref a_mod_from, .ref a_mod_outputOf, .ref a_mod_negated, .int mod_explored, .ref a_mod_settles, .ref a_mod_next, .ref a_mod_ones, .ref a_mod_distance, .ref a_mod_apart, .ref a_mod_leads])), (a_mod_sort, .inl (cI, 60, .inl mod_sort)), (a_mod_value, .inl (cI, 60, .inl mod_value)), (a_mod_made, .inl (cI, 60, .inl mod_made)), (a_mod_to, .inl (cI, 240, .inl mod_to)), (a_mod_from, .inl (cI, 240, .inl mod_from)), (a_mod_negated, .inl (cZ, 240, .inl mod_negated))] sz)) 0 0 (va_A [(h_mod, .inr (5, [.int mod_code, .int mod_gates, .int mod_feeds, .int mod_inputs, .int mod_latches, .int mod_outputs, .ref a_mod_sort, .ref a_mod_number, .ref a_mod_value, .ref a_mod_made, .ref a_mod_to, .ref a_mod_from, .ref a_mod_outputOf, .ref a_mod_negated, .int mod_explored, .ref a_mod_settles, .ref a_mod_next, .ref a_mod_ones, .ref a_mod_distance, .ref a_mod_apart, .ref a_mod_leads])), (a_mod_sort, .inl (cI, 60, .inl mod_sort)), (a_mod_value, .inl (cI, 60, .inl mod_value)), (a_mod_made, .inl (cI, 60, .inl mod_made)), (a_mod_to, .inl (cI, 240, .inl mod_to)), (a_mod_from, .inl (cI, 240, .inl mod_from)), (a_mod_negated, .inl (cZ, 240, .inl mod_negated))] sz) := by
  refine Met.ofW (cc := cMod_again) (maxL := 6) (ret := (some .boolean)) (by decide) rfl ?_
  intro p e s m args below meth c s₁ B hml hv
  obtain ⟨rfl, hsz, hP, hK, hD0, hX⟩ := hv
  have hx := B.exec
  have hb := B.bytes
  have hr := B.returns
  have hts0 := atoms_spec (ws := wsMod_again) B.pre
  have hts : ∀ w ∈ tb, w.before _ s = true := fun w h => hts0 w (List.mem_cons_of_mem _ h)
  have hown : s.vm.findClass "StateExplorerModel" = some m.cls := findClass_of_methodNamed B.named
  have hlocks := B.notSynchronized
  subst hsz
  have hD := hD0.self (sz := s.heap.size)
  generalize hAe : va_A [(h_mod, .inr (5, [.int mod_code, .int mod_gates, .int mod_feeds, .int mod_inputs, .int mod_latches, .int mod_outputs, .ref a_mod_sort, .ref a_mod_number, .ref a_mod_value, .ref a_mod_made, .ref a_mod_to, .ref a_mod_from, .ref a_mod_outputOf, .ref a_mod_negated, .int mod_explored, .ref a_mod_settles, .ref a_mod_next, .ref a_mod_ones, .ref a_mod_distance, .ref a_mod_apart, .ref a_mod_leads])), (a_mod_sort, .inl (cI, 60, .inl mod_sort)), (a_mod_value, .inl (cI, 60, .inl mod_value)), (a_mod_made, .inl (cI, 60, .inl mod_made)), (a_mod_to, .inl (cI, 240, .inl mod_to)), (a_mod_from, .inl (cI, 240, .inl mod_from)), (a_mod_negated, .inl (cZ, 240, .inl mod_negated))] s.heap.size = A at hD hX ⊢
  have hA : ∀ q : Nat, s.heap.size ≤ q → A q := fun q h => by rw [← hAe]; exact Or.inr h
  have hS : va_S A s.heap s.heap [] := va_S.rf
  have hl := lv_entry ([.ref h_mod]) (n := 6) (Nat.le_of_ble_eq_true rfl)
  rw [lg_entry_eq]
  generalize (lg_sl ([.ref h_mod]) ++ List.replicate (6 - (lg_sl ([.ref h_mod])).length) Slot.unset).toArray = ls at hl ⊢
  have hl : lv_has ls 6 [(0, .ref h_mod)] := hl
  have C0 : sx_C p s m _ meth c cMod_again 6 "StateExplorerModel" A (dC, dI) [(cI, .int), (cL, .long), (cZ, .boolean)] t1 t2 := ⟨hx, hb, hml, hown, hts, hA, hK, hlocks, hX⟩
  rw [m_Mod_again] at hm
  refine lv_iconst (v := (0 : Int32)) hx hb dMod_again_0 (by decide) ?_
  refine lv_istore_n (lv' := [(1, .int (0 : Int32)), (0, .ref h_mod)]) hx hb dMod_again_1 rfl hl (by decide) rfl (fun ls hl => ?_)
  refine lv_iconst (v := (0 : Int32)) hx hb dMod_again_2 (by decide) ?_
  refine lv_istore_n (lv' := [(2, .int (0 : Int32)), (1, .int (0 : Int32)), (0, .ref h_mod)]) hx hb dMod_again_3 rfl hl (by decide) rfl (fun ls hl => ?_)
  obtain ⟨v6, hv6, hm⟩ := sx_bind hm
  refine w_Mod_again_4 C0 h_mod a_mod_sort a_mod_number a_mod_value a_mod_made a_mod_to a_mod_from a_mod_outputOf a_mod_negated a_mod_settles a_mod_next a_mod_ones a_mod_distance a_mod_apart a_mod_leads mod_code mod_gates mod_feeds mod_inputs mod_latches mod_outputs mod_sort mod_value mod_to mod_from mod_negated mod_explored (0 : Int32) _ (0 : Int32) mod_made v6 hv6 _ _ _ hP hD hS (lv_sub hl [2, 1, 0] rfl) ?_
  intro H locs ls hP hD hS hl
  refine lv_iconst (v := (0 : Int32)) hx hb dMod_again_39 (by decide) ?_
  refine lv_istore_n (lv' := [(2, .int (0 : Int32)), (0, .ref h_mod), (1, .int (0 : Int32))]) hx hb dMod_again_40 rfl hl (by decide) rfl (fun ls hl => ?_)
  obtain ⟨v21, hv21, hm⟩ := sx_bind hm
  refine w_Mod_again_41 C0 h_mod a_mod_sort a_mod_number a_mod_value a_mod_made a_mod_to a_mod_from a_mod_outputOf a_mod_negated a_mod_settles a_mod_next a_mod_ones a_mod_distance a_mod_apart a_mod_leads mod_code mod_gates mod_feeds mod_inputs mod_latches mod_outputs mod_sort mod_value mod_to mod_from mod_negated mod_explored (0 : Int32) _ (0 : Int32) v6 v21 hv21 _ _ _ hP hD hS (lv_sub hl [1, 2, 0] rfl) ?_
  intro H locs ls hP hD hS hl
  refine lv_iconst (v := (0 : Int32)) hx hb dMod_again_125 (by decide) ?_
  refine lv_istore_n (lv' := [(2, .int (0 : Int32)), (0, .ref h_mod), (1, .int (0 : Int32))]) hx hb dMod_again_126 rfl hl (by decide) rfl (fun ls hl => ?_)
  obtain ⟨v38, hv38, hm⟩ := sx_bind hm
  refine w_Mod_again_127 C0 h_mod a_mod_sort a_mod_number a_mod_value a_mod_made a_mod_to a_mod_from a_mod_outputOf a_mod_negated a_mod_settles a_mod_next a_mod_ones a_mod_distance a_mod_apart a_mod_leads mod_code mod_gates mod_feeds mod_inputs mod_latches mod_outputs mod_sort v21 mod_to mod_from mod_negated mod_explored _ (0 : Int32) (0 : Int32) mod_value v38 hv38 _ _ _ hP hD hS (lv_sub hl [1, 2, 0] rfl) ?_
  intro H locs ls hP hD hS hl
  refine lv_iload_n hx hb dMod_again_216 rfl (lv_at hl 0 rfl) ?_
  obtain ⟨hz9, hm⟩ := gd_el hm
  obtain rfl := Option.some.inj hm
  exact W.zret (v := v38.1) hx hb hr hz9 (fun t ht hW => ⟨⟨v38.1, (), rfl, rfl, sx_Wi hP hK hD ht hW.alike⟩, hS.F ht⟩) hS.2.2 dMod_again_217
noncomputable def L_Mod_work_10 (mod_gates : Int32) (mod_sort mod_number : Nat → Int32) (x1 : Int32) (x2 : Int32) : Nat → Int32 → (Nat → Int32) → Option ((Nat → Int32))
  | 0, _, _ => none
  | n + 1, x4, mod_value => (if mod_gates ≤ x4 then some mod_value else gd (vp_in x4 60) ((if mod_sort x4.toNatClampNeg = (0 : Int32) then gd (vp_in x4 60) (gd (vp_in x4 60) ((L_Mod_work_10 mod_gates mod_sort mod_number x1 x2 n (x4 + (1 : Int32)) (upd mod_value x4.toNatClampNeg ((x2 >>> ((mod_number x4.toNatClampNeg) &&& 31)) &&& (1 : Int32)))))) else gd (vp_in x4 60) ((if mod_sort x4.toNatClampNeg = (1 : Int32) then gd (vp_in x4 60) (gd (vp_in x4 60) ((L_Mod_work_10 mod_gates mod_sort mod_number x1 x2 n (x4 + (1 : Int32)) (upd mod_value x4.toNatClampNeg ((x1 >>> ((mod_number x4.toNatClampNeg) &&& 31)) &&& (1 : Int32)))))) else gd (vp_in x4 60) ((L_Mod_work_10 mod_gates mod_sort mod_number x1 x2 n (x4 + (1 : Int32)) (upd mod_value x4.toNatClampNeg (2 : Int32)))))))))
noncomputable def L_Mod_work_85 (mod_gates mod_feeds : Int32) (mod_sort mod_to mod_from mod_negated : Nat → Int32) : Nat → Int32 → (Nat → Int32) → (Nat → Int32) → Option ((Nat → Int32) × (Nat → Int32))
  | 0, _, _, _ => none
  | n + 1, x4, mod_value, mod_made => (if x4 = (0 : Int32) then some (mod_value, mod_made) else (m_Mod_again mod_gates mod_feeds mod_sort mod_value mod_made mod_to mod_from mod_negated).bind (fun v13 => (L_Mod_work_85 mod_gates mod_feeds mod_sort mod_to mod_from mod_negated n v13.1 v13.2.1 v13.2.2)))
noncomputable def L_Mod_work_116 (mod_gates : Int32) (mod_value : Nat → Int32) (x3 : Int32) : Nat → Int32 → (Nat → Int32) → (Nat → Int64) → Option ((Nat → Int32) × (Nat → Int64))
  | 0, _, _, _ => none
  | n + 1, x5, mod_settles, mod_ones => (if mod_gates ≤ x5 then some (mod_settles, mod_ones) else gd (vp_in x3 4096) ((sx_let (fun (z0J20 : Int32) (z1J20 : Int32) => gd (vp_in z1J20 4096) (gd (vp_in x5 60) ((if mod_value x5.toNatClampNeg = (1 : Int32) then gd (vp_in x3 4096) (gd (vp_in x3 4096) ((L_Mod_work_116 mod_gates mod_value x3 n (x5 + (1 : Int32)) (upd mod_settles z1J20.toNatClampNeg (vp_nar .boolean z0J20)) (vp_updL mod_ones x3.toNatClampNeg ((mod_ones x3.toNatClampNeg) ||| ((1 : Int64) <<< (x5.toInt64 &&& 63))))))) else gd (vp_in x3 4096) (gd (vp_in x3 4096) ((L_Mod_work_116 mod_gates mod_value x3 n (x5 + (1 : Int32)) (upd mod_settles z1J20.toNatClampNeg (vp_nar .boolean z0J20)) (vp_updL mod_ones x3.toNatClampNeg (mod_ones x3.toNatClampNeg))))))))) (fun J20 => sx_let (fun (z0J28 : Int32) => (J20 (0 : Int32) z0J28)) (fun J28 => (if mod_settles x3.toNatClampNeg = (0 : Int32) then (J28 x3) else gd (vp_in x5 60) ((if mod_value x5.toNatClampNeg = (2 : Int32) then (J28 x3) else (J20 (1 : Int32) x3)))))))))
noncomputable def L_Mod_work_209 (mod_feeds : Int32) (mod_sort mod_number mod_value mod_to mod_from mod_negated mod_settles : Nat → Int32) (x3 : Int32) : Nat → Int32 → (Nat → Int32) → Option ((Nat → Int32))
  | 0, _, _ => none
  | n + 1, x5, mod_next => (if mod_feeds ≤ x5 then some mod_next else gd (vp_in x3 4096) ((if mod_settles x3.toNatClampNeg = (0 : Int32) then some mod_next else gd (vp_in x5 240) (gd (vp_in (mod_to x5.toNatClampNeg) 60) ((if mod_sort (mod_to x5.toNatClampNeg).toNatClampNeg = (1 : Int32) then gd (vp_in x3 4096) (gd (vp_in x5 240) (gd (vp_in (mod_to x5.toNatClampNeg) 60) ((m_Mod_taken mod_value mod_from mod_negated x5).bind (fun v43 => gd (vp_in x5 240) (gd (vp_in (mod_to x5.toNatClampNeg) 60) (gd (vp_in x3 4096) ((L_Mod_work_209 mod_feeds mod_sort mod_number mod_value mod_to mod_from mod_negated mod_settles x3 n (x5 + (1 : Int32)) (upd mod_next x3.toNatClampNeg (((mod_next x3.toNatClampNeg) &&& (((1 : Int32) <<< ((mod_number (mod_to x5.toNatClampNeg).toNatClampNeg) &&& 31)) ^^^ (-1 : Int32))) ||| (v43 <<< ((mod_number (mod_to x5.toNatClampNeg).toNatClampNeg) &&& 31)))))))))))) else (L_Mod_work_209 mod_feeds mod_sort mod_number mod_value mod_to mod_from mod_negated mod_settles x3 n (x5 + (1 : Int32)) mod_next)))))))
noncomputable def m_Mod_work (mod_gates mod_feeds : Int32) (mod_sort mod_number mod_value mod_made mod_to mod_from mod_negated mod_settles mod_next : Nat → Int32) (mod_ones : Nat → Int64) (p0 : Int32) (p1 : Int32) : Option ((Nat → Int32) × (Nat → Int32) × (Nat → Int32) × (Nat → Int32) × (Nat → Int64)) := ((L_Mod_work_10 mod_gates mod_sort mod_number p0 p1 fu (0 : Int32) mod_value).bind (fun v11 => ((L_Mod_work_85 mod_gates mod_feeds mod_sort mod_to mod_from mod_negated fu (1 : Int32) v11 mod_made).bind (fun v15 => gd (vp_in (((16 : Int32) * p0) + p1) 4096) (gd (vp_in (((16 : Int32) * p0) + p1) 4096) (((L_Mod_work_116 mod_gates v15.1 (((16 : Int32) * p0) + p1) fu (0 : Int32) (upd mod_settles (((16 : Int32) * p0) + p1).toNatClampNeg (vp_nar .boolean (1 : Int32))) (vp_updL mod_ones (((16 : Int32) * p0) + p1).toNatClampNeg (0 : Int64))).bind (fun v32 => gd (vp_in (((16 : Int32) * p0) + p1) 4096) (((L_Mod_work_209 mod_feeds mod_sort mod_number v15.1 mod_to mod_from mod_negated v32.1 (((16 : Int32) * p0) + p1) fu (0 : Int32) (upd mod_next (((16 : Int32) * p0) + p1).toNatClampNeg p0)).bind (fun v48 => some (v15.1, v15.2, v32.1, v48, v32.2))))))))))))
def rm_Mod_work : Room := { frames := 2, cells := 0, slots := 0, locals := 47 }
set_option maxHeartbeats 4000000 in
set_option maxRecDepth 100000 in
theorem w_Mod_work_10 {p : Program} {l : Launch} {e : Env} {s : State} {m : MethodId} {args : Array Value} {below : List Frame} {meth : Method} {c : Code} {dC : Nat → ClassId} {dI : Nat → Nat → Nat} {cI cL cZ : ClassId} {A : Nat → Prop} {Q : State → Prop} {t1 t2 : Nat} (C0 : sx_C p s m args meth c cMod_work 6 "StateExplorerModel" A (dC, dI) [(cI, .int), (cL, .long), (cZ, .boolean)] t1 t2) (h_mod a_mod_sort a_mod_number a_mod_value a_mod_made a_mod_to a_mod_from a_mod_outputOf a_mod_negated a_mod_settles a_mod_next a_mod_ones a_mod_distance a_mod_apart a_mod_leads : Nat) (mod_code mod_gates mod_feeds mod_inputs mod_latches mod_outputs : Int32) (mod_sort mod_number mod_made mod_to mod_from mod_negated : Nat → Int32) (mod_explored : Int32) (mod_settles mod_next : Nat → Int32) (mod_ones : Nat → Int64) (x1 : Int32) (x2 : Int32) (x3 : Int32) :
    ∀ (n : Nat) (x4 : Int32) (mod_value : Nat → Int32) (r : (Nat → Int32)), L_Mod_work_10 mod_gates mod_sort mod_number x1 x2 n x4 mod_value = some r → ∀ (H : Heap) (locs : List Loc) (ls : Array Slot), va_P (dC, dI) vwCl [(h_mod, .inr (5, [.int mod_code, .int mod_gates, .int mod_feeds, .int mod_inputs, .int mod_latches, .int mod_outputs, .ref a_mod_sort, .ref a_mod_number, .ref a_mod_value, .ref a_mod_made, .ref a_mod_to, .ref a_mod_from, .ref a_mod_outputOf, .ref a_mod_negated, .int mod_explored, .ref a_mod_settles, .ref a_mod_next, .ref a_mod_ones, .ref a_mod_distance, .ref a_mod_apart, .ref a_mod_leads])), (a_mod_sort, .inl (cI, 60, .inl mod_sort)), (a_mod_number, .inl (cI, 60, .inl mod_number)), (a_mod_value, .inl (cI, 60, .inl mod_value)), (a_mod_made, .inl (cI, 60, .inl mod_made)), (a_mod_to, .inl (cI, 240, .inl mod_to)), (a_mod_from, .inl (cI, 240, .inl mod_from)), (a_mod_negated, .inl (cZ, 240, .inl mod_negated)), (a_mod_settles, .inl (cZ, 4096, .inl mod_settles)), (a_mod_next, .inl (cI, 4096, .inl mod_next)), (a_mod_ones, .inl (cL, 4096, .inr (.inl mod_ones)))] H → va_D A [(h_mod, .inr (5, [.int mod_code, .int mod_gates, .int mod_feeds, .int mod_inputs, .int mod_latches, .int mod_outputs, .ref a_mod_sort, .ref a_mod_number, .ref a_mod_value, .ref a_mod_made, .ref a_mod_to, .ref a_mod_from, .ref a_mod_outputOf, .ref a_mod_negated, .int mod_explored, .ref a_mod_settles, .ref a_mod_next, .ref a_mod_ones, .ref a_mod_distance, .ref a_mod_apart, .ref a_mod_leads])), (a_mod_sort, .inl (cI, 60, .inl mod_sort)), (a_mod_number, .inl (cI, 60, .inl mod_number)), (a_mod_value, .inl (cI, 60, .inl mod_value)), (a_mod_made, .inl (cI, 60, .inl mod_made)), (a_mod_to, .inl (cI, 240, .inl mod_to)), (a_mod_from, .inl (cI, 240, .inl mod_from)), (a_mod_negated, .inl (cZ, 240, .inl mod_negated)), (a_mod_settles, .inl (cZ, 4096, .inl mod_settles)), (a_mod_next, .inl (cI, 4096, .inl mod_next)), (a_mod_ones, .inl (cL, 4096, .inr (.inl mod_ones)))] → va_S A s.heap H locs → lv_has ls 6 [(0, .ref h_mod), (1, .int x1), (2, .int x2), (3, .int x3), (4, .int x4)] →
    (∀ (H : Heap) (locs : List Loc) (ls : Array Slot), va_P (dC, dI) vwCl [(h_mod, .inr (5, [.int mod_code, .int mod_gates, .int mod_feeds, .int mod_inputs, .int mod_latches, .int mod_outputs, .ref a_mod_sort, .ref a_mod_number, .ref a_mod_value, .ref a_mod_made, .ref a_mod_to, .ref a_mod_from, .ref a_mod_outputOf, .ref a_mod_negated, .int mod_explored, .ref a_mod_settles, .ref a_mod_next, .ref a_mod_ones, .ref a_mod_distance, .ref a_mod_apart, .ref a_mod_leads])), (a_mod_sort, .inl (cI, 60, .inl mod_sort)), (a_mod_number, .inl (cI, 60, .inl mod_number)), (a_mod_value, .inl (cI, 60, .inl r)), (a_mod_made, .inl (cI, 60, .inl mod_made)), (a_mod_to, .inl (cI, 240, .inl mod_to)), (a_mod_from, .inl (cI, 240, .inl mod_from)), (a_mod_negated, .inl (cZ, 240, .inl mod_negated)), (a_mod_settles, .inl (cZ, 4096, .inl mod_settles)), (a_mod_next, .inl (cI, 4096, .inl mod_next)), (a_mod_ones, .inl (cL, 4096, .inr (.inl mod_ones)))] H → va_D A [(h_mod, .inr (5, [.int mod_code, .int mod_gates, .int mod_feeds, .int mod_inputs, .int mod_latches, .int mod_outputs, .ref a_mod_sort, .ref a_mod_number, .ref a_mod_value, .ref a_mod_made, .ref a_mod_to, .ref a_mod_from, .ref a_mod_outputOf, .ref a_mod_negated, .int mod_explored, .ref a_mod_settles, .ref a_mod_next, .ref a_mod_ones, .ref a_mod_distance, .ref a_mod_apart, .ref a_mod_leads])), (a_mod_sort, .inl (cI, 60, .inl mod_sort)), (a_mod_number, .inl (cI, 60, .inl mod_number)), (a_mod_value, .inl (cI, 60, .inl r)), (a_mod_made, .inl (cI, 60, .inl mod_made)), (a_mod_to, .inl (cI, 240, .inl mod_to)), (a_mod_from, .inl (cI, 240, .inl mod_from)), (a_mod_negated, .inl (cZ, 240, .inl mod_negated)), (a_mod_settles, .inl (cZ, 4096, .inl mod_settles)), (a_mod_next, .inl (cI, 4096, .inl mod_next)), (a_mod_ones, .inl (cL, 4096, .inr (.inl mod_ones)))] → va_S A s.heap H locs → lv_has ls 6 [(0, .ref h_mod), (1, .int x1), (3, .int x3)] → W p l e (headSpec wsMod_work rm_Mod_work).room s m args below meth c H locs 0 0 Q (F0 m 82 ls [])) →
    W p l e (headSpec wsMod_work rm_Mod_work).room s m args below meth c H locs 0 0 Q (F0 m 10 ls []) := by
  obtain ⟨hx, hb, hml, hown, hts, hA, hK, hlocks, hX⟩ := id C0
  intro n
  induction n with
  | zero => intro x4 mod_value r hm; rw [L_Mod_work_10] at hm; cases hm
  | succ n ih =>
    intro x4 mod_value r hm H locs ls hP hD hS hl k1
    rw [L_Mod_work_10] at hm
    refine lv_iload hx hb dMod_work_10 (lv_at hl 4 rfl) ?_
    refine lv_aload_n hx hb dMod_work_12 rfl (lv_at hl 0 rfl) ?_
    refine va_get (D := (dC, dI)) (ci := 5) (v := .int mod_gates) (C := RMod) (T := TMod) (N := 21) hx hb hts inMod hown hK hP 0 rfl rfl 1 (by decide) (hts _ tw_612) (fun _ h9 => h9) rfl dMod_work_13 ?_
    refine lv_icmp_ge (tgt := 82) hx hb dMod_work_16 (by decide) (fun c1 => ?_) (fun c1 => ?_)
    · have hm := sx_pos c1 hm
      obtain rfl := Option.some.inj hm
      exact k1 _ _ _ hP hD hS (lv_sub hl [0, 1, 3] rfl)
    · have hm := sx_neg c1 hm
      refine lv_aload_n hx hb dMod_work_19 rfl (lv_at hl 0 rfl) ?_
      refine va_get (D := (dC, dI)) (ci := 5) (v := .ref a_mod_value) (C := RMod) (T := TMod) (N := 21) hx hb hts inMod hown hK hP 0 rfl rfl 8 (by decide) (hts _ tw_619) (fun _ h9 => h9) rfl dMod_work_20 ?_
      refine lv_iload hx hb dMod_work_23 (lv_at hl 4 rfl) ?_
      refine lv_aload_n hx hb dMod_work_25 rfl (lv_at hl 0 rfl) ?_
      refine va_get (D := (dC, dI)) (ci := 5) (v := .ref a_mod_sort) (C := RMod) (T := TMod) (N := 21) hx hb hts inMod hown hK hP 0 rfl rfl 6 (by decide) (hts _ tw_617) (fun _ h9 => h9) rfl dMod_work_26 ?_
      refine lv_iload hx hb dMod_work_29 (lv_at hl 4 rfl) ?_
      obtain ⟨g2, hm⟩ := gd_el hm
      refine va_iald hx hb hK hP 1 0 rfl rfl g2 dMod_work_31 ?_
      refine lv_if_ne (tgt := 49) hx hb dMod_work_32 (by decide) (fun c3 => ?_) (fun c3 => ?_)
      · have hm := sx_neg c3 hm
        refine lv_aload_n hx hb dMod_work_49 rfl (lv_at hl 0 rfl) ?_
        refine va_get (D := (dC, dI)) (ci := 5) (v := .ref a_mod_sort) (C := RMod) (T := TMod) (N := 21) hx hb hts inMod hown hK hP 0 rfl rfl 6 (by decide) (hts _ tw_617) (fun _ h9 => h9) rfl dMod_work_50 ?_
        refine lv_iload hx hb dMod_work_53 (lv_at hl 4 rfl) ?_
        obtain ⟨g4, hm⟩ := gd_el hm
        refine va_iald hx hb hK hP 1 0 rfl rfl g4 dMod_work_55 ?_
        refine lv_iconst (v := (1 : Int32)) hx hb dMod_work_56 (by decide) ?_
        refine lv_icmp_ne (tgt := 74) hx hb dMod_work_57 (by decide) (fun c5 => ?_) (fun c5 => ?_)
        · have hm := sx_neg c5 hm
          refine lv_iconst (v := (2 : Int32)) hx hb dMod_work_74 (by decide) ?_
          obtain ⟨g6, hm⟩ := gd_el hm
          refine va_iast hx hb hK hP hD hS 3 0 rfl rfl g6 dMod_work_75 (fun H locs hP hD hS => ?_)
          have hP : va_P (dC, dI) vwCl [(h_mod, .inr (5, [.int mod_code, .int mod_gates, .int mod_feeds, .int mod_inputs, .int mod_latches, .int mod_outputs, .ref a_mod_sort, .ref a_mod_number, .ref a_mod_value, .ref a_mod_made, .ref a_mod_to, .ref a_mod_from, .ref a_mod_outputOf, .ref a_mod_negated, .int mod_explored, .ref a_mod_settles, .ref a_mod_next, .ref a_mod_ones, .ref a_mod_distance, .ref a_mod_apart, .ref a_mod_leads])), (a_mod_sort, .inl (cI, 60, .inl mod_sort)), (a_mod_number, .inl (cI, 60, .inl mod_number)), (a_mod_value, .inl (cI, 60, .inl (upd mod_value x4.toNatClampNeg (2 : Int32)))), (a_mod_made, .inl (cI, 60, .inl mod_made)), (a_mod_to, .inl (cI, 240, .inl mod_to)), (a_mod_from, .inl (cI, 240, .inl mod_from)), (a_mod_negated, .inl (cZ, 240, .inl mod_negated)), (a_mod_settles, .inl (cZ, 4096, .inl mod_settles)), (a_mod_next, .inl (cI, 4096, .inl mod_next)), (a_mod_ones, .inl (cL, 4096, .inr (.inl mod_ones)))] H := hP
          have hD : va_D A [(h_mod, .inr (5, [.int mod_code, .int mod_gates, .int mod_feeds, .int mod_inputs, .int mod_latches, .int mod_outputs, .ref a_mod_sort, .ref a_mod_number, .ref a_mod_value, .ref a_mod_made, .ref a_mod_to, .ref a_mod_from, .ref a_mod_outputOf, .ref a_mod_negated, .int mod_explored, .ref a_mod_settles, .ref a_mod_next, .ref a_mod_ones, .ref a_mod_distance, .ref a_mod_apart, .ref a_mod_leads])), (a_mod_sort, .inl (cI, 60, .inl mod_sort)), (a_mod_number, .inl (cI, 60, .inl mod_number)), (a_mod_value, .inl (cI, 60, .inl (upd mod_value x4.toNatClampNeg (2 : Int32)))), (a_mod_made, .inl (cI, 60, .inl mod_made)), (a_mod_to, .inl (cI, 240, .inl mod_to)), (a_mod_from, .inl (cI, 240, .inl mod_from)), (a_mod_negated, .inl (cZ, 240, .inl mod_negated)), (a_mod_settles, .inl (cZ, 4096, .inl mod_settles)), (a_mod_next, .inl (cI, 4096, .inl mod_next)), (a_mod_ones, .inl (cL, 4096, .inr (.inl mod_ones)))] := hD
          refine lv_iinc (v := x4 + (1 : Int32)) (lv' := [(4, .int (x4 + (1 : Int32))), (0, .ref h_mod), (1, .int x1), (2, .int x2), (3, .int x3)]) hx hb dMod_work_76 hl (k := 4) rfl rfl (by decide) rfl (fun ls hl => ?_)
          refine lv_goto (tgt := 10) hx hb dMod_work_79 (by decide) ?_
          exact ih (x4 + (1 : Int32)) (upd mod_value x4.toNatClampNeg (2 : Int32)) r hm _ _ _ hP hD hS (lv_sub hl [1, 2, 3, 4, 0] rfl) k1
        · have hm := sx_pos c5 hm
          refine lv_iload_n hx hb dMod_work_60 rfl (lv_at hl 1 rfl) ?_
          refine lv_aload_n hx hb dMod_work_61 rfl (lv_at hl 0 rfl) ?_
          refine va_get (D := (dC, dI)) (ci := 5) (v := .ref a_mod_number) (C := RMod) (T := TMod) (N := 21) hx hb hts inMod hown hK hP 0 rfl rfl 7 (by decide) (hts _ tw_618) (fun _ h9 => h9) rfl dMod_work_62 ?_
          refine lv_iload hx hb dMod_work_65 (lv_at hl 4 rfl) ?_
          obtain ⟨g7, hm⟩ := gd_el hm
          refine va_iald hx hb hK hP 2 0 rfl rfl g7 dMod_work_67 ?_
          refine lv_ishr hx hb dMod_work_68 ?_
          refine lv_iconst (v := (1 : Int32)) hx hb dMod_work_69 (by decide) ?_
          refine lv_iand hx hb dMod_work_70 ?_
          refine lv_goto (tgt := 75) hx hb dMod_work_71 (by decide) ?_
          obtain ⟨g8, hm⟩ := gd_el hm
          refine va_iast hx hb hK hP hD hS 3 0 rfl rfl g8 dMod_work_75 (fun H locs hP hD hS => ?_)
          have hP : va_P (dC, dI) vwCl [(h_mod, .inr (5, [.int mod_code, .int mod_gates, .int mod_feeds, .int mod_inputs, .int mod_latches, .int mod_outputs, .ref a_mod_sort, .ref a_mod_number, .ref a_mod_value, .ref a_mod_made, .ref a_mod_to, .ref a_mod_from, .ref a_mod_outputOf, .ref a_mod_negated, .int mod_explored, .ref a_mod_settles, .ref a_mod_next, .ref a_mod_ones, .ref a_mod_distance, .ref a_mod_apart, .ref a_mod_leads])), (a_mod_sort, .inl (cI, 60, .inl mod_sort)), (a_mod_number, .inl (cI, 60, .inl mod_number)), (a_mod_value, .inl (cI, 60, .inl (upd mod_value x4.toNatClampNeg ((x1 >>> ((mod_number x4.toNatClampNeg) &&& 31)) &&& (1 : Int32))))), (a_mod_made, .inl (cI, 60, .inl mod_made)), (a_mod_to, .inl (cI, 240, .inl mod_to)), (a_mod_from, .inl (cI, 240, .inl mod_from)), (a_mod_negated, .inl (cZ, 240, .inl mod_negated)), (a_mod_settles, .inl (cZ, 4096, .inl mod_settles)), (a_mod_next, .inl (cI, 4096, .inl mod_next)), (a_mod_ones, .inl (cL, 4096, .inr (.inl mod_ones)))] H := hP
          have hD : va_D A [(h_mod, .inr (5, [.int mod_code, .int mod_gates, .int mod_feeds, .int mod_inputs, .int mod_latches, .int mod_outputs, .ref a_mod_sort, .ref a_mod_number, .ref a_mod_value, .ref a_mod_made, .ref a_mod_to, .ref a_mod_from, .ref a_mod_outputOf, .ref a_mod_negated, .int mod_explored, .ref a_mod_settles, .ref a_mod_next, .ref a_mod_ones, .ref a_mod_distance, .ref a_mod_apart, .ref a_mod_leads])), (a_mod_sort, .inl (cI, 60, .inl mod_sort)), (a_mod_number, .inl (cI, 60, .inl mod_number)), (a_mod_value, .inl (cI, 60, .inl (upd mod_value x4.toNatClampNeg ((x1 >>> ((mod_number x4.toNatClampNeg) &&& 31)) &&& (1 : Int32))))), (a_mod_made, .inl (cI, 60, .inl mod_made)), (a_mod_to, .inl (cI, 240, .inl mod_to)), (a_mod_from, .inl (cI, 240, .inl mod_from)), (a_mod_negated, .inl (cZ, 240, .inl mod_negated)), (a_mod_settles, .inl (cZ, 4096, .inl mod_settles)), (a_mod_next, .inl (cI, 4096, .inl mod_next)), (a_mod_ones, .inl (cL, 4096, .inr (.inl mod_ones)))] := hD
          refine lv_iinc (v := x4 + (1 : Int32)) (lv' := [(4, .int (x4 + (1 : Int32))), (0, .ref h_mod), (1, .int x1), (2, .int x2), (3, .int x3)]) hx hb dMod_work_76 hl (k := 4) rfl rfl (by decide) rfl (fun ls hl => ?_)
          refine lv_goto (tgt := 10) hx hb dMod_work_79 (by decide) ?_
          exact ih (x4 + (1 : Int32)) (upd mod_value x4.toNatClampNeg ((x1 >>> ((mod_number x4.toNatClampNeg) &&& 31)) &&& (1 : Int32))) r hm _ _ _ hP hD hS (lv_sub hl [1, 2, 3, 4, 0] rfl) k1
      · have hm := sx_pos c3 hm
        refine lv_iload_n hx hb dMod_work_35 rfl (lv_at hl 2 rfl) ?_
        refine lv_aload_n hx hb dMod_work_36 rfl (lv_at hl 0 rfl) ?_
        refine va_get (D := (dC, dI)) (ci := 5) (v := .ref a_mod_number) (C := RMod) (T := TMod) (N := 21) hx hb hts inMod hown hK hP 0 rfl rfl 7 (by decide) (hts _ tw_618) (fun _ h9 => h9) rfl dMod_work_37 ?_
        refine lv_iload hx hb dMod_work_40 (lv_at hl 4 rfl) ?_
        obtain ⟨g9, hm⟩ := gd_el hm
        refine va_iald hx hb hK hP 2 0 rfl rfl g9 dMod_work_42 ?_
        refine lv_ishr hx hb dMod_work_43 ?_
        refine lv_iconst (v := (1 : Int32)) hx hb dMod_work_44 (by decide) ?_
        refine lv_iand hx hb dMod_work_45 ?_
        refine lv_goto (tgt := 75) hx hb dMod_work_46 (by decide) ?_
        obtain ⟨g10, hm⟩ := gd_el hm
        refine va_iast hx hb hK hP hD hS 3 0 rfl rfl g10 dMod_work_75 (fun H locs hP hD hS => ?_)
        have hP : va_P (dC, dI) vwCl [(h_mod, .inr (5, [.int mod_code, .int mod_gates, .int mod_feeds, .int mod_inputs, .int mod_latches, .int mod_outputs, .ref a_mod_sort, .ref a_mod_number, .ref a_mod_value, .ref a_mod_made, .ref a_mod_to, .ref a_mod_from, .ref a_mod_outputOf, .ref a_mod_negated, .int mod_explored, .ref a_mod_settles, .ref a_mod_next, .ref a_mod_ones, .ref a_mod_distance, .ref a_mod_apart, .ref a_mod_leads])), (a_mod_sort, .inl (cI, 60, .inl mod_sort)), (a_mod_number, .inl (cI, 60, .inl mod_number)), (a_mod_value, .inl (cI, 60, .inl (upd mod_value x4.toNatClampNeg ((x2 >>> ((mod_number x4.toNatClampNeg) &&& 31)) &&& (1 : Int32))))), (a_mod_made, .inl (cI, 60, .inl mod_made)), (a_mod_to, .inl (cI, 240, .inl mod_to)), (a_mod_from, .inl (cI, 240, .inl mod_from)), (a_mod_negated, .inl (cZ, 240, .inl mod_negated)), (a_mod_settles, .inl (cZ, 4096, .inl mod_settles)), (a_mod_next, .inl (cI, 4096, .inl mod_next)), (a_mod_ones, .inl (cL, 4096, .inr (.inl mod_ones)))] H := hP
        have hD : va_D A [(h_mod, .inr (5, [.int mod_code, .int mod_gates, .int mod_feeds, .int mod_inputs, .int mod_latches, .int mod_outputs, .ref a_mod_sort, .ref a_mod_number, .ref a_mod_value, .ref a_mod_made, .ref a_mod_to, .ref a_mod_from, .ref a_mod_outputOf, .ref a_mod_negated, .int mod_explored, .ref a_mod_settles, .ref a_mod_next, .ref a_mod_ones, .ref a_mod_distance, .ref a_mod_apart, .ref a_mod_leads])), (a_mod_sort, .inl (cI, 60, .inl mod_sort)), (a_mod_number, .inl (cI, 60, .inl mod_number)), (a_mod_value, .inl (cI, 60, .inl (upd mod_value x4.toNatClampNeg ((x2 >>> ((mod_number x4.toNatClampNeg) &&& 31)) &&& (1 : Int32))))), (a_mod_made, .inl (cI, 60, .inl mod_made)), (a_mod_to, .inl (cI, 240, .inl mod_to)), (a_mod_from, .inl (cI, 240, .inl mod_from)), (a_mod_negated, .inl (cZ, 240, .inl mod_negated)), (a_mod_settles, .inl (cZ, 4096, .inl mod_settles)), (a_mod_next, .inl (cI, 4096, .inl mod_next)), (a_mod_ones, .inl (cL, 4096, .inr (.inl mod_ones)))] := hD
        refine lv_iinc (v := x4 + (1 : Int32)) (lv' := [(4, .int (x4 + (1 : Int32))), (0, .ref h_mod), (1, .int x1), (2, .int x2), (3, .int x3)]) hx hb dMod_work_76 hl (k := 4) rfl rfl (by decide) rfl (fun ls hl => ?_)
        refine lv_goto (tgt := 10) hx hb dMod_work_79 (by decide) ?_
        exact ih (x4 + (1 : Int32)) (upd mod_value x4.toNatClampNeg ((x2 >>> ((mod_number x4.toNatClampNeg) &&& 31)) &&& (1 : Int32))) r hm _ _ _ hP hD hS (lv_sub hl [1, 2, 3, 4, 0] rfl) k1
set_option maxHeartbeats 4000000 in
set_option maxRecDepth 100000 in
theorem w_Mod_work_85 {p : Program} {l : Launch} {e : Env} {s : State} {m : MethodId} {args : Array Value} {below : List Frame} {meth : Method} {c : Code} {dC : Nat → ClassId} {dI : Nat → Nat → Nat} {cI cL cZ : ClassId} {A : Nat → Prop} {Q : State → Prop} {t1 t2 : Nat} (C0 : sx_C p s m args meth c cMod_work 6 "StateExplorerModel" A (dC, dI) [(cI, .int), (cL, .long), (cZ, .boolean)] t1 t2) (h_mod a_mod_sort a_mod_number a_mod_value a_mod_made a_mod_to a_mod_from a_mod_outputOf a_mod_negated a_mod_settles a_mod_next a_mod_ones a_mod_distance a_mod_apart a_mod_leads : Nat) (mod_code mod_gates mod_feeds mod_inputs mod_latches mod_outputs : Int32) (mod_sort mod_number mod_to mod_from mod_negated : Nat → Int32) (mod_explored : Int32) (mod_settles mod_next : Nat → Int32) (mod_ones : Nat → Int64) (x1 : Int32) (x3 : Int32) :
    ∀ (n : Nat) (x4 : Int32) (mod_value mod_made : Nat → Int32) (r : (Nat → Int32) × (Nat → Int32)), L_Mod_work_85 mod_gates mod_feeds mod_sort mod_to mod_from mod_negated n x4 mod_value mod_made = some r → ∀ (H : Heap) (locs : List Loc) (ls : Array Slot), va_P (dC, dI) vwCl [(h_mod, .inr (5, [.int mod_code, .int mod_gates, .int mod_feeds, .int mod_inputs, .int mod_latches, .int mod_outputs, .ref a_mod_sort, .ref a_mod_number, .ref a_mod_value, .ref a_mod_made, .ref a_mod_to, .ref a_mod_from, .ref a_mod_outputOf, .ref a_mod_negated, .int mod_explored, .ref a_mod_settles, .ref a_mod_next, .ref a_mod_ones, .ref a_mod_distance, .ref a_mod_apart, .ref a_mod_leads])), (a_mod_sort, .inl (cI, 60, .inl mod_sort)), (a_mod_number, .inl (cI, 60, .inl mod_number)), (a_mod_value, .inl (cI, 60, .inl mod_value)), (a_mod_made, .inl (cI, 60, .inl mod_made)), (a_mod_to, .inl (cI, 240, .inl mod_to)), (a_mod_from, .inl (cI, 240, .inl mod_from)), (a_mod_negated, .inl (cZ, 240, .inl mod_negated)), (a_mod_settles, .inl (cZ, 4096, .inl mod_settles)), (a_mod_next, .inl (cI, 4096, .inl mod_next)), (a_mod_ones, .inl (cL, 4096, .inr (.inl mod_ones)))] H → va_D A [(h_mod, .inr (5, [.int mod_code, .int mod_gates, .int mod_feeds, .int mod_inputs, .int mod_latches, .int mod_outputs, .ref a_mod_sort, .ref a_mod_number, .ref a_mod_value, .ref a_mod_made, .ref a_mod_to, .ref a_mod_from, .ref a_mod_outputOf, .ref a_mod_negated, .int mod_explored, .ref a_mod_settles, .ref a_mod_next, .ref a_mod_ones, .ref a_mod_distance, .ref a_mod_apart, .ref a_mod_leads])), (a_mod_sort, .inl (cI, 60, .inl mod_sort)), (a_mod_number, .inl (cI, 60, .inl mod_number)), (a_mod_value, .inl (cI, 60, .inl mod_value)), (a_mod_made, .inl (cI, 60, .inl mod_made)), (a_mod_to, .inl (cI, 240, .inl mod_to)), (a_mod_from, .inl (cI, 240, .inl mod_from)), (a_mod_negated, .inl (cZ, 240, .inl mod_negated)), (a_mod_settles, .inl (cZ, 4096, .inl mod_settles)), (a_mod_next, .inl (cI, 4096, .inl mod_next)), (a_mod_ones, .inl (cL, 4096, .inr (.inl mod_ones)))] → va_S A s.heap H locs → lv_has ls 6 [(0, .ref h_mod), (1, .int x1), (3, .int x3), (4, .int x4)] →
    (∀ (H : Heap) (locs : List Loc) (ls : Array Slot), va_P (dC, dI) vwCl [(h_mod, .inr (5, [.int mod_code, .int mod_gates, .int mod_feeds, .int mod_inputs, .int mod_latches, .int mod_outputs, .ref a_mod_sort, .ref a_mod_number, .ref a_mod_value, .ref a_mod_made, .ref a_mod_to, .ref a_mod_from, .ref a_mod_outputOf, .ref a_mod_negated, .int mod_explored, .ref a_mod_settles, .ref a_mod_next, .ref a_mod_ones, .ref a_mod_distance, .ref a_mod_apart, .ref a_mod_leads])), (a_mod_sort, .inl (cI, 60, .inl mod_sort)), (a_mod_number, .inl (cI, 60, .inl mod_number)), (a_mod_value, .inl (cI, 60, .inl r.1)), (a_mod_made, .inl (cI, 60, .inl r.2)), (a_mod_to, .inl (cI, 240, .inl mod_to)), (a_mod_from, .inl (cI, 240, .inl mod_from)), (a_mod_negated, .inl (cZ, 240, .inl mod_negated)), (a_mod_settles, .inl (cZ, 4096, .inl mod_settles)), (a_mod_next, .inl (cI, 4096, .inl mod_next)), (a_mod_ones, .inl (cL, 4096, .inr (.inl mod_ones)))] H → va_D A [(h_mod, .inr (5, [.int mod_code, .int mod_gates, .int mod_feeds, .int mod_inputs, .int mod_latches, .int mod_outputs, .ref a_mod_sort, .ref a_mod_number, .ref a_mod_value, .ref a_mod_made, .ref a_mod_to, .ref a_mod_from, .ref a_mod_outputOf, .ref a_mod_negated, .int mod_explored, .ref a_mod_settles, .ref a_mod_next, .ref a_mod_ones, .ref a_mod_distance, .ref a_mod_apart, .ref a_mod_leads])), (a_mod_sort, .inl (cI, 60, .inl mod_sort)), (a_mod_number, .inl (cI, 60, .inl mod_number)), (a_mod_value, .inl (cI, 60, .inl r.1)), (a_mod_made, .inl (cI, 60, .inl r.2)), (a_mod_to, .inl (cI, 240, .inl mod_to)), (a_mod_from, .inl (cI, 240, .inl mod_from)), (a_mod_negated, .inl (cZ, 240, .inl mod_negated)), (a_mod_settles, .inl (cZ, 4096, .inl mod_settles)), (a_mod_next, .inl (cI, 4096, .inl mod_next)), (a_mod_ones, .inl (cL, 4096, .inr (.inl mod_ones)))] → va_S A s.heap H locs → lv_has ls 6 [(0, .ref h_mod), (1, .int x1), (3, .int x3)] → W p l e (headSpec wsMod_work rm_Mod_work).room s m args below meth c H locs 0 0 Q (F0 m 99 ls [])) →
    W p l e (headSpec wsMod_work rm_Mod_work).room s m args below meth c H locs 0 0 Q (F0 m 85 ls []) := by
  obtain ⟨hx, hb, hml, hown, hts, hA, hK, hlocks, hX⟩ := id C0
  intro n
  induction n with
  | zero => intro x4 mod_value mod_made r hm; rw [L_Mod_work_85] at hm; cases hm
  | succ n ih =>
    intro x4 mod_value mod_made r hm H locs ls hP hD hS hl k1
    rw [L_Mod_work_85] at hm
    refine lv_iload hx hb dMod_work_85 (lv_at hl 3 rfl) ?_
    refine lv_if_eq (tgt := 99) hx hb dMod_work_87 (by decide) (fun c12 => ?_) (fun c12 => ?_)
    · have hm := sx_pos c12 hm
      obtain rfl := Option.some.inj hm
      exact k1 _ _ _ hP hD hS (lv_sub hl [0, 1, 2] rfl)
    · have hm := sx_neg c12 hm
      refine lv_aload_n hx hb dMod_work_90 rfl (lv_at hl 0 rfl) ?_
      obtain ⟨v13, hv13, hm⟩ := sx_bind hm
      have hPc := hP.sub (ws' := [(h_mod, .inr (5, [.int mod_code, .int mod_gates, .int mod_feeds, .int mod_inputs, .int mod_latches, .int mod_outputs, .ref a_mod_sort, .ref a_mod_number, .ref a_mod_value, .ref a_mod_made, .ref a_mod_to, .ref a_mod_from, .ref a_mod_outputOf, .ref a_mod_negated, .int mod_explored, .ref a_mod_settles, .ref a_mod_next, .ref a_mod_ones, .ref a_mod_distance, .ref a_mod_apart, .ref a_mod_leads])), (a_mod_sort, .inl (cI, 60, .inl mod_sort)), (a_mod_value, .inl (cI, 60, .inl mod_value)), (a_mod_made, .inl (cI, 60, .inl mod_made)), (a_mod_to, .inl (cI, 240, .inl mod_to)), (a_mod_from, .inl (cI, 240, .inl mod_from)), (a_mod_negated, .inl (cZ, 240, .inl mod_negated))]) [0, 1, 3, 4, 5, 6, 7] rfl
      have hDc := hD.sub (ws' := [(h_mod, .inr (5, [.int mod_code, .int mod_gates, .int mod_feeds, .int mod_inputs, .int mod_latches, .int mod_outputs, .ref a_mod_sort, .ref a_mod_number, .ref a_mod_value, .ref a_mod_made, .ref a_mod_to, .ref a_mod_from, .ref a_mod_outputOf, .ref a_mod_negated, .int mod_explored, .ref a_mod_settles, .ref a_mod_next, .ref a_mod_ones, .ref a_mod_distance, .ref a_mod_apart, .ref a_mod_leads])), (a_mod_sort, .inl (cI, 60, .inl mod_sort)), (a_mod_value, .inl (cI, 60, .inl mod_value)), (a_mod_made, .inl (cI, 60, .inl mod_made)), (a_mod_to, .inl (cI, 240, .inl mod_to)), (a_mod_from, .inl (cI, 240, .inl mod_from)), (a_mod_negated, .inl (cZ, 240, .inl mod_negated))]) [0, 1, 3, 4, 5, 6, 7] (by decide) rfl
      have hFc := va_free (wc := [(h_mod, .inr (5, [.int mod_code, .int mod_gates, .int mod_feeds, .int mod_inputs, .int mod_latches, .int mod_outputs, .ref a_mod_sort, .ref a_mod_number, .ref a_mod_value, .ref a_mod_made, .ref a_mod_to, .ref a_mod_from, .ref a_mod_outputOf, .ref a_mod_negated, .int mod_explored, .ref a_mod_settles, .ref a_mod_next, .ref a_mod_ones, .ref a_mod_distance, .ref a_mod_apart, .ref a_mod_leads])), (a_mod_sort, .inl (cI, 60, .inl mod_sort)), (a_mod_value, .inl (cI, 60, .inl mod_value)), (a_mod_made, .inl (cI, 60, .inl mod_made)), (a_mod_to, .inl (cI, 240, .inl mod_to)), (a_mod_from, .inl (cI, 240, .inl mod_from)), (a_mod_negated, .inl (cZ, 240, .inl mod_negated))]) hD hS hA [0, 1, 3, 4, 5, 6, 7] rfl
      refine va_calli (va_runV (As := []) (rest := []) ⟨hx, hb, hml, hown, hts⟩ (k_Mod_again l dC dI cI cL cZ t1 t2 h_mod a_mod_sort a_mod_number a_mod_value a_mod_made a_mod_to a_mod_from a_mod_outputOf a_mod_negated a_mod_settles a_mod_next a_mod_ones a_mod_distance a_mod_apart a_mod_leads mod_code mod_gates mod_feeds mod_inputs mod_latches mod_outputs mod_sort mod_value mod_made mod_to mod_from mod_negated mod_explored _ v13 hv13) (cwV 0 hts (sx_gV tw_720 tw_722 tw_25 tw_41 tcMod_again) rfl rfl rfl (by decide +kernel) ⟨Nat.le_of_ble_eq_true rfl, Nat.le_of_ble_eq_true rfl⟩) (sx_pV hK hX hS hPc hDc hFc (va_recv hK hPc (ci := 5) (q0 := 0) rfl rfl)) rfl rfl hl.1 rfl (lv_room (Nat.le_of_ble_eq_true rfl)) dMod_work_91 ⟨Nat.le_of_ble_eq_true rfl, Nat.le_of_ble_eq_true rfl⟩) hS (fun q _ h => hFc q h) hFc (fun r14 u_ t_ H locs ht hvm hw hB hz1 hk1 hS => ?_)
      obtain ⟨hP1, -, hD1⟩ := hB
      rw [ht] at hP1
      obtain ⟨hP, hD⟩ := va_join (wr := [(a_mod_number, .inl (cI, 60, .inl mod_number)), (a_mod_settles, .inl (cZ, 4096, .inl mod_settles)), (a_mod_next, .inl (cI, 4096, .inl mod_next)), (a_mod_ones, .inl (cL, 4096, .inr (.inl mod_ones)))]) (w1 := [(h_mod, .inr (5, [.int mod_code, .int mod_gates, .int mod_feeds, .int mod_inputs, .int mod_latches, .int mod_outputs, .ref a_mod_sort, .ref a_mod_number, .ref a_mod_value, .ref a_mod_made, .ref a_mod_to, .ref a_mod_from, .ref a_mod_outputOf, .ref a_mod_negated, .int mod_explored, .ref a_mod_settles, .ref a_mod_next, .ref a_mod_ones, .ref a_mod_distance, .ref a_mod_apart, .ref a_mod_leads])), (a_mod_sort, .inl (cI, 60, .inl mod_sort)), (a_mod_value, .inl (cI, 60, .inl v13.2.1)), (a_mod_made, .inl (cI, 60, .inl v13.2.2)), (a_mod_to, .inl (cI, 240, .inl mod_to)), (a_mod_from, .inl (cI, 240, .inl mod_from)), (a_mod_negated, .inl (cZ, 240, .inl mod_negated))]) hP hD [0, 1, 3, 4, 5, 6, 7] [2, 8, 9, 10] rfl rfl (by decide) (by decide) hk1 hFc hP1 hD1
      have hP : va_P (dC, dI) vwCl [(a_mod_number, .inl (cI, 60, .inl mod_number)), (a_mod_settles, .inl (cZ, 4096, .inl mod_settles)), (a_mod_next, .inl (cI, 4096, .inl mod_next)), (a_mod_ones, .inl (cL, 4096, .inr (.inl mod_ones))), (h_mod, .inr (5, [.int mod_code, .int mod_gates, .int mod_feeds, .int mod_inputs, .int mod_latches, .int mod_outputs, .ref a_mod_sort, .ref a_mod_number, .ref a_mod_value, .ref a_mod_made, .ref a_mod_to, .ref a_mod_from, .ref a_mod_outputOf, .ref a_mod_negated, .int mod_explored, .ref a_mod_settles, .ref a_mod_next, .ref a_mod_ones, .ref a_mod_distance, .ref a_mod_apart, .ref a_mod_leads])), (a_mod_sort, .inl (cI, 60, .inl mod_sort)), (a_mod_value, .inl (cI, 60, .inl v13.2.1)), (a_mod_made, .inl (cI, 60, .inl v13.2.2)), (a_mod_to, .inl (cI, 240, .inl mod_to)), (a_mod_from, .inl (cI, 240, .inl mod_from)), (a_mod_negated, .inl (cZ, 240, .inl mod_negated))] H := hP
      have hD : va_D A [(a_mod_number, .inl (cI, 60, .inl mod_number)), (a_mod_settles, .inl (cZ, 4096, .inl mod_settles)), (a_mod_next, .inl (cI, 4096, .inl mod_next)), (a_mod_ones, .inl (cL, 4096, .inr (.inl mod_ones))), (h_mod, .inr (5, [.int mod_code, .int mod_gates, .int mod_feeds, .int mod_inputs, .int mod_latches, .int mod_outputs, .ref a_mod_sort, .ref a_mod_number, .ref a_mod_value, .ref a_mod_made, .ref a_mod_to, .ref a_mod_from, .ref a_mod_outputOf, .ref a_mod_negated, .int mod_explored, .ref a_mod_settles, .ref a_mod_next, .ref a_mod_ones, .ref a_mod_distance, .ref a_mod_apart, .ref a_mod_leads])), (a_mod_sort, .inl (cI, 60, .inl mod_sort)), (a_mod_value, .inl (cI, 60, .inl v13.2.1)), (a_mod_made, .inl (cI, 60, .inl v13.2.2)), (a_mod_to, .inl (cI, 240, .inl mod_to)), (a_mod_from, .inl (cI, 240, .inl mod_from)), (a_mod_negated, .inl (cZ, 240, .inl mod_negated))] := hD
      have hw9 := hw.symm
      subst hw9
      refine lv_istore (lv' := [(4, .int v13.1), (0, .ref h_mod), (1, .int x1), (3, .int x3)]) hx hb dMod_work_94 hl (by decide) rfl (fun ls hl => ?_)
      refine lv_goto (tgt := 85) hx hb dMod_work_96 (by decide) ?_
      exact ih v13.1 v13.2.1 v13.2.2 r hm _ _ _ (hP.sub (ws' := [(h_mod, .inr (5, [.int mod_code, .int mod_gates, .int mod_feeds, .int mod_inputs, .int mod_latches, .int mod_outputs, .ref a_mod_sort, .ref a_mod_number, .ref a_mod_value, .ref a_mod_made, .ref a_mod_to, .ref a_mod_from, .ref a_mod_outputOf, .ref a_mod_negated, .int mod_explored, .ref a_mod_settles, .ref a_mod_next, .ref a_mod_ones, .ref a_mod_distance, .ref a_mod_apart, .ref a_mod_leads])), (a_mod_sort, .inl (cI, 60, .inl mod_sort)), (a_mod_number, .inl (cI, 60, .inl mod_number)), (a_mod_value, .inl (cI, 60, .inl v13.2.1)), (a_mod_made, .inl (cI, 60, .inl v13.2.2)), (a_mod_to, .inl (cI, 240, .inl mod_to)), (a_mod_from, .inl (cI, 240, .inl mod_from)), (a_mod_negated, .inl (cZ, 240, .inl mod_negated)), (a_mod_settles, .inl (cZ, 4096, .inl mod_settles)), (a_mod_next, .inl (cI, 4096, .inl mod_next)), (a_mod_ones, .inl (cL, 4096, .inr (.inl mod_ones)))]) [4, 5, 0, 6, 7, 8, 9, 10, 1, 2, 3] rfl) (hD.sub (ws' := [(h_mod, .inr (5, [.int mod_code, .int mod_gates, .int mod_feeds, .int mod_inputs, .int mod_latches, .int mod_outputs, .ref a_mod_sort, .ref a_mod_number, .ref a_mod_value, .ref a_mod_made, .ref a_mod_to, .ref a_mod_from, .ref a_mod_outputOf, .ref a_mod_negated, .int mod_explored, .ref a_mod_settles, .ref a_mod_next, .ref a_mod_ones, .ref a_mod_distance, .ref a_mod_apart, .ref a_mod_leads])), (a_mod_sort, .inl (cI, 60, .inl mod_sort)), (a_mod_number, .inl (cI, 60, .inl mod_number)), (a_mod_value, .inl (cI, 60, .inl v13.2.1)), (a_mod_made, .inl (cI, 60, .inl v13.2.2)), (a_mod_to, .inl (cI, 240, .inl mod_to)), (a_mod_from, .inl (cI, 240, .inl mod_from)), (a_mod_negated, .inl (cZ, 240, .inl mod_negated)), (a_mod_settles, .inl (cZ, 4096, .inl mod_settles)), (a_mod_next, .inl (cI, 4096, .inl mod_next)), (a_mod_ones, .inl (cL, 4096, .inr (.inl mod_ones)))]) [4, 5, 0, 6, 7, 8, 9, 10, 1, 2, 3] (by decide) rfl) hS (lv_sub hl [1, 2, 3, 0] rfl) k1
set_option maxHeartbeats 4000000 in
set_option maxRecDepth 100000 in
theorem w_Mod_work_116 {p : Program} {l : Launch} {e : Env} {s : State} {m : MethodId} {args : Array Value} {below : List Frame} {meth : Method} {c : Code} {dC : Nat → ClassId} {dI : Nat → Nat → Nat} {cI cL cZ : ClassId} {A : Nat → Prop} {Q : State → Prop} {t1 t2 : Nat} (C0 : sx_C p s m args meth c cMod_work 6 "StateExplorerModel" A (dC, dI) [(cI, .int), (cL, .long), (cZ, .boolean)] t1 t2) (h_mod a_mod_sort a_mod_number a_mod_value a_mod_made a_mod_to a_mod_from a_mod_outputOf a_mod_negated a_mod_settles a_mod_next a_mod_ones a_mod_distance a_mod_apart a_mod_leads : Nat) (mod_code mod_gates mod_feeds mod_inputs mod_latches mod_outputs : Int32) (mod_sort mod_number mod_value mod_made mod_to mod_from mod_negated : Nat → Int32) (mod_explored : Int32) (mod_next : Nat → Int32) (x1 : Int32) (x3 : Int32) :
    ∀ (n : Nat) (x5 : Int32) (mod_settles : Nat → Int32) (mod_ones : Nat → Int64) (r : (Nat → Int32) × (Nat → Int64)), L_Mod_work_116 mod_gates mod_value x3 n x5 mod_settles mod_ones = some r → ∀ (H : Heap) (locs : List Loc) (ls : Array Slot), va_P (dC, dI) vwCl [(h_mod, .inr (5, [.int mod_code, .int mod_gates, .int mod_feeds, .int mod_inputs, .int mod_latches, .int mod_outputs, .ref a_mod_sort, .ref a_mod_number, .ref a_mod_value, .ref a_mod_made, .ref a_mod_to, .ref a_mod_from, .ref a_mod_outputOf, .ref a_mod_negated, .int mod_explored, .ref a_mod_settles, .ref a_mod_next, .ref a_mod_ones, .ref a_mod_distance, .ref a_mod_apart, .ref a_mod_leads])), (a_mod_sort, .inl (cI, 60, .inl mod_sort)), (a_mod_number, .inl (cI, 60, .inl mod_number)), (a_mod_value, .inl (cI, 60, .inl mod_value)), (a_mod_made, .inl (cI, 60, .inl mod_made)), (a_mod_to, .inl (cI, 240, .inl mod_to)), (a_mod_from, .inl (cI, 240, .inl mod_from)), (a_mod_negated, .inl (cZ, 240, .inl mod_negated)), (a_mod_settles, .inl (cZ, 4096, .inl mod_settles)), (a_mod_next, .inl (cI, 4096, .inl mod_next)), (a_mod_ones, .inl (cL, 4096, .inr (.inl mod_ones)))] H → va_D A [(h_mod, .inr (5, [.int mod_code, .int mod_gates, .int mod_feeds, .int mod_inputs, .int mod_latches, .int mod_outputs, .ref a_mod_sort, .ref a_mod_number, .ref a_mod_value, .ref a_mod_made, .ref a_mod_to, .ref a_mod_from, .ref a_mod_outputOf, .ref a_mod_negated, .int mod_explored, .ref a_mod_settles, .ref a_mod_next, .ref a_mod_ones, .ref a_mod_distance, .ref a_mod_apart, .ref a_mod_leads])), (a_mod_sort, .inl (cI, 60, .inl mod_sort)), (a_mod_number, .inl (cI, 60, .inl mod_number)), (a_mod_value, .inl (cI, 60, .inl mod_value)), (a_mod_made, .inl (cI, 60, .inl mod_made)), (a_mod_to, .inl (cI, 240, .inl mod_to)), (a_mod_from, .inl (cI, 240, .inl mod_from)), (a_mod_negated, .inl (cZ, 240, .inl mod_negated)), (a_mod_settles, .inl (cZ, 4096, .inl mod_settles)), (a_mod_next, .inl (cI, 4096, .inl mod_next)), (a_mod_ones, .inl (cL, 4096, .inr (.inl mod_ones)))] → va_S A s.heap H locs → lv_has ls 6 [(0, .ref h_mod), (1, .int x1), (3, .int x3), (5, .int x5)] →
    (∀ (H : Heap) (locs : List Loc) (ls : Array Slot), va_P (dC, dI) vwCl [(h_mod, .inr (5, [.int mod_code, .int mod_gates, .int mod_feeds, .int mod_inputs, .int mod_latches, .int mod_outputs, .ref a_mod_sort, .ref a_mod_number, .ref a_mod_value, .ref a_mod_made, .ref a_mod_to, .ref a_mod_from, .ref a_mod_outputOf, .ref a_mod_negated, .int mod_explored, .ref a_mod_settles, .ref a_mod_next, .ref a_mod_ones, .ref a_mod_distance, .ref a_mod_apart, .ref a_mod_leads])), (a_mod_sort, .inl (cI, 60, .inl mod_sort)), (a_mod_number, .inl (cI, 60, .inl mod_number)), (a_mod_value, .inl (cI, 60, .inl mod_value)), (a_mod_made, .inl (cI, 60, .inl mod_made)), (a_mod_to, .inl (cI, 240, .inl mod_to)), (a_mod_from, .inl (cI, 240, .inl mod_from)), (a_mod_negated, .inl (cZ, 240, .inl mod_negated)), (a_mod_settles, .inl (cZ, 4096, .inl r.1)), (a_mod_next, .inl (cI, 4096, .inl mod_next)), (a_mod_ones, .inl (cL, 4096, .inr (.inl r.2)))] H → va_D A [(h_mod, .inr (5, [.int mod_code, .int mod_gates, .int mod_feeds, .int mod_inputs, .int mod_latches, .int mod_outputs, .ref a_mod_sort, .ref a_mod_number, .ref a_mod_value, .ref a_mod_made, .ref a_mod_to, .ref a_mod_from, .ref a_mod_outputOf, .ref a_mod_negated, .int mod_explored, .ref a_mod_settles, .ref a_mod_next, .ref a_mod_ones, .ref a_mod_distance, .ref a_mod_apart, .ref a_mod_leads])), (a_mod_sort, .inl (cI, 60, .inl mod_sort)), (a_mod_number, .inl (cI, 60, .inl mod_number)), (a_mod_value, .inl (cI, 60, .inl mod_value)), (a_mod_made, .inl (cI, 60, .inl mod_made)), (a_mod_to, .inl (cI, 240, .inl mod_to)), (a_mod_from, .inl (cI, 240, .inl mod_from)), (a_mod_negated, .inl (cZ, 240, .inl mod_negated)), (a_mod_settles, .inl (cZ, 4096, .inl r.1)), (a_mod_next, .inl (cI, 4096, .inl mod_next)), (a_mod_ones, .inl (cL, 4096, .inr (.inl r.2)))] → va_S A s.heap H locs → lv_has ls 6 [(0, .ref h_mod), (1, .int x1), (3, .int x3)] → W p l e (headSpec wsMod_work rm_Mod_work).room s m args below meth c H locs 0 0 Q (F0 m 199 ls [])) →
    W p l e (headSpec wsMod_work rm_Mod_work).room s m args below meth c H locs 0 0 Q (F0 m 116 ls []) := by
  obtain ⟨hx, hb, hml, hown, hts, hA, hK, hlocks, hX⟩ := id C0
  intro n
  induction n with
  | zero => intro x5 mod_settles mod_ones r hm; rw [L_Mod_work_116] at hm; cases hm
  | succ n ih =>
    intro x5 mod_settles mod_ones r hm H locs ls hP hD hS hl k1
    rw [L_Mod_work_116] at hm
    refine lv_iload hx hb dMod_work_116 (lv_at hl 3 rfl) ?_
    refine lv_aload_n hx hb dMod_work_118 rfl (lv_at hl 0 rfl) ?_
    refine va_get (D := (dC, dI)) (ci := 5) (v := .int mod_gates) (C := RMod) (T := TMod) (N := 21) hx hb hts inMod hown hK hP 0 rfl rfl 1 (by decide) (hts _ tw_612) (fun _ h9 => h9) rfl dMod_work_119 ?_
    refine lv_icmp_ge (tgt := 199) hx hb dMod_work_122 (by decide) (fun c18 => ?_) (fun c18 => ?_)
    · have hm := sx_pos c18 hm
      obtain rfl := Option.some.inj hm
      exact k1 _ _ _ hP hD hS (lv_sub hl [0, 1, 2] rfl)
    · have hm := sx_neg c18 hm
      refine lv_aload_n hx hb dMod_work_125 rfl (lv_at hl 0 rfl) ?_
      refine va_get (D := (dC, dI)) (ci := 5) (v := .ref a_mod_settles) (C := RMod) (T := TMod) (N := 21) hx hb hts inMod hown hK hP 0 rfl rfl 15 (by decide) (hts _ tw_626) (fun _ h9 => h9) rfl dMod_work_126 ?_
      refine lv_iload_n hx hb dMod_work_129 rfl (lv_at hl 2 rfl) ?_
      refine lv_aload_n hx hb dMod_work_130 rfl (lv_at hl 0 rfl) ?_
      refine va_get (D := (dC, dI)) (ci := 5) (v := .ref a_mod_settles) (C := RMod) (T := TMod) (N := 21) hx hb hts inMod hown hK hP 0 rfl rfl 15 (by decide) (hts _ tw_626) (fun _ h9 => h9) rfl dMod_work_131 ?_
      refine lv_iload_n hx hb dMod_work_134 rfl (lv_at hl 2 rfl) ?_
      obtain ⟨g19, hm⟩ := gd_el hm
      refine va_zald hx hb hK hP 8 2 rfl rfl g19 dMod_work_135 ?_
      obtain ⟨J20, hJ20, hm⟩ := sx_lj hm
      have jJ20 : ∀ (z0J20 : Int32) (z1J20 : Int32), J20 z0J20 z1J20 = some r → ∀ (ls : Array Slot), lv_has ls 6 [(0, .ref h_mod), (1, .int x1), (3, .int x3), (5, .int x5)] → W p l e (headSpec wsMod_work rm_Mod_work).room s m args below meth c H locs 0 0 Q (F0 m 155 ls [.int z0J20, .int z1J20, .ref a_mod_settles]) := by
        intro z0J20 z1J20 hm ls hl
        rw [hJ20] at hm
        dsimp only at hm
        obtain ⟨g21, hm⟩ := gd_el hm
        refine va_zast hx hb hK hP hD hS 8 2 rfl rfl g21 dMod_work_155 (fun H locs hP hD hS => ?_)
        have hP : va_P (dC, dI) vwCl [(h_mod, .inr (5, [.int mod_code, .int mod_gates, .int mod_feeds, .int mod_inputs, .int mod_latches, .int mod_outputs, .ref a_mod_sort, .ref a_mod_number, .ref a_mod_value, .ref a_mod_made, .ref a_mod_to, .ref a_mod_from, .ref a_mod_outputOf, .ref a_mod_negated, .int mod_explored, .ref a_mod_settles, .ref a_mod_next, .ref a_mod_ones, .ref a_mod_distance, .ref a_mod_apart, .ref a_mod_leads])), (a_mod_sort, .inl (cI, 60, .inl mod_sort)), (a_mod_number, .inl (cI, 60, .inl mod_number)), (a_mod_value, .inl (cI, 60, .inl mod_value)), (a_mod_made, .inl (cI, 60, .inl mod_made)), (a_mod_to, .inl (cI, 240, .inl mod_to)), (a_mod_from, .inl (cI, 240, .inl mod_from)), (a_mod_negated, .inl (cZ, 240, .inl mod_negated)), (a_mod_settles, .inl (cZ, 4096, .inl (upd mod_settles z1J20.toNatClampNeg (vp_nar .boolean z0J20)))), (a_mod_next, .inl (cI, 4096, .inl mod_next)), (a_mod_ones, .inl (cL, 4096, .inr (.inl mod_ones)))] H := hP
        have hD : va_D A [(h_mod, .inr (5, [.int mod_code, .int mod_gates, .int mod_feeds, .int mod_inputs, .int mod_latches, .int mod_outputs, .ref a_mod_sort, .ref a_mod_number, .ref a_mod_value, .ref a_mod_made, .ref a_mod_to, .ref a_mod_from, .ref a_mod_outputOf, .ref a_mod_negated, .int mod_explored, .ref a_mod_settles, .ref a_mod_next, .ref a_mod_ones, .ref a_mod_distance, .ref a_mod_apart, .ref a_mod_leads])), (a_mod_sort, .inl (cI, 60, .inl mod_sort)), (a_mod_number, .inl (cI, 60, .inl mod_number)), (a_mod_value, .inl (cI, 60, .inl mod_value)), (a_mod_made, .inl (cI, 60, .inl mod_made)), (a_mod_to, .inl (cI, 240, .inl mod_to)), (a_mod_from, .inl (cI, 240, .inl mod_from)), (a_mod_negated, .inl (cZ, 240, .inl mod_negated)), (a_mod_settles, .inl (cZ, 4096, .inl (upd mod_settles z1J20.toNatClampNeg (vp_nar .boolean z0J20)))), (a_mod_next, .inl (cI, 4096, .inl mod_next)), (a_mod_ones, .inl (cL, 4096, .inr (.inl mod_ones)))] := hD
        refine lv_aload_n hx hb dMod_work_156 rfl (lv_at hl 0 rfl) ?_
        refine va_get (D := (dC, dI)) (ci := 5) (v := .ref a_mod_ones) (C := RMod) (T := TMod) (N := 21) hx hb hts inMod hown hK hP 0 rfl rfl 17 (by decide) (hts _ tw_628) (fun _ h9 => h9) rfl dMod_work_157 ?_
        refine lv_iload_n hx hb dMod_work_160 rfl (lv_at hl 2 rfl) ?_
        refine lv_aload_n hx hb dMod_work_161 rfl (lv_at hl 0 rfl) ?_
        refine va_get (D := (dC, dI)) (ci := 5) (v := .ref a_mod_value) (C := RMod) (T := TMod) (N := 21) hx hb hts inMod hown hK hP 0 rfl rfl 8 (by decide) (hts _ tw_619) (fun _ h9 => h9) rfl dMod_work_162 ?_
        refine lv_iload hx hb dMod_work_165 (lv_at hl 3 rfl) ?_
        obtain ⟨g22, hm⟩ := gd_el hm
        refine va_iald hx hb hK hP 3 0 rfl rfl g22 dMod_work_167 ?_
        refine lv_iconst (v := (1 : Int32)) hx hb dMod_work_168 (by decide) ?_
        refine lv_icmp_ne (tgt := 186) hx hb dMod_work_169 (by decide) (fun c23 => ?_) (fun c23 => ?_)
        · have hm := sx_neg c23 hm
          refine lv_aload_n hx hb dMod_work_186 rfl (lv_at hl 0 rfl) ?_
          refine va_get (D := (dC, dI)) (ci := 5) (v := .ref a_mod_ones) (C := RMod) (T := TMod) (N := 21) hx hb hts inMod hown hK hP 0 rfl rfl 17 (by decide) (hts _ tw_628) (fun _ h9 => h9) rfl dMod_work_187 ?_
          refine lv_iload_n hx hb dMod_work_190 rfl (lv_at hl 2 rfl) ?_
          obtain ⟨g24, hm⟩ := gd_el hm
          refine va_lald hx hb hK hP 10 1 rfl rfl g24 dMod_work_191 ?_
          obtain ⟨g25, hm⟩ := gd_el hm
          refine va_last hx hb hK hP hD hS 10 1 rfl rfl g25 dMod_work_192 (fun H locs hP hD hS => ?_)
          have hP : va_P (dC, dI) vwCl [(h_mod, .inr (5, [.int mod_code, .int mod_gates, .int mod_feeds, .int mod_inputs, .int mod_latches, .int mod_outputs, .ref a_mod_sort, .ref a_mod_number, .ref a_mod_value, .ref a_mod_made, .ref a_mod_to, .ref a_mod_from, .ref a_mod_outputOf, .ref a_mod_negated, .int mod_explored, .ref a_mod_settles, .ref a_mod_next, .ref a_mod_ones, .ref a_mod_distance, .ref a_mod_apart, .ref a_mod_leads])), (a_mod_sort, .inl (cI, 60, .inl mod_sort)), (a_mod_number, .inl (cI, 60, .inl mod_number)), (a_mod_value, .inl (cI, 60, .inl mod_value)), (a_mod_made, .inl (cI, 60, .inl mod_made)), (a_mod_to, .inl (cI, 240, .inl mod_to)), (a_mod_from, .inl (cI, 240, .inl mod_from)), (a_mod_negated, .inl (cZ, 240, .inl mod_negated)), (a_mod_settles, .inl (cZ, 4096, .inl (upd mod_settles z1J20.toNatClampNeg (vp_nar .boolean z0J20)))), (a_mod_next, .inl (cI, 4096, .inl mod_next)), (a_mod_ones, .inl (cL, 4096, .inr (.inl (vp_updL mod_ones x3.toNatClampNeg (mod_ones x3.toNatClampNeg)))))] H := hP
          have hD : va_D A [(h_mod, .inr (5, [.int mod_code, .int mod_gates, .int mod_feeds, .int mod_inputs, .int mod_latches, .int mod_outputs, .ref a_mod_sort, .ref a_mod_number, .ref a_mod_value, .ref a_mod_made, .ref a_mod_to, .ref a_mod_from, .ref a_mod_outputOf, .ref a_mod_negated, .int mod_explored, .ref a_mod_settles, .ref a_mod_next, .ref a_mod_ones, .ref a_mod_distance, .ref a_mod_apart, .ref a_mod_leads])), (a_mod_sort, .inl (cI, 60, .inl mod_sort)), (a_mod_number, .inl (cI, 60, .inl mod_number)), (a_mod_value, .inl (cI, 60, .inl mod_value)), (a_mod_made, .inl (cI, 60, .inl mod_made)), (a_mod_to, .inl (cI, 240, .inl mod_to)), (a_mod_from, .inl (cI, 240, .inl mod_from)), (a_mod_negated, .inl (cZ, 240, .inl mod_negated)), (a_mod_settles, .inl (cZ, 4096, .inl (upd mod_settles z1J20.toNatClampNeg (vp_nar .boolean z0J20)))), (a_mod_next, .inl (cI, 4096, .inl mod_next)), (a_mod_ones, .inl (cL, 4096, .inr (.inl (vp_updL mod_ones x3.toNatClampNeg (mod_ones x3.toNatClampNeg)))))] := hD
          refine lv_iinc (v := x5 + (1 : Int32)) (lv' := [(5, .int (x5 + (1 : Int32))), (0, .ref h_mod), (1, .int x1), (3, .int x3)]) hx hb dMod_work_193 hl (k := 3) rfl rfl (by decide) rfl (fun ls hl => ?_)
          refine lv_goto (tgt := 116) hx hb dMod_work_196 (by decide) ?_
          exact ih (x5 + (1 : Int32)) (upd mod_settles z1J20.toNatClampNeg (vp_nar .boolean z0J20)) (vp_updL mod_ones x3.toNatClampNeg (mod_ones x3.toNatClampNeg)) r hm _ _ _ hP hD hS (lv_sub hl [1, 2, 3, 0] rfl) k1
        · have hm := sx_pos c23 hm
          refine lv_aload_n hx hb dMod_work_172 rfl (lv_at hl 0 rfl) ?_
          refine va_get (D := (dC, dI)) (ci := 5) (v := .ref a_mod_ones) (C := RMod) (T := TMod) (N := 21) hx hb hts inMod hown hK hP 0 rfl rfl 17 (by decide) (hts _ tw_628) (fun _ h9 => h9) rfl dMod_work_173 ?_
          refine lv_iload_n hx hb dMod_work_176 rfl (lv_at hl 2 rfl) ?_
          obtain ⟨g26, hm⟩ := gd_el hm
          refine va_lald hx hb hK hP 10 1 rfl rfl g26 dMod_work_177 ?_
          refine lv_lconst (v := (1 : Int64)) hx hb dMod_work_178 (by decide) ?_
          refine lv_iload hx hb dMod_work_179 (lv_at hl 3 rfl) ?_
          refine lv_lshl hx hb dMod_work_181 rfl ?_
          refine lv_lor hx hb dMod_work_182 ?_
          refine lv_goto (tgt := 192) hx hb dMod_work_183 (by decide) ?_
          obtain ⟨g27, hm⟩ := gd_el hm
          refine va_last hx hb hK hP hD hS 10 1 rfl rfl g27 dMod_work_192 (fun H locs hP hD hS => ?_)
          have hP : va_P (dC, dI) vwCl [(h_mod, .inr (5, [.int mod_code, .int mod_gates, .int mod_feeds, .int mod_inputs, .int mod_latches, .int mod_outputs, .ref a_mod_sort, .ref a_mod_number, .ref a_mod_value, .ref a_mod_made, .ref a_mod_to, .ref a_mod_from, .ref a_mod_outputOf, .ref a_mod_negated, .int mod_explored, .ref a_mod_settles, .ref a_mod_next, .ref a_mod_ones, .ref a_mod_distance, .ref a_mod_apart, .ref a_mod_leads])), (a_mod_sort, .inl (cI, 60, .inl mod_sort)), (a_mod_number, .inl (cI, 60, .inl mod_number)), (a_mod_value, .inl (cI, 60, .inl mod_value)), (a_mod_made, .inl (cI, 60, .inl mod_made)), (a_mod_to, .inl (cI, 240, .inl mod_to)), (a_mod_from, .inl (cI, 240, .inl mod_from)), (a_mod_negated, .inl (cZ, 240, .inl mod_negated)), (a_mod_settles, .inl (cZ, 4096, .inl (upd mod_settles z1J20.toNatClampNeg (vp_nar .boolean z0J20)))), (a_mod_next, .inl (cI, 4096, .inl mod_next)), (a_mod_ones, .inl (cL, 4096, .inr (.inl (vp_updL mod_ones x3.toNatClampNeg ((mod_ones x3.toNatClampNeg) ||| ((1 : Int64) <<< (x5.toInt64 &&& 63)))))))] H := hP
          have hD : va_D A [(h_mod, .inr (5, [.int mod_code, .int mod_gates, .int mod_feeds, .int mod_inputs, .int mod_latches, .int mod_outputs, .ref a_mod_sort, .ref a_mod_number, .ref a_mod_value, .ref a_mod_made, .ref a_mod_to, .ref a_mod_from, .ref a_mod_outputOf, .ref a_mod_negated, .int mod_explored, .ref a_mod_settles, .ref a_mod_next, .ref a_mod_ones, .ref a_mod_distance, .ref a_mod_apart, .ref a_mod_leads])), (a_mod_sort, .inl (cI, 60, .inl mod_sort)), (a_mod_number, .inl (cI, 60, .inl mod_number)), (a_mod_value, .inl (cI, 60, .inl mod_value)), (a_mod_made, .inl (cI, 60, .inl mod_made)), (a_mod_to, .inl (cI, 240, .inl mod_to)), (a_mod_from, .inl (cI, 240, .inl mod_from)), (a_mod_negated, .inl (cZ, 240, .inl mod_negated)), (a_mod_settles, .inl (cZ, 4096, .inl (upd mod_settles z1J20.toNatClampNeg (vp_nar .boolean z0J20)))), (a_mod_next, .inl (cI, 4096, .inl mod_next)), (a_mod_ones, .inl (cL, 4096, .inr (.inl (vp_updL mod_ones x3.toNatClampNeg ((mod_ones x3.toNatClampNeg) ||| ((1 : Int64) <<< (x5.toInt64 &&& 63)))))))] := hD
          refine lv_iinc (v := x5 + (1 : Int32)) (lv' := [(5, .int (x5 + (1 : Int32))), (0, .ref h_mod), (1, .int x1), (3, .int x3)]) hx hb dMod_work_193 hl (k := 3) rfl rfl (by decide) rfl (fun ls hl => ?_)
          refine lv_goto (tgt := 116) hx hb dMod_work_196 (by decide) ?_
          exact ih (x5 + (1 : Int32)) (upd mod_settles z1J20.toNatClampNeg (vp_nar .boolean z0J20)) (vp_updL mod_ones x3.toNatClampNeg ((mod_ones x3.toNatClampNeg) ||| ((1 : Int64) <<< (x5.toInt64 &&& 63)))) r hm _ _ _ hP hD hS (lv_sub hl [1, 2, 3, 0] rfl) k1
      obtain ⟨J28, hJ28, hm⟩ := sx_lj hm
      have jJ28 : ∀ (z0J28 : Int32), J28 z0J28 = some r → ∀ (ls : Array Slot), lv_has ls 6 [(0, .ref h_mod), (1, .int x1), (3, .int x3), (5, .int x5)] → W p l e (headSpec wsMod_work rm_Mod_work).room s m args below meth c H locs 0 0 Q (F0 m 154 ls [.int z0J28, .ref a_mod_settles]) := by
        intro z0J28 hm ls hl
        rw [hJ28] at hm
        dsimp only at hm
        refine lv_iconst (v := (0 : Int32)) hx hb dMod_work_154 (by decide) ?_
        exact jJ20 (0 : Int32) z0J28 hm _ (hl)
      refine lv_if_eq (tgt := 154) hx hb dMod_work_136 (by decide) (fun c29 => ?_) (fun c29 => ?_)
      · have hm := sx_pos c29 hm
        exact jJ28 x3 hm _ (hl)
      · have hm := sx_neg c29 hm
        refine lv_aload_n hx hb dMod_work_139 rfl (lv_at hl 0 rfl) ?_
        refine va_get (D := (dC, dI)) (ci := 5) (v := .ref a_mod_value) (C := RMod) (T := TMod) (N := 21) hx hb hts inMod hown hK hP 0 rfl rfl 8 (by decide) (hts _ tw_619) (fun _ h9 => h9) rfl dMod_work_140 ?_
        refine lv_iload hx hb dMod_work_143 (lv_at hl 3 rfl) ?_
        obtain ⟨g30, hm⟩ := gd_el hm
        refine va_iald hx hb hK hP 3 0 rfl rfl g30 dMod_work_145 ?_
        refine lv_iconst (v := (2 : Int32)) hx hb dMod_work_146 (by decide) ?_
        refine lv_icmp_eq (tgt := 154) hx hb dMod_work_147 (by decide) (fun c31 => ?_) (fun c31 => ?_)
        · have hm := sx_pos c31 hm
          exact jJ28 x3 hm _ (hl)
        · have hm := sx_neg c31 hm
          refine lv_iconst (v := (1 : Int32)) hx hb dMod_work_150 (by decide) ?_
          refine lv_goto (tgt := 155) hx hb dMod_work_151 (by decide) ?_
          exact jJ20 (1 : Int32) x3 hm _ (hl)
set_option maxHeartbeats 4000000 in
set_option maxRecDepth 100000 in
theorem w_Mod_work_209 {p : Program} {l : Launch} {e : Env} {s : State} {m : MethodId} {args : Array Value} {below : List Frame} {meth : Method} {c : Code} {dC : Nat → ClassId} {dI : Nat → Nat → Nat} {cI cL cZ : ClassId} {A : Nat → Prop} {Q : State → Prop} {t1 t2 : Nat} (C0 : sx_C p s m args meth c cMod_work 6 "StateExplorerModel" A (dC, dI) [(cI, .int), (cL, .long), (cZ, .boolean)] t1 t2) (h_mod a_mod_sort a_mod_number a_mod_value a_mod_made a_mod_to a_mod_from a_mod_outputOf a_mod_negated a_mod_settles a_mod_next a_mod_ones a_mod_distance a_mod_apart a_mod_leads : Nat) (mod_code mod_gates mod_feeds mod_inputs mod_latches mod_outputs : Int32) (mod_sort mod_number mod_value mod_made mod_to mod_from mod_negated : Nat → Int32) (mod_explored : Int32) (mod_settles : Nat → Int32) (mod_ones : Nat → Int64) (x3 : Int32) :
    ∀ (n : Nat) (x5 : Int32) (mod_next : Nat → Int32) (r : (Nat → Int32)), L_Mod_work_209 mod_feeds mod_sort mod_number mod_value mod_to mod_from mod_negated mod_settles x3 n x5 mod_next = some r → ∀ (H : Heap) (locs : List Loc) (ls : Array Slot), va_P (dC, dI) vwCl [(h_mod, .inr (5, [.int mod_code, .int mod_gates, .int mod_feeds, .int mod_inputs, .int mod_latches, .int mod_outputs, .ref a_mod_sort, .ref a_mod_number, .ref a_mod_value, .ref a_mod_made, .ref a_mod_to, .ref a_mod_from, .ref a_mod_outputOf, .ref a_mod_negated, .int mod_explored, .ref a_mod_settles, .ref a_mod_next, .ref a_mod_ones, .ref a_mod_distance, .ref a_mod_apart, .ref a_mod_leads])), (a_mod_sort, .inl (cI, 60, .inl mod_sort)), (a_mod_number, .inl (cI, 60, .inl mod_number)), (a_mod_value, .inl (cI, 60, .inl mod_value)), (a_mod_made, .inl (cI, 60, .inl mod_made)), (a_mod_to, .inl (cI, 240, .inl mod_to)), (a_mod_from, .inl (cI, 240, .inl mod_from)), (a_mod_negated, .inl (cZ, 240, .inl mod_negated)), (a_mod_settles, .inl (cZ, 4096, .inl mod_settles)), (a_mod_next, .inl (cI, 4096, .inl mod_next)), (a_mod_ones, .inl (cL, 4096, .inr (.inl mod_ones)))] H → va_D A [(h_mod, .inr (5, [.int mod_code, .int mod_gates, .int mod_feeds, .int mod_inputs, .int mod_latches, .int mod_outputs, .ref a_mod_sort, .ref a_mod_number, .ref a_mod_value, .ref a_mod_made, .ref a_mod_to, .ref a_mod_from, .ref a_mod_outputOf, .ref a_mod_negated, .int mod_explored, .ref a_mod_settles, .ref a_mod_next, .ref a_mod_ones, .ref a_mod_distance, .ref a_mod_apart, .ref a_mod_leads])), (a_mod_sort, .inl (cI, 60, .inl mod_sort)), (a_mod_number, .inl (cI, 60, .inl mod_number)), (a_mod_value, .inl (cI, 60, .inl mod_value)), (a_mod_made, .inl (cI, 60, .inl mod_made)), (a_mod_to, .inl (cI, 240, .inl mod_to)), (a_mod_from, .inl (cI, 240, .inl mod_from)), (a_mod_negated, .inl (cZ, 240, .inl mod_negated)), (a_mod_settles, .inl (cZ, 4096, .inl mod_settles)), (a_mod_next, .inl (cI, 4096, .inl mod_next)), (a_mod_ones, .inl (cL, 4096, .inr (.inl mod_ones)))] → va_S A s.heap H locs → lv_has ls 6 [(0, .ref h_mod), (3, .int x3), (5, .int x5)] →
    (∀ (H : Heap) (locs : List Loc) (ls : Array Slot), va_P (dC, dI) vwCl [(h_mod, .inr (5, [.int mod_code, .int mod_gates, .int mod_feeds, .int mod_inputs, .int mod_latches, .int mod_outputs, .ref a_mod_sort, .ref a_mod_number, .ref a_mod_value, .ref a_mod_made, .ref a_mod_to, .ref a_mod_from, .ref a_mod_outputOf, .ref a_mod_negated, .int mod_explored, .ref a_mod_settles, .ref a_mod_next, .ref a_mod_ones, .ref a_mod_distance, .ref a_mod_apart, .ref a_mod_leads])), (a_mod_sort, .inl (cI, 60, .inl mod_sort)), (a_mod_number, .inl (cI, 60, .inl mod_number)), (a_mod_value, .inl (cI, 60, .inl mod_value)), (a_mod_made, .inl (cI, 60, .inl mod_made)), (a_mod_to, .inl (cI, 240, .inl mod_to)), (a_mod_from, .inl (cI, 240, .inl mod_from)), (a_mod_negated, .inl (cZ, 240, .inl mod_negated)), (a_mod_settles, .inl (cZ, 4096, .inl mod_settles)), (a_mod_next, .inl (cI, 4096, .inl r)), (a_mod_ones, .inl (cL, 4096, .inr (.inl mod_ones)))] H → va_D A [(h_mod, .inr (5, [.int mod_code, .int mod_gates, .int mod_feeds, .int mod_inputs, .int mod_latches, .int mod_outputs, .ref a_mod_sort, .ref a_mod_number, .ref a_mod_value, .ref a_mod_made, .ref a_mod_to, .ref a_mod_from, .ref a_mod_outputOf, .ref a_mod_negated, .int mod_explored, .ref a_mod_settles, .ref a_mod_next, .ref a_mod_ones, .ref a_mod_distance, .ref a_mod_apart, .ref a_mod_leads])), (a_mod_sort, .inl (cI, 60, .inl mod_sort)), (a_mod_number, .inl (cI, 60, .inl mod_number)), (a_mod_value, .inl (cI, 60, .inl mod_value)), (a_mod_made, .inl (cI, 60, .inl mod_made)), (a_mod_to, .inl (cI, 240, .inl mod_to)), (a_mod_from, .inl (cI, 240, .inl mod_from)), (a_mod_negated, .inl (cZ, 240, .inl mod_negated)), (a_mod_settles, .inl (cZ, 4096, .inl mod_settles)), (a_mod_next, .inl (cI, 4096, .inl r)), (a_mod_ones, .inl (cL, 4096, .inr (.inl mod_ones)))] → va_S A s.heap H locs → lv_has ls 6 [] → W p l e (headSpec wsMod_work rm_Mod_work).room s m args below meth c H locs 0 0 Q (F0 m 298 ls [])) →
    W p l e (headSpec wsMod_work rm_Mod_work).room s m args below meth c H locs 0 0 Q (F0 m 209 ls []) := by
  obtain ⟨hx, hb, hml, hown, hts, hA, hK, hlocks, hX⟩ := id C0
  intro n
  induction n with
  | zero => intro x5 mod_next r hm; rw [L_Mod_work_209] at hm; cases hm
  | succ n ih =>
    intro x5 mod_next r hm H locs ls hP hD hS hl k1
    rw [L_Mod_work_209] at hm
    refine lv_iload hx hb dMod_work_209 (lv_at hl 2 rfl) ?_
    refine lv_aload_n hx hb dMod_work_211 rfl (lv_at hl 0 rfl) ?_
    refine va_get (D := (dC, dI)) (ci := 5) (v := .int mod_feeds) (C := RMod) (T := TMod) (N := 21) hx hb hts inMod hown hK hP 0 rfl rfl 2 (by decide) (hts _ tw_613) (fun _ h9 => h9) rfl dMod_work_212 ?_
    refine lv_icmp_ge (tgt := 298) hx hb dMod_work_215 (by decide) (fun c34 => ?_) (fun c34 => ?_)
    · have hm := sx_pos c34 hm
      obtain rfl := Option.some.inj hm
      exact k1 _ _ _ hP hD hS (lv_sub hl [] rfl)
    · have hm := sx_neg c34 hm
      refine lv_aload_n hx hb dMod_work_218 rfl (lv_at hl 0 rfl) ?_
      refine va_get (D := (dC, dI)) (ci := 5) (v := .ref a_mod_settles) (C := RMod) (T := TMod) (N := 21) hx hb hts inMod hown hK hP 0 rfl rfl 15 (by decide) (hts _ tw_626) (fun _ h9 => h9) rfl dMod_work_219 ?_
      refine lv_iload_n hx hb dMod_work_222 rfl (lv_at hl 1 rfl) ?_
      obtain ⟨g35, hm⟩ := gd_el hm
      refine va_zald hx hb hK hP 8 2 rfl rfl g35 dMod_work_223 ?_
      refine lv_if_eq (tgt := 298) hx hb dMod_work_224 (by decide) (fun c36 => ?_) (fun c36 => ?_)
      · have hm := sx_pos c36 hm
        obtain rfl := Option.some.inj hm
        exact k1 _ _ _ hP hD hS (lv_sub hl [] rfl)
      · have hm := sx_neg c36 hm
        refine lv_aload_n hx hb dMod_work_227 rfl (lv_at hl 0 rfl) ?_
        refine va_get (D := (dC, dI)) (ci := 5) (v := .ref a_mod_sort) (C := RMod) (T := TMod) (N := 21) hx hb hts inMod hown hK hP 0 rfl rfl 6 (by decide) (hts _ tw_617) (fun _ h9 => h9) rfl dMod_work_228 ?_
        refine lv_aload_n hx hb dMod_work_231 rfl (lv_at hl 0 rfl) ?_
        refine va_get (D := (dC, dI)) (ci := 5) (v := .ref a_mod_to) (C := RMod) (T := TMod) (N := 21) hx hb hts inMod hown hK hP 0 rfl rfl 10 (by decide) (hts _ tw_621) (fun _ h9 => h9) rfl dMod_work_232 ?_
        refine lv_iload hx hb dMod_work_235 (lv_at hl 2 rfl) ?_
        obtain ⟨g37, hm⟩ := gd_el hm
        refine va_iald hx hb hK hP 5 0 rfl rfl g37 dMod_work_237 ?_
        obtain ⟨g38, hm⟩ := gd_el hm
        refine va_iald hx hb hK hP 1 0 rfl rfl g38 dMod_work_238 ?_
        refine lv_iconst (v := (1 : Int32)) hx hb dMod_work_239 (by decide) ?_
        refine lv_icmp_ne (tgt := 292) hx hb dMod_work_240 (by decide) (fun c39 => ?_) (fun c39 => ?_)
        · have hm := sx_neg c39 hm
          refine lv_iinc (v := x5 + (1 : Int32)) (lv' := [(5, .int (x5 + (1 : Int32))), (0, .ref h_mod), (3, .int x3)]) hx hb dMod_work_292 hl (k := 2) rfl rfl (by decide) rfl (fun ls hl => ?_)
          refine lv_goto (tgt := 209) hx hb dMod_work_295 (by decide) ?_
          exact ih (x5 + (1 : Int32)) mod_next r hm _ _ _ hP hD hS (lv_sub hl [1, 2, 0] rfl) k1
        · have hm := sx_pos c39 hm
          refine lv_aload_n hx hb dMod_work_243 rfl (lv_at hl 0 rfl) ?_
          refine va_get (D := (dC, dI)) (ci := 5) (v := .ref a_mod_next) (C := RMod) (T := TMod) (N := 21) hx hb hts inMod hown hK hP 0 rfl rfl 16 (by decide) (hts _ tw_627) (fun _ h9 => h9) rfl dMod_work_244 ?_
          refine lv_iload_n hx hb dMod_work_247 rfl (lv_at hl 1 rfl) ?_
          refine lv_aload_n hx hb dMod_work_248 rfl (lv_at hl 0 rfl) ?_
          refine va_get (D := (dC, dI)) (ci := 5) (v := .ref a_mod_next) (C := RMod) (T := TMod) (N := 21) hx hb hts inMod hown hK hP 0 rfl rfl 16 (by decide) (hts _ tw_627) (fun _ h9 => h9) rfl dMod_work_249 ?_
          refine lv_iload_n hx hb dMod_work_252 rfl (lv_at hl 1 rfl) ?_
          obtain ⟨g40, hm⟩ := gd_el hm
          refine va_iald hx hb hK hP 9 0 rfl rfl g40 dMod_work_253 ?_
          refine lv_iconst (v := (1 : Int32)) hx hb dMod_work_254 (by decide) ?_
          refine lv_aload_n hx hb dMod_work_255 rfl (lv_at hl 0 rfl) ?_
          refine va_get (D := (dC, dI)) (ci := 5) (v := .ref a_mod_number) (C := RMod) (T := TMod) (N := 21) hx hb hts inMod hown hK hP 0 rfl rfl 7 (by decide) (hts _ tw_618) (fun _ h9 => h9) rfl dMod_work_256 ?_
          refine lv_aload_n hx hb dMod_work_259 rfl (lv_at hl 0 rfl) ?_
          refine va_get (D := (dC, dI)) (ci := 5) (v := .ref a_mod_to) (C := RMod) (T := TMod) (N := 21) hx hb hts inMod hown hK hP 0 rfl rfl 10 (by decide) (hts _ tw_621) (fun _ h9 => h9) rfl dMod_work_260 ?_
          refine lv_iload hx hb dMod_work_263 (lv_at hl 2 rfl) ?_
          obtain ⟨g41, hm⟩ := gd_el hm
          refine va_iald hx hb hK hP 5 0 rfl rfl g41 dMod_work_265 ?_
          obtain ⟨g42, hm⟩ := gd_el hm
          refine va_iald hx hb hK hP 2 0 rfl rfl g42 dMod_work_266 ?_
          refine lv_ishl hx hb dMod_work_267 ?_
          refine lv_iconst (v := (-1 : Int32)) hx hb dMod_work_268 (by decide) ?_
          refine lv_ixor hx hb dMod_work_269 ?_
          refine lv_iand hx hb dMod_work_270 ?_
          refine lv_aload_n hx hb dMod_work_271 rfl (lv_at hl 0 rfl) ?_
          refine lv_iload hx hb dMod_work_272 (lv_at hl 2 rfl) ?_
          obtain ⟨v43, hv43, hm⟩ := sx_bind hm
          have hPc := hP.sub (ws' := [(h_mod, .inr (5, [.int mod_code, .int mod_gates, .int mod_feeds, .int mod_inputs, .int mod_latches, .int mod_outputs, .ref a_mod_sort, .ref a_mod_number, .ref a_mod_value, .ref a_mod_made, .ref a_mod_to, .ref a_mod_from, .ref a_mod_outputOf, .ref a_mod_negated, .int mod_explored, .ref a_mod_settles, .ref a_mod_next, .ref a_mod_ones, .ref a_mod_distance, .ref a_mod_apart, .ref a_mod_leads])), (a_mod_value, .inl (cI, 60, .inl mod_value)), (a_mod_from, .inl (cI, 240, .inl mod_from)), (a_mod_negated, .inl (cZ, 240, .inl mod_negated))]) [0, 3, 6, 7] rfl
          have hDc := hD.sub (ws' := [(h_mod, .inr (5, [.int mod_code, .int mod_gates, .int mod_feeds, .int mod_inputs, .int mod_latches, .int mod_outputs, .ref a_mod_sort, .ref a_mod_number, .ref a_mod_value, .ref a_mod_made, .ref a_mod_to, .ref a_mod_from, .ref a_mod_outputOf, .ref a_mod_negated, .int mod_explored, .ref a_mod_settles, .ref a_mod_next, .ref a_mod_ones, .ref a_mod_distance, .ref a_mod_apart, .ref a_mod_leads])), (a_mod_value, .inl (cI, 60, .inl mod_value)), (a_mod_from, .inl (cI, 240, .inl mod_from)), (a_mod_negated, .inl (cZ, 240, .inl mod_negated))]) [0, 3, 6, 7] (by decide) rfl
          have hFc := va_free (wc := [(h_mod, .inr (5, [.int mod_code, .int mod_gates, .int mod_feeds, .int mod_inputs, .int mod_latches, .int mod_outputs, .ref a_mod_sort, .ref a_mod_number, .ref a_mod_value, .ref a_mod_made, .ref a_mod_to, .ref a_mod_from, .ref a_mod_outputOf, .ref a_mod_negated, .int mod_explored, .ref a_mod_settles, .ref a_mod_next, .ref a_mod_ones, .ref a_mod_distance, .ref a_mod_apart, .ref a_mod_leads])), (a_mod_value, .inl (cI, 60, .inl mod_value)), (a_mod_from, .inl (cI, 240, .inl mod_from)), (a_mod_negated, .inl (cZ, 240, .inl mod_negated))]) hD hS hA [0, 3, 6, 7] rfl
          refine sx_stI (va_runV (As := [.int x5]) (rest := [.int ((mod_next x3.toNatClampNeg) &&& (((1 : Int32) <<< ((mod_number (mod_to x5.toNatClampNeg).toNatClampNeg) &&& 31)) ^^^ (-1 : Int32))), .int x3, .ref a_mod_next]) ⟨hx, hb, hml, hown, hts⟩ (k_Mod_taken l dC dI cI cL cZ t1 t2 h_mod a_mod_sort a_mod_number a_mod_value a_mod_made a_mod_to a_mod_from a_mod_outputOf a_mod_negated a_mod_settles a_mod_next a_mod_ones a_mod_distance a_mod_apart a_mod_leads mod_code mod_gates mod_feeds mod_inputs mod_latches mod_outputs mod_value mod_from mod_negated mod_explored _ x5 v43 hv43) (cwV 1 hts (sx_gV tw_724 tw_726 tw_26 tw_41 tcMod_taken) rfl rfl rfl (by decide +kernel) ⟨Nat.le_of_ble_eq_true rfl, Nat.le_of_ble_eq_true rfl⟩) (sx_pV hK hX hS hPc hDc hFc (va_recv hK hPc (ci := 5) (q0 := 0) rfl rfl)) rfl rfl hl.1 rfl (lv_room (Nat.le_of_ble_eq_true rfl)) dMod_work_274 ⟨Nat.le_of_ble_eq_true rfl, Nat.le_of_ble_eq_true rfl⟩) ?_
          refine lv_aload_n hx hb dMod_work_277 rfl (lv_at hl 0 rfl) ?_
          refine va_get (D := (dC, dI)) (ci := 5) (v := .ref a_mod_number) (C := RMod) (T := TMod) (N := 21) hx hb hts inMod hown hK hP 0 rfl rfl 7 (by decide) (hts _ tw_618) (fun _ h9 => h9) rfl dMod_work_278 ?_
          refine lv_aload_n hx hb dMod_work_281 rfl (lv_at hl 0 rfl) ?_
          refine va_get (D := (dC, dI)) (ci := 5) (v := .ref a_mod_to) (C := RMod) (T := TMod) (N := 21) hx hb hts inMod hown hK hP 0 rfl rfl 10 (by decide) (hts _ tw_621) (fun _ h9 => h9) rfl dMod_work_282 ?_
          refine lv_iload hx hb dMod_work_285 (lv_at hl 2 rfl) ?_
          obtain ⟨g45, hm⟩ := gd_el hm
          refine va_iald hx hb hK hP 5 0 rfl rfl g45 dMod_work_287 ?_
          obtain ⟨g46, hm⟩ := gd_el hm
          refine va_iald hx hb hK hP 2 0 rfl rfl g46 dMod_work_288 ?_
          refine lv_ishl hx hb dMod_work_289 ?_
          refine lv_ior hx hb dMod_work_290 ?_
          obtain ⟨g47, hm⟩ := gd_el hm
          refine va_iast hx hb hK hP hD hS 9 0 rfl rfl g47 dMod_work_291 (fun H locs hP hD hS => ?_)
          have hP : va_P (dC, dI) vwCl [(h_mod, .inr (5, [.int mod_code, .int mod_gates, .int mod_feeds, .int mod_inputs, .int mod_latches, .int mod_outputs, .ref a_mod_sort, .ref a_mod_number, .ref a_mod_value, .ref a_mod_made, .ref a_mod_to, .ref a_mod_from, .ref a_mod_outputOf, .ref a_mod_negated, .int mod_explored, .ref a_mod_settles, .ref a_mod_next, .ref a_mod_ones, .ref a_mod_distance, .ref a_mod_apart, .ref a_mod_leads])), (a_mod_sort, .inl (cI, 60, .inl mod_sort)), (a_mod_number, .inl (cI, 60, .inl mod_number)), (a_mod_value, .inl (cI, 60, .inl mod_value)), (a_mod_made, .inl (cI, 60, .inl mod_made)), (a_mod_to, .inl (cI, 240, .inl mod_to)), (a_mod_from, .inl (cI, 240, .inl mod_from)), (a_mod_negated, .inl (cZ, 240, .inl mod_negated)), (a_mod_settles, .inl (cZ, 4096, .inl mod_settles)), (a_mod_next, .inl (cI, 4096, .inl (upd mod_next x3.toNatClampNeg (((mod_next x3.toNatClampNeg) &&& (((1 : Int32) <<< ((mod_number (mod_to x5.toNatClampNeg).toNatClampNeg) &&& 31)) ^^^ (-1 : Int32))) ||| (v43 <<< ((mod_number (mod_to x5.toNatClampNeg).toNatClampNeg) &&& 31)))))), (a_mod_ones, .inl (cL, 4096, .inr (.inl mod_ones)))] H := hP
          have hD : va_D A [(h_mod, .inr (5, [.int mod_code, .int mod_gates, .int mod_feeds, .int mod_inputs, .int mod_latches, .int mod_outputs, .ref a_mod_sort, .ref a_mod_number, .ref a_mod_value, .ref a_mod_made, .ref a_mod_to, .ref a_mod_from, .ref a_mod_outputOf, .ref a_mod_negated, .int mod_explored, .ref a_mod_settles, .ref a_mod_next, .ref a_mod_ones, .ref a_mod_distance, .ref a_mod_apart, .ref a_mod_leads])), (a_mod_sort, .inl (cI, 60, .inl mod_sort)), (a_mod_number, .inl (cI, 60, .inl mod_number)), (a_mod_value, .inl (cI, 60, .inl mod_value)), (a_mod_made, .inl (cI, 60, .inl mod_made)), (a_mod_to, .inl (cI, 240, .inl mod_to)), (a_mod_from, .inl (cI, 240, .inl mod_from)), (a_mod_negated, .inl (cZ, 240, .inl mod_negated)), (a_mod_settles, .inl (cZ, 4096, .inl mod_settles)), (a_mod_next, .inl (cI, 4096, .inl (upd mod_next x3.toNatClampNeg (((mod_next x3.toNatClampNeg) &&& (((1 : Int32) <<< ((mod_number (mod_to x5.toNatClampNeg).toNatClampNeg) &&& 31)) ^^^ (-1 : Int32))) ||| (v43 <<< ((mod_number (mod_to x5.toNatClampNeg).toNatClampNeg) &&& 31)))))), (a_mod_ones, .inl (cL, 4096, .inr (.inl mod_ones)))] := hD
          refine lv_iinc (v := x5 + (1 : Int32)) (lv' := [(5, .int (x5 + (1 : Int32))), (0, .ref h_mod), (3, .int x3)]) hx hb dMod_work_292 hl (k := 2) rfl rfl (by decide) rfl (fun ls hl => ?_)
          refine lv_goto (tgt := 209) hx hb dMod_work_295 (by decide) ?_
          exact ih (x5 + (1 : Int32)) (upd mod_next x3.toNatClampNeg (((mod_next x3.toNatClampNeg) &&& (((1 : Int32) <<< ((mod_number (mod_to x5.toNatClampNeg).toNatClampNeg) &&& 31)) ^^^ (-1 : Int32))) ||| (v43 <<< ((mod_number (mod_to x5.toNatClampNeg).toNatClampNeg) &&& 31)))) r hm _ _ _ hP hD hS (lv_sub hl [1, 2, 0] rfl) k1
set_option maxHeartbeats 4000000 in
set_option maxRecDepth 100000 in
theorem k_Mod_work (l : Launch) (dC : Nat → ClassId) (dI : Nat → Nat → Nat) (cI cL cZ : ClassId) (t1 t2 : Nat) (h_mod a_mod_sort a_mod_number a_mod_value a_mod_made a_mod_to a_mod_from a_mod_outputOf a_mod_negated a_mod_settles a_mod_next a_mod_ones a_mod_distance a_mod_apart a_mod_leads : Nat) (mod_code mod_gates mod_feeds mod_inputs mod_latches mod_outputs : Int32) (mod_sort mod_number mod_value mod_made mod_to mod_from mod_negated : Nat → Int32) (mod_explored : Int32) (mod_settles mod_next : Nat → Int32) (mod_ones : Nat → Int64) (sz : Nat) (p0 : Int32) (p1 : Int32) (v : (Nat → Int32) × (Nat → Int32) × (Nat → Int32) × (Nat → Int32) × (Nat → Int64)) (hm : m_Mod_work mod_gates mod_feeds mod_sort mod_number mod_value mod_made mod_to mod_from mod_negated mod_settles mod_next mod_ones p0 p1 = some v) : Met l yMod_work wsMod_work rm_Mod_work (sx_Pc (dC, dI) [(cI, .int), (cL, .long), (cZ, .boolean)] t1 t2 [(h_mod, .inr (5, [.int mod_code, .int mod_gates, .int mod_feeds, .int mod_inputs, .int mod_latches, .int mod_outputs, .ref a_mod_sort, .ref a_mod_number, .ref a_mod_value, .ref a_mod_made, .ref a_mod_to, .ref a_mod_from, .ref a_mod_outputOf, .ref a_mod_negated, .int mod_explored, .ref a_mod_settles, .ref a_mod_next, .ref a_mod_ones, .ref a_mod_distance, .ref a_mod_apart, .ref a_mod_leads])), (a_mod_sort, .inl (cI, 60, .inl mod_sort)), (a_mod_number, .inl (cI, 60, .inl mod_number)), (a_mod_value, .inl (cI, 60, .inl mod_value)), (a_mod_made, .inl (cI, 60, .inl mod_made)), (a_mod_to, .inl (cI, 240, .inl mod_to)), (a_mod_from, .inl (cI, 240, .inl mod_from)), (a_mod_negated, .inl (cZ, 240, .inl mod_negated)), (a_mod_settles, .inl (cZ, 4096, .inl mod_settles)), (a_mod_next, .inl (cI, 4096, .inl mod_next)), (a_mod_ones, .inl (cL, 4096, .inr (.inl mod_ones)))] sz [.ref h_mod, .int p0, .int p1]) (va_Qv (fun (_ : Unit) => True) (fun _ t => sx_W (dC, dI) [(cI, .int), (cL, .long), (cZ, .boolean)] (va_A [(h_mod, .inr (5, [.int mod_code, .int mod_gates, .int mod_feeds, .int mod_inputs, .int mod_latches, .int mod_outputs, .ref a_mod_sort, .ref a_mod_number, .ref a_mod_value, .ref a_mod_made, .ref a_mod_to, .ref a_mod_from, .ref a_mod_outputOf, .ref a_mod_negated, .int mod_explored, .ref a_mod_settles, .ref a_mod_next, .ref a_mod_ones, .ref a_mod_distance, .ref a_mod_apart, .ref a_mod_leads])), (a_mod_sort, .inl (cI, 60, .inl mod_sort)), (a_mod_number, .inl (cI, 60, .inl mod_number)), (a_mod_value, .inl (cI, 60, .inl mod_value)), (a_mod_made, .inl (cI, 60, .inl mod_made)), (a_mod_to, .inl (cI, 240, .inl mod_to)), (a_mod_from, .inl (cI, 240, .inl mod_from)), (a_mod_negated, .inl (cZ, 240, .inl mod_negated)), (a_mod_settles, .inl (cZ, 4096, .inl mod_settles)), (a_mod_next, .inl (cI, 4096, .inl mod_next)), (a_mod_ones, .inl (cL, 4096, .inr (.inl mod_ones)))] sz) [(h_mod, .inr (5, [.int mod_code, .int mod_gates, .int mod_feeds, .int mod_inputs, .int mod_latches, .int mod_outputs, .ref a_mod_sort, .ref a_mod_number, .ref a_mod_value, .ref a_mod_made, .ref a_mod_to, .ref a_mod_from, .ref a_mod_outputOf, .ref a_mod_negated, .int mod_explored, .ref a_mod_settles, .ref a_mod_next, .ref a_mod_ones, .ref a_mod_distance, .ref a_mod_apart, .ref a_mod_leads])), (a_mod_sort, .inl (cI, 60, .inl mod_sort)), (a_mod_number, .inl (cI, 60, .inl mod_number)), (a_mod_value, .inl (cI, 60, .inl v.1)), (a_mod_made, .inl (cI, 60, .inl v.2.1)), (a_mod_to, .inl (cI, 240, .inl mod_to)), (a_mod_from, .inl (cI, 240, .inl mod_from)), (a_mod_negated, .inl (cZ, 240, .inl mod_negated)), (a_mod_settles, .inl (cZ, 4096, .inl v.2.2.1)), (a_mod_next, .inl (cI, 4096, .inl v.2.2.2.1)), (a_mod_ones, .inl (cL, 4096, .inr (.inl v.2.2.2.2)))] t) (va_A [(h_mod, .inr (5, [.int mod_code, .int mod_gates, .int mod_feeds, .int mod_inputs, .int mod_latches, .int mod_outputs, .ref a_mod_sort, .ref a_mod_number, .ref a_mod_value, .ref a_mod_made, .ref a_mod_to, .ref a_mod_from, .ref a_mod_outputOf, .ref a_mod_negated, .int mod_explored, .ref a_mod_settles, .ref a_mod_next, .ref a_mod_ones, .ref a_mod_distance, .ref a_mod_apart, .ref a_mod_leads])), (a_mod_sort, .inl (cI, 60, .inl mod_sort)), (a_mod_number, .inl (cI, 60, .inl mod_number)), (a_mod_value, .inl (cI, 60, .inl mod_value)), (a_mod_made, .inl (cI, 60, .inl mod_made)), (a_mod_to, .inl (cI, 240, .inl mod_to)), (a_mod_from, .inl (cI, 240, .inl mod_from)), (a_mod_negated, .inl (cZ, 240, .inl mod_negated)), (a_mod_settles, .inl (cZ, 4096, .inl mod_settles)), (a_mod_next, .inl (cI, 4096, .inl mod_next)), (a_mod_ones, .inl (cL, 4096, .inr (.inl mod_ones)))] sz)) 0 0 (va_A [(h_mod, .inr (5, [.int mod_code, .int mod_gates, .int mod_feeds, .int mod_inputs, .int mod_latches, .int mod_outputs, .ref a_mod_sort, .ref a_mod_number, .ref a_mod_value, .ref a_mod_made, .ref a_mod_to, .ref a_mod_from, .ref a_mod_outputOf, .ref a_mod_negated, .int mod_explored, .ref a_mod_settles, .ref a_mod_next, .ref a_mod_ones, .ref a_mod_distance, .ref a_mod_apart, .ref a_mod_leads])), (a_mod_sort, .inl (cI, 60, .inl mod_sort)), (a_mod_number, .inl (cI, 60, .inl mod_number)), (a_mod_value, .inl (cI, 60, .inl mod_value)), (a_mod_made, .inl (cI, 60, .inl mod_made)), (a_mod_to, .inl (cI, 240, .inl mod_to)), (a_mod_from, .inl (cI, 240, .inl mod_from)), (a_mod_negated, .inl (cZ, 240, .inl mod_negated)), (a_mod_settles, .inl (cZ, 4096, .inl mod_settles)), (a_mod_next, .inl (cI, 4096, .inl mod_next)), (a_mod_ones, .inl (cL, 4096, .inr (.inl mod_ones)))] sz) := by
  refine Met.ofW (cc := cMod_work) (maxL := 6) (ret := none) (by decide) rfl ?_
  intro p e s m args below meth c s₁ B hml hv
  obtain ⟨rfl, hsz, hP, hK, hD0, hX⟩ := hv
  have hx := B.exec
  have hb := B.bytes
  have hr := B.returns
  have hts0 := atoms_spec (ws := wsMod_work) B.pre
  have hts : ∀ w ∈ tb, w.before _ s = true := fun w h => hts0 w (List.mem_cons_of_mem _ h)
  have hown : s.vm.findClass "StateExplorerModel" = some m.cls := findClass_of_methodNamed B.named
  have hlocks := B.notSynchronized
  subst hsz
  have hD := hD0.self (sz := s.heap.size)
  generalize hAe : va_A [(h_mod, .inr (5, [.int mod_code, .int mod_gates, .int mod_feeds, .int mod_inputs, .int mod_latches, .int mod_outputs, .ref a_mod_sort, .ref a_mod_number, .ref a_mod_value, .ref a_mod_made, .ref a_mod_to, .ref a_mod_from, .ref a_mod_outputOf, .ref a_mod_negated, .int mod_explored, .ref a_mod_settles, .ref a_mod_next, .ref a_mod_ones, .ref a_mod_distance, .ref a_mod_apart, .ref a_mod_leads])), (a_mod_sort, .inl (cI, 60, .inl mod_sort)), (a_mod_number, .inl (cI, 60, .inl mod_number)), (a_mod_value, .inl (cI, 60, .inl mod_value)), (a_mod_made, .inl (cI, 60, .inl mod_made)), (a_mod_to, .inl (cI, 240, .inl mod_to)), (a_mod_from, .inl (cI, 240, .inl mod_from)), (a_mod_negated, .inl (cZ, 240, .inl mod_negated)), (a_mod_settles, .inl (cZ, 4096, .inl mod_settles)), (a_mod_next, .inl (cI, 4096, .inl mod_next)), (a_mod_ones, .inl (cL, 4096, .inr (.inl mod_ones)))] s.heap.size = A at hD hX ⊢
  have hA : ∀ q : Nat, s.heap.size ≤ q → A q := fun q h => by rw [← hAe]; exact Or.inr h
  have hS : va_S A s.heap s.heap [] := va_S.rf
  have hl := lv_entry ([.ref h_mod, .int p0, .int p1]) (n := 6) (Nat.le_of_ble_eq_true rfl)
  rw [lg_entry_eq]
  generalize (lg_sl ([.ref h_mod, .int p0, .int p1]) ++ List.replicate (6 - (lg_sl ([.ref h_mod, .int p0, .int p1])).length) Slot.unset).toArray = ls at hl ⊢
  have hl : lv_has ls 6 [(0, .ref h_mod), (1, .int p0), (2, .int p1)] := hl
  have C0 : sx_C p s m _ meth c cMod_work 6 "StateExplorerModel" A (dC, dI) [(cI, .int), (cL, .long), (cZ, .boolean)] t1 t2 := ⟨hx, hb, hml, hown, hts, hA, hK, hlocks, hX⟩
  rw [m_Mod_work] at hm
  refine lv_bipush (v := (16 : Int32)) hx hb dMod_work_0 (by decide) ?_
  refine lv_iload_n hx hb dMod_work_2 rfl (lv_at hl 1 rfl) ?_
  refine lv_imul hx hb dMod_work_3 ?_
  refine lv_iload_n hx hb dMod_work_4 rfl (lv_at hl 2 rfl) ?_
  refine lv_iadd hx hb dMod_work_5 ?_
  refine lv_istore_n (lv' := [(3, .int (((16 : Int32) * p0) + p1)), (0, .ref h_mod), (1, .int p0), (2, .int p1)]) hx hb dMod_work_6 rfl hl (by decide) rfl (fun ls hl => ?_)
  refine lv_iconst (v := (0 : Int32)) hx hb dMod_work_7 (by decide) ?_
  refine lv_istore (lv' := [(4, .int (0 : Int32)), (3, .int (((16 : Int32) * p0) + p1)), (0, .ref h_mod), (1, .int p0), (2, .int p1)]) hx hb dMod_work_8 hl (by decide) rfl (fun ls hl => ?_)
  obtain ⟨v11, hv11, hm⟩ := sx_bind hm
  refine w_Mod_work_10 C0 h_mod a_mod_sort a_mod_number a_mod_value a_mod_made a_mod_to a_mod_from a_mod_outputOf a_mod_negated a_mod_settles a_mod_next a_mod_ones a_mod_distance a_mod_apart a_mod_leads mod_code mod_gates mod_feeds mod_inputs mod_latches mod_outputs mod_sort mod_number mod_made mod_to mod_from mod_negated mod_explored mod_settles mod_next mod_ones p0 p1 (((16 : Int32) * p0) + p1) _ (0 : Int32) mod_value v11 hv11 _ _ _ hP hD hS (lv_sub hl [2, 3, 4, 1, 0] rfl) ?_
  intro H locs ls hP hD hS hl
  refine lv_iconst (v := (1 : Int32)) hx hb dMod_work_82 (by decide) ?_
  refine lv_istore (lv' := [(4, .int (1 : Int32)), (0, .ref h_mod), (1, .int p0), (3, .int (((16 : Int32) * p0) + p1))]) hx hb dMod_work_83 hl (by decide) rfl (fun ls hl => ?_)
  obtain ⟨v15, hv15, hm⟩ := sx_bind hm
  refine w_Mod_work_85 C0 h_mod a_mod_sort a_mod_number a_mod_value a_mod_made a_mod_to a_mod_from a_mod_outputOf a_mod_negated a_mod_settles a_mod_next a_mod_ones a_mod_distance a_mod_apart a_mod_leads mod_code mod_gates mod_feeds mod_inputs mod_latches mod_outputs mod_sort mod_number mod_to mod_from mod_negated mod_explored mod_settles mod_next mod_ones p0 (((16 : Int32) * p0) + p1) _ (1 : Int32) v11 mod_made v15 hv15 _ _ _ hP hD hS (lv_sub hl [1, 2, 3, 0] rfl) ?_
  intro H locs ls hP hD hS hl
  refine lv_aload_n hx hb dMod_work_99 rfl (lv_at hl 0 rfl) ?_
  refine va_get (D := (dC, dI)) (ci := 5) (v := .ref a_mod_settles) (C := RMod) (T := TMod) (N := 21) hx hb hts inMod hown hK hP 0 rfl rfl 15 (by decide) (hts _ tw_626) (fun _ h9 => h9) rfl dMod_work_100 ?_
  refine lv_iload_n hx hb dMod_work_103 rfl (lv_at hl 2 rfl) ?_
  refine lv_iconst (v := (1 : Int32)) hx hb dMod_work_104 (by decide) ?_
  obtain ⟨g16, hm⟩ := gd_el hm
  refine va_zast hx hb hK hP hD hS 8 2 rfl rfl g16 dMod_work_105 (fun H locs hP hD hS => ?_)
  have hP : va_P (dC, dI) vwCl [(h_mod, .inr (5, [.int mod_code, .int mod_gates, .int mod_feeds, .int mod_inputs, .int mod_latches, .int mod_outputs, .ref a_mod_sort, .ref a_mod_number, .ref a_mod_value, .ref a_mod_made, .ref a_mod_to, .ref a_mod_from, .ref a_mod_outputOf, .ref a_mod_negated, .int mod_explored, .ref a_mod_settles, .ref a_mod_next, .ref a_mod_ones, .ref a_mod_distance, .ref a_mod_apart, .ref a_mod_leads])), (a_mod_sort, .inl (cI, 60, .inl mod_sort)), (a_mod_number, .inl (cI, 60, .inl mod_number)), (a_mod_value, .inl (cI, 60, .inl v15.1)), (a_mod_made, .inl (cI, 60, .inl v15.2)), (a_mod_to, .inl (cI, 240, .inl mod_to)), (a_mod_from, .inl (cI, 240, .inl mod_from)), (a_mod_negated, .inl (cZ, 240, .inl mod_negated)), (a_mod_settles, .inl (cZ, 4096, .inl (upd mod_settles (((16 : Int32) * p0) + p1).toNatClampNeg (vp_nar .boolean (1 : Int32))))), (a_mod_next, .inl (cI, 4096, .inl mod_next)), (a_mod_ones, .inl (cL, 4096, .inr (.inl mod_ones)))] H := hP
  have hD : va_D A [(h_mod, .inr (5, [.int mod_code, .int mod_gates, .int mod_feeds, .int mod_inputs, .int mod_latches, .int mod_outputs, .ref a_mod_sort, .ref a_mod_number, .ref a_mod_value, .ref a_mod_made, .ref a_mod_to, .ref a_mod_from, .ref a_mod_outputOf, .ref a_mod_negated, .int mod_explored, .ref a_mod_settles, .ref a_mod_next, .ref a_mod_ones, .ref a_mod_distance, .ref a_mod_apart, .ref a_mod_leads])), (a_mod_sort, .inl (cI, 60, .inl mod_sort)), (a_mod_number, .inl (cI, 60, .inl mod_number)), (a_mod_value, .inl (cI, 60, .inl v15.1)), (a_mod_made, .inl (cI, 60, .inl v15.2)), (a_mod_to, .inl (cI, 240, .inl mod_to)), (a_mod_from, .inl (cI, 240, .inl mod_from)), (a_mod_negated, .inl (cZ, 240, .inl mod_negated)), (a_mod_settles, .inl (cZ, 4096, .inl (upd mod_settles (((16 : Int32) * p0) + p1).toNatClampNeg (vp_nar .boolean (1 : Int32))))), (a_mod_next, .inl (cI, 4096, .inl mod_next)), (a_mod_ones, .inl (cL, 4096, .inr (.inl mod_ones)))] := hD
  refine lv_aload_n hx hb dMod_work_106 rfl (lv_at hl 0 rfl) ?_
  refine va_get (D := (dC, dI)) (ci := 5) (v := .ref a_mod_ones) (C := RMod) (T := TMod) (N := 21) hx hb hts inMod hown hK hP 0 rfl rfl 17 (by decide) (hts _ tw_628) (fun _ h9 => h9) rfl dMod_work_107 ?_
  refine lv_iload_n hx hb dMod_work_110 rfl (lv_at hl 2 rfl) ?_
  refine lv_lconst (v := (0 : Int64)) hx hb dMod_work_111 (by decide) ?_
  obtain ⟨g17, hm⟩ := gd_el hm
  refine va_last hx hb hK hP hD hS 10 1 rfl rfl g17 dMod_work_112 (fun H locs hP hD hS => ?_)
  have hP : va_P (dC, dI) vwCl [(h_mod, .inr (5, [.int mod_code, .int mod_gates, .int mod_feeds, .int mod_inputs, .int mod_latches, .int mod_outputs, .ref a_mod_sort, .ref a_mod_number, .ref a_mod_value, .ref a_mod_made, .ref a_mod_to, .ref a_mod_from, .ref a_mod_outputOf, .ref a_mod_negated, .int mod_explored, .ref a_mod_settles, .ref a_mod_next, .ref a_mod_ones, .ref a_mod_distance, .ref a_mod_apart, .ref a_mod_leads])), (a_mod_sort, .inl (cI, 60, .inl mod_sort)), (a_mod_number, .inl (cI, 60, .inl mod_number)), (a_mod_value, .inl (cI, 60, .inl v15.1)), (a_mod_made, .inl (cI, 60, .inl v15.2)), (a_mod_to, .inl (cI, 240, .inl mod_to)), (a_mod_from, .inl (cI, 240, .inl mod_from)), (a_mod_negated, .inl (cZ, 240, .inl mod_negated)), (a_mod_settles, .inl (cZ, 4096, .inl (upd mod_settles (((16 : Int32) * p0) + p1).toNatClampNeg (vp_nar .boolean (1 : Int32))))), (a_mod_next, .inl (cI, 4096, .inl mod_next)), (a_mod_ones, .inl (cL, 4096, .inr (.inl (vp_updL mod_ones (((16 : Int32) * p0) + p1).toNatClampNeg (0 : Int64)))))] H := hP
  have hD : va_D A [(h_mod, .inr (5, [.int mod_code, .int mod_gates, .int mod_feeds, .int mod_inputs, .int mod_latches, .int mod_outputs, .ref a_mod_sort, .ref a_mod_number, .ref a_mod_value, .ref a_mod_made, .ref a_mod_to, .ref a_mod_from, .ref a_mod_outputOf, .ref a_mod_negated, .int mod_explored, .ref a_mod_settles, .ref a_mod_next, .ref a_mod_ones, .ref a_mod_distance, .ref a_mod_apart, .ref a_mod_leads])), (a_mod_sort, .inl (cI, 60, .inl mod_sort)), (a_mod_number, .inl (cI, 60, .inl mod_number)), (a_mod_value, .inl (cI, 60, .inl v15.1)), (a_mod_made, .inl (cI, 60, .inl v15.2)), (a_mod_to, .inl (cI, 240, .inl mod_to)), (a_mod_from, .inl (cI, 240, .inl mod_from)), (a_mod_negated, .inl (cZ, 240, .inl mod_negated)), (a_mod_settles, .inl (cZ, 4096, .inl (upd mod_settles (((16 : Int32) * p0) + p1).toNatClampNeg (vp_nar .boolean (1 : Int32))))), (a_mod_next, .inl (cI, 4096, .inl mod_next)), (a_mod_ones, .inl (cL, 4096, .inr (.inl (vp_updL mod_ones (((16 : Int32) * p0) + p1).toNatClampNeg (0 : Int64)))))] := hD
  refine lv_iconst (v := (0 : Int32)) hx hb dMod_work_113 (by decide) ?_
  refine lv_istore (lv' := [(5, .int (0 : Int32)), (0, .ref h_mod), (1, .int p0), (3, .int (((16 : Int32) * p0) + p1))]) hx hb dMod_work_114 hl (by decide) rfl (fun ls hl => ?_)
  obtain ⟨v32, hv32, hm⟩ := sx_bind hm
  refine w_Mod_work_116 C0 h_mod a_mod_sort a_mod_number a_mod_value a_mod_made a_mod_to a_mod_from a_mod_outputOf a_mod_negated a_mod_settles a_mod_next a_mod_ones a_mod_distance a_mod_apart a_mod_leads mod_code mod_gates mod_feeds mod_inputs mod_latches mod_outputs mod_sort mod_number v15.1 v15.2 mod_to mod_from mod_negated mod_explored mod_next p0 (((16 : Int32) * p0) + p1) _ (0 : Int32) (upd mod_settles (((16 : Int32) * p0) + p1).toNatClampNeg (vp_nar .boolean (1 : Int32))) (vp_updL mod_ones (((16 : Int32) * p0) + p1).toNatClampNeg (0 : Int64)) v32 hv32 _ _ _ hP hD hS (lv_sub hl [1, 2, 3, 0] rfl) ?_
  intro H locs ls hP hD hS hl
  refine lv_aload_n hx hb dMod_work_199 rfl (lv_at hl 0 rfl) ?_
  refine va_get (D := (dC, dI)) (ci := 5) (v := .ref a_mod_next) (C := RMod) (T := TMod) (N := 21) hx hb hts inMod hown hK hP 0 rfl rfl 16 (by decide) (hts _ tw_627) (fun _ h9 => h9) rfl dMod_work_200 ?_
  refine lv_iload_n hx hb dMod_work_203 rfl (lv_at hl 2 rfl) ?_
  refine lv_iload_n hx hb dMod_work_204 rfl (lv_at hl 1 rfl) ?_
  obtain ⟨g33, hm⟩ := gd_el hm
  refine va_iast hx hb hK hP hD hS 9 0 rfl rfl g33 dMod_work_205 (fun H locs hP hD hS => ?_)
  have hP : va_P (dC, dI) vwCl [(h_mod, .inr (5, [.int mod_code, .int mod_gates, .int mod_feeds, .int mod_inputs, .int mod_latches, .int mod_outputs, .ref a_mod_sort, .ref a_mod_number, .ref a_mod_value, .ref a_mod_made, .ref a_mod_to, .ref a_mod_from, .ref a_mod_outputOf, .ref a_mod_negated, .int mod_explored, .ref a_mod_settles, .ref a_mod_next, .ref a_mod_ones, .ref a_mod_distance, .ref a_mod_apart, .ref a_mod_leads])), (a_mod_sort, .inl (cI, 60, .inl mod_sort)), (a_mod_number, .inl (cI, 60, .inl mod_number)), (a_mod_value, .inl (cI, 60, .inl v15.1)), (a_mod_made, .inl (cI, 60, .inl v15.2)), (a_mod_to, .inl (cI, 240, .inl mod_to)), (a_mod_from, .inl (cI, 240, .inl mod_from)), (a_mod_negated, .inl (cZ, 240, .inl mod_negated)), (a_mod_settles, .inl (cZ, 4096, .inl v32.1)), (a_mod_next, .inl (cI, 4096, .inl (upd mod_next (((16 : Int32) * p0) + p1).toNatClampNeg p0))), (a_mod_ones, .inl (cL, 4096, .inr (.inl v32.2)))] H := hP
  have hD : va_D A [(h_mod, .inr (5, [.int mod_code, .int mod_gates, .int mod_feeds, .int mod_inputs, .int mod_latches, .int mod_outputs, .ref a_mod_sort, .ref a_mod_number, .ref a_mod_value, .ref a_mod_made, .ref a_mod_to, .ref a_mod_from, .ref a_mod_outputOf, .ref a_mod_negated, .int mod_explored, .ref a_mod_settles, .ref a_mod_next, .ref a_mod_ones, .ref a_mod_distance, .ref a_mod_apart, .ref a_mod_leads])), (a_mod_sort, .inl (cI, 60, .inl mod_sort)), (a_mod_number, .inl (cI, 60, .inl mod_number)), (a_mod_value, .inl (cI, 60, .inl v15.1)), (a_mod_made, .inl (cI, 60, .inl v15.2)), (a_mod_to, .inl (cI, 240, .inl mod_to)), (a_mod_from, .inl (cI, 240, .inl mod_from)), (a_mod_negated, .inl (cZ, 240, .inl mod_negated)), (a_mod_settles, .inl (cZ, 4096, .inl v32.1)), (a_mod_next, .inl (cI, 4096, .inl (upd mod_next (((16 : Int32) * p0) + p1).toNatClampNeg p0))), (a_mod_ones, .inl (cL, 4096, .inr (.inl v32.2)))] := hD
  refine lv_iconst (v := (0 : Int32)) hx hb dMod_work_206 (by decide) ?_
  refine lv_istore (lv' := [(5, .int (0 : Int32)), (0, .ref h_mod), (1, .int p0), (3, .int (((16 : Int32) * p0) + p1))]) hx hb dMod_work_207 hl (by decide) rfl (fun ls hl => ?_)
  obtain ⟨v48, hv48, hm⟩ := sx_bind hm
  refine w_Mod_work_209 C0 h_mod a_mod_sort a_mod_number a_mod_value a_mod_made a_mod_to a_mod_from a_mod_outputOf a_mod_negated a_mod_settles a_mod_next a_mod_ones a_mod_distance a_mod_apart a_mod_leads mod_code mod_gates mod_feeds mod_inputs mod_latches mod_outputs mod_sort mod_number v15.1 v15.2 mod_to mod_from mod_negated mod_explored v32.1 v32.2 (((16 : Int32) * p0) + p1) _ (0 : Int32) (upd mod_next (((16 : Int32) * p0) + p1).toNatClampNeg p0) v48 hv48 _ _ _ hP hD hS (lv_sub hl [1, 3, 0] rfl) ?_
  intro H locs ls hP hD hS hl
  obtain rfl := Option.some.inj hm
  exact W.vret hx hb hr (fun t ht hW => ⟨⟨(), rfl, trivial, sx_Wi hP hK hD ht hW.alike⟩, hS.F ht⟩) hS.2.2 dMod_work_298
noncomputable def m_Mod_states (mod_latches : Int32)  : Option (Int32) := some ((1 : Int32) <<< (mod_latches &&& 31))
def rm_Mod_states : Room := { frames := 0, cells := 0, slots := 0, locals := 0 }
set_option maxHeartbeats 4000000 in
set_option maxRecDepth 100000 in
theorem k_Mod_states (l : Launch) (dC : Nat → ClassId) (dI : Nat → Nat → Nat) (cI cL cZ : ClassId) (t1 t2 : Nat) (h_mod a_mod_sort a_mod_number a_mod_value a_mod_made a_mod_to a_mod_from a_mod_outputOf a_mod_negated a_mod_settles a_mod_next a_mod_ones a_mod_distance a_mod_apart a_mod_leads : Nat) (mod_code mod_gates mod_feeds mod_inputs mod_latches mod_outputs mod_explored : Int32) (sz : Nat)  (v : Int32) (hm : m_Mod_states mod_latches = some v) : Met l yMod_states wsMod_states rm_Mod_states (sx_Pc (dC, dI) [(cI, .int), (cL, .long), (cZ, .boolean)] t1 t2 [(h_mod, .inr (5, [.int mod_code, .int mod_gates, .int mod_feeds, .int mod_inputs, .int mod_latches, .int mod_outputs, .ref a_mod_sort, .ref a_mod_number, .ref a_mod_value, .ref a_mod_made, .ref a_mod_to, .ref a_mod_from, .ref a_mod_outputOf, .ref a_mod_negated, .int mod_explored, .ref a_mod_settles, .ref a_mod_next, .ref a_mod_ones, .ref a_mod_distance, .ref a_mod_apart, .ref a_mod_leads]))] sz [.ref h_mod]) (sx_Si v) 0 0 (fun _ => False) := by
  refine Met.ofW (cc := cMod_states) (maxL := 1) (ret := (some .int)) (by decide) rfl ?_
  intro p e s m args below meth c s₁ B hml hv
  obtain ⟨rfl, hsz, hP, hK, hD0, hX⟩ := hv
  have hx := B.exec
  have hb := B.bytes
  have hr := B.returns
  have hts0 := atoms_spec (ws := wsMod_states) B.pre
  have hts : ∀ w ∈ tb, w.before _ s = true := fun w h => hts0 w (List.mem_cons_of_mem _ h)
  have hown : s.vm.findClass "StateExplorerModel" = some m.cls := findClass_of_methodNamed B.named
  have hlocks := B.notSynchronized
  subst hsz
  have hD := hD0.self (sz := s.heap.size)
  generalize hAe : va_A [(h_mod, .inr (5, [.int mod_code, .int mod_gates, .int mod_feeds, .int mod_inputs, .int mod_latches, .int mod_outputs, .ref a_mod_sort, .ref a_mod_number, .ref a_mod_value, .ref a_mod_made, .ref a_mod_to, .ref a_mod_from, .ref a_mod_outputOf, .ref a_mod_negated, .int mod_explored, .ref a_mod_settles, .ref a_mod_next, .ref a_mod_ones, .ref a_mod_distance, .ref a_mod_apart, .ref a_mod_leads]))] s.heap.size = A at hD hX 
  have hA : ∀ q : Nat, s.heap.size ≤ q → A q := fun q h => by rw [← hAe]; exact Or.inr h
  have hS : va_S A s.heap s.heap [] := va_S.rf
  have hl := lv_entry ([.ref h_mod]) (n := 1) (Nat.le_of_ble_eq_true rfl)
  rw [lg_entry_eq]
  generalize (lg_sl ([.ref h_mod]) ++ List.replicate (1 - (lg_sl ([.ref h_mod])).length) Slot.unset).toArray = ls at hl ⊢
  have hl : lv_has ls 1 [(0, .ref h_mod)] := hl
  have C0 : sx_C p s m _ meth c cMod_states 1 "StateExplorerModel" A (dC, dI) [(cI, .int), (cL, .long), (cZ, .boolean)] t1 t2 := ⟨hx, hb, hml, hown, hts, hA, hK, hlocks, hX⟩
  rw [m_Mod_states] at hm
  refine lv_iconst (v := (1 : Int32)) hx hb dMod_states_0 (by decide) ?_
  refine lv_aload_n hx hb dMod_states_1 rfl (lv_at hl 0 rfl) ?_
  refine va_get (D := (dC, dI)) (ci := 5) (v := .int mod_latches) (C := RMod) (T := TMod) (N := 21) hx hb hts inMod hown hK hP 0 rfl rfl 4 (by decide) (hts _ tw_615) (fun _ h9 => h9) rfl dMod_states_2 ?_
  refine lv_ishl hx hb dMod_states_5 ?_
  obtain rfl := Option.some.inj hm
  exact W.iret (v := (1 : Int32) <<< (mod_latches &&& 31)) hx hb hr (fun t ht hW => ⟨rfl, ht⟩) (fun q hq => nomatch hq) dMod_states_6
noncomputable def m_Mod_choices (mod_inputs : Int32)  : Option (Int32) := some ((1 : Int32) <<< (mod_inputs &&& 31))
def rm_Mod_choices : Room := { frames := 0, cells := 0, slots := 0, locals := 0 }
set_option maxHeartbeats 4000000 in
set_option maxRecDepth 100000 in
theorem k_Mod_choices (l : Launch) (dC : Nat → ClassId) (dI : Nat → Nat → Nat) (cI cL cZ : ClassId) (t1 t2 : Nat) (h_mod a_mod_sort a_mod_number a_mod_value a_mod_made a_mod_to a_mod_from a_mod_outputOf a_mod_negated a_mod_settles a_mod_next a_mod_ones a_mod_distance a_mod_apart a_mod_leads : Nat) (mod_code mod_gates mod_feeds mod_inputs mod_latches mod_outputs mod_explored : Int32) (sz : Nat)  (v : Int32) (hm : m_Mod_choices mod_inputs = some v) : Met l yMod_choices wsMod_choices rm_Mod_choices (sx_Pc (dC, dI) [(cI, .int), (cL, .long), (cZ, .boolean)] t1 t2 [(h_mod, .inr (5, [.int mod_code, .int mod_gates, .int mod_feeds, .int mod_inputs, .int mod_latches, .int mod_outputs, .ref a_mod_sort, .ref a_mod_number, .ref a_mod_value, .ref a_mod_made, .ref a_mod_to, .ref a_mod_from, .ref a_mod_outputOf, .ref a_mod_negated, .int mod_explored, .ref a_mod_settles, .ref a_mod_next, .ref a_mod_ones, .ref a_mod_distance, .ref a_mod_apart, .ref a_mod_leads]))] sz [.ref h_mod]) (sx_Si v) 0 0 (fun _ => False) := by
  refine Met.ofW (cc := cMod_choices) (maxL := 1) (ret := (some .int)) (by decide) rfl ?_
  intro p e s m args below meth c s₁ B hml hv
  obtain ⟨rfl, hsz, hP, hK, hD0, hX⟩ := hv
  have hx := B.exec
  have hb := B.bytes
  have hr := B.returns
  have hts0 := atoms_spec (ws := wsMod_choices) B.pre
  have hts : ∀ w ∈ tb, w.before _ s = true := fun w h => hts0 w (List.mem_cons_of_mem _ h)
  have hown : s.vm.findClass "StateExplorerModel" = some m.cls := findClass_of_methodNamed B.named
  have hlocks := B.notSynchronized
  subst hsz
  have hD := hD0.self (sz := s.heap.size)
  generalize hAe : va_A [(h_mod, .inr (5, [.int mod_code, .int mod_gates, .int mod_feeds, .int mod_inputs, .int mod_latches, .int mod_outputs, .ref a_mod_sort, .ref a_mod_number, .ref a_mod_value, .ref a_mod_made, .ref a_mod_to, .ref a_mod_from, .ref a_mod_outputOf, .ref a_mod_negated, .int mod_explored, .ref a_mod_settles, .ref a_mod_next, .ref a_mod_ones, .ref a_mod_distance, .ref a_mod_apart, .ref a_mod_leads]))] s.heap.size = A at hD hX 
  have hA : ∀ q : Nat, s.heap.size ≤ q → A q := fun q h => by rw [← hAe]; exact Or.inr h
  have hS : va_S A s.heap s.heap [] := va_S.rf
  have hl := lv_entry ([.ref h_mod]) (n := 1) (Nat.le_of_ble_eq_true rfl)
  rw [lg_entry_eq]
  generalize (lg_sl ([.ref h_mod]) ++ List.replicate (1 - (lg_sl ([.ref h_mod])).length) Slot.unset).toArray = ls at hl ⊢
  have hl : lv_has ls 1 [(0, .ref h_mod)] := hl
  have C0 : sx_C p s m _ meth c cMod_choices 1 "StateExplorerModel" A (dC, dI) [(cI, .int), (cL, .long), (cZ, .boolean)] t1 t2 := ⟨hx, hb, hml, hown, hts, hA, hK, hlocks, hX⟩
  rw [m_Mod_choices] at hm
  refine lv_iconst (v := (1 : Int32)) hx hb dMod_choices_0 (by decide) ?_
  refine lv_aload_n hx hb dMod_choices_1 rfl (lv_at hl 0 rfl) ?_
  refine va_get (D := (dC, dI)) (ci := 5) (v := .int mod_inputs) (C := RMod) (T := TMod) (N := 21) hx hb hts inMod hown hK hP 0 rfl rfl 3 (by decide) (hts _ tw_614) (fun _ h9 => h9) rfl dMod_choices_2 ?_
  refine lv_ishl hx hb dMod_choices_5 ?_
  obtain rfl := Option.some.inj hm
  exact W.iret (v := (1 : Int32) <<< (mod_inputs &&& 31)) hx hb hr (fun t ht hW => ⟨rfl, ht⟩) (fun q hq => nomatch hq) dMod_choices_6
noncomputable def L_Mod_reached_4 (mod_latches : Int32) (mod_distance : Nat → Int32) : Nat → Int32 → Int32 → Option (Int32)
  | 0, _, _ => none
  | n + 1, x1, x2 => (m_Mod_states mod_latches).bind (fun v1 => (if v1 ≤ x2 then some x1 else gd (vp_in x2 256) ((if mod_distance x2.toNatClampNeg < (0 : Int32) then (L_Mod_reached_4 mod_latches mod_distance n x1 (x2 + (1 : Int32))) else (L_Mod_reached_4 mod_latches mod_distance n (x1 + (1 : Int32)) (x2 + (1 : Int32)))))))
noncomputable def m_Mod_reached (mod_latches : Int32) (mod_distance : Nat → Int32)  : Option (Int32) := ((L_Mod_reached_4 mod_latches mod_distance fu (0 : Int32) (0 : Int32)).bind (fun v6 => some v6))
def rm_Mod_reached : Room := { frames := 1, cells := 0, slots := 0, locals := 20 }
set_option maxHeartbeats 4000000 in
set_option maxRecDepth 100000 in
theorem w_Mod_reached_4 {p : Program} {l : Launch} {e : Env} {s : State} {m : MethodId} {args : Array Value} {below : List Frame} {meth : Method} {c : Code} {dC : Nat → ClassId} {dI : Nat → Nat → Nat} {cI cL cZ : ClassId} {A : Nat → Prop} {Q : State → Prop} {t1 t2 : Nat} (C0 : sx_C p s m args meth c cMod_reached 3 "StateExplorerModel" A (dC, dI) [(cI, .int), (cL, .long), (cZ, .boolean)] t1 t2) (h_mod a_mod_sort a_mod_number a_mod_value a_mod_made a_mod_to a_mod_from a_mod_outputOf a_mod_negated a_mod_settles a_mod_next a_mod_ones a_mod_distance a_mod_apart a_mod_leads : Nat) (mod_code mod_gates mod_feeds mod_inputs mod_latches mod_outputs mod_explored : Int32) (mod_distance : Nat → Int32)  {H : Heap} {locs : List Loc} (hP : va_P (dC, dI) vwCl [(h_mod, .inr (5, [.int mod_code, .int mod_gates, .int mod_feeds, .int mod_inputs, .int mod_latches, .int mod_outputs, .ref a_mod_sort, .ref a_mod_number, .ref a_mod_value, .ref a_mod_made, .ref a_mod_to, .ref a_mod_from, .ref a_mod_outputOf, .ref a_mod_negated, .int mod_explored, .ref a_mod_settles, .ref a_mod_next, .ref a_mod_ones, .ref a_mod_distance, .ref a_mod_apart, .ref a_mod_leads])), (a_mod_distance, .inl (cI, 256, .inl mod_distance))] H) (hD : va_D A [(h_mod, .inr (5, [.int mod_code, .int mod_gates, .int mod_feeds, .int mod_inputs, .int mod_latches, .int mod_outputs, .ref a_mod_sort, .ref a_mod_number, .ref a_mod_value, .ref a_mod_made, .ref a_mod_to, .ref a_mod_from, .ref a_mod_outputOf, .ref a_mod_negated, .int mod_explored, .ref a_mod_settles, .ref a_mod_next, .ref a_mod_ones, .ref a_mod_distance, .ref a_mod_apart, .ref a_mod_leads])), (a_mod_distance, .inl (cI, 256, .inl mod_distance))]) (hS : va_S A s.heap H locs) :
    ∀ (n : Nat) (x1 : Int32) (x2 : Int32)  (r : Int32), L_Mod_reached_4 mod_latches mod_distance n x1 x2 = some r → ∀ (ls : Array Slot), lv_has ls 3 [(0, .ref h_mod), (1, .int x1), (2, .int x2)] →
    (∀ (ls : Array Slot), lv_has ls 3 [(1, .int r)] → W p l e (headSpec wsMod_reached rm_Mod_reached).room s m args below meth c H locs 0 0 Q (F0 m 35 ls [])) →
    W p l e (headSpec wsMod_reached rm_Mod_reached).room s m args below meth c H locs 0 0 Q (F0 m 4 ls []) := by
  obtain ⟨hx, hb, hml, hown, hts, hA, hK, hlocks, hX⟩ := id C0
  intro n
  induction n with
  | zero => intro x1 x2 r hm; rw [L_Mod_reached_4] at hm; cases hm
  | succ n ih =>
    intro x1 x2 r hm ls hl k1
    rw [L_Mod_reached_4] at hm
    refine lv_iload_n hx hb dMod_reached_4 rfl (lv_at hl 2 rfl) ?_
    refine lv_aload_n hx hb dMod_reached_5 rfl (lv_at hl 0 rfl) ?_
    obtain ⟨v1, hv1, hm⟩ := sx_bind hm
    have hPc := hP.sub (ws' := [(h_mod, .inr (5, [.int mod_code, .int mod_gates, .int mod_feeds, .int mod_inputs, .int mod_latches, .int mod_outputs, .ref a_mod_sort, .ref a_mod_number, .ref a_mod_value, .ref a_mod_made, .ref a_mod_to, .ref a_mod_from, .ref a_mod_outputOf, .ref a_mod_negated, .int mod_explored, .ref a_mod_settles, .ref a_mod_next, .ref a_mod_ones, .ref a_mod_distance, .ref a_mod_apart, .ref a_mod_leads]))]) [0] rfl
    have hDc := hD.sub (ws' := [(h_mod, .inr (5, [.int mod_code, .int mod_gates, .int mod_feeds, .int mod_inputs, .int mod_latches, .int mod_outputs, .ref a_mod_sort, .ref a_mod_number, .ref a_mod_value, .ref a_mod_made, .ref a_mod_to, .ref a_mod_from, .ref a_mod_outputOf, .ref a_mod_negated, .int mod_explored, .ref a_mod_settles, .ref a_mod_next, .ref a_mod_ones, .ref a_mod_distance, .ref a_mod_apart, .ref a_mod_leads]))]) [0] (by decide) rfl
    have hFc := va_free (wc := [(h_mod, .inr (5, [.int mod_code, .int mod_gates, .int mod_feeds, .int mod_inputs, .int mod_latches, .int mod_outputs, .ref a_mod_sort, .ref a_mod_number, .ref a_mod_value, .ref a_mod_made, .ref a_mod_to, .ref a_mod_from, .ref a_mod_outputOf, .ref a_mod_negated, .int mod_explored, .ref a_mod_settles, .ref a_mod_next, .ref a_mod_ones, .ref a_mod_distance, .ref a_mod_apart, .ref a_mod_leads]))]) hD hS hA [0] rfl
    refine sx_stI (va_runV (As := []) (rest := [.int x2]) ⟨hx, hb, hml, hown, hts⟩ (k_Mod_states l dC dI cI cL cZ t1 t2 h_mod a_mod_sort a_mod_number a_mod_value a_mod_made a_mod_to a_mod_from a_mod_outputOf a_mod_negated a_mod_settles a_mod_next a_mod_ones a_mod_distance a_mod_apart a_mod_leads mod_code mod_gates mod_feeds mod_inputs mod_latches mod_outputs mod_explored _ v1 hv1) (cwV 0 hts (sx_gV tw_708 tw_710 tw_22 tw_41 tcMod_states) rfl rfl rfl (by decide +kernel) ⟨Nat.le_of_ble_eq_true rfl, Nat.le_of_ble_eq_true rfl⟩) (sx_pV hK hX hS hPc hDc hFc (va_recv hK hPc (ci := 5) (q0 := 0) rfl rfl)) rfl rfl hl.1 rfl (lv_room (Nat.le_of_ble_eq_true rfl)) dMod_reached_6 ⟨Nat.le_of_ble_eq_true rfl, Nat.le_of_ble_eq_true rfl⟩) ?_
    refine lv_icmp_ge (tgt := 35) hx hb dMod_reached_9 (by decide) (fun c3 => ?_) (fun c3 => ?_)
    · have hm := sx_pos c3 hm
      obtain rfl := Option.some.inj hm
      exact k1 _ (lv_sub hl [1] rfl)
    · have hm := sx_neg c3 hm
      refine lv_aload_n hx hb dMod_reached_12 rfl (lv_at hl 0 rfl) ?_
      refine va_get (D := (dC, dI)) (ci := 5) (v := .ref a_mod_distance) (C := RMod) (T := TMod) (N := 21) hx hb hts inMod hown hK hP 0 rfl rfl 18 (by decide) (hts _ tw_629) (fun _ h9 => h9) rfl dMod_reached_13 ?_
      refine lv_iload_n hx hb dMod_reached_16 rfl (lv_at hl 2 rfl) ?_
      obtain ⟨g4, hm⟩ := gd_el hm
      refine va_iald hx hb hK hP 1 0 rfl rfl g4 dMod_reached_17 ?_
      refine lv_if_lt (tgt := 27) hx hb dMod_reached_18 (by decide) (fun c5 => ?_) (fun c5 => ?_)
      · have hm := sx_pos c5 hm
        refine lv_iload_n hx hb dMod_reached_27 rfl (lv_at hl 1 rfl) ?_
        refine lv_istore_n (lv' := [(1, .int x1), (0, .ref h_mod), (2, .int x2)]) hx hb dMod_reached_28 rfl hl (by decide) rfl (fun ls hl => ?_)
        refine lv_iinc (v := x2 + (1 : Int32)) (lv' := [(2, .int (x2 + (1 : Int32))), (1, .int x1), (0, .ref h_mod)]) hx hb dMod_reached_29 hl (k := 2) rfl rfl (by decide) rfl (fun ls hl => ?_)
        refine lv_goto (tgt := 4) hx hb dMod_reached_32 (by decide) ?_
        exact ih x1 (x2 + (1 : Int32)) r hm _ (lv_sub hl [2, 1, 0] rfl) k1
      · have hm := sx_neg c5 hm
        refine lv_iload_n hx hb dMod_reached_21 rfl (lv_at hl 1 rfl) ?_
        refine lv_iconst (v := (1 : Int32)) hx hb dMod_reached_22 (by decide) ?_
        refine lv_iadd hx hb dMod_reached_23 ?_
        refine lv_goto (tgt := 28) hx hb dMod_reached_24 (by decide) ?_
        refine lv_istore_n (lv' := [(1, .int (x1 + (1 : Int32))), (0, .ref h_mod), (2, .int x2)]) hx hb dMod_reached_28 rfl hl (by decide) rfl (fun ls hl => ?_)
        refine lv_iinc (v := x2 + (1 : Int32)) (lv' := [(2, .int (x2 + (1 : Int32))), (1, .int (x1 + (1 : Int32))), (0, .ref h_mod)]) hx hb dMod_reached_29 hl (k := 2) rfl rfl (by decide) rfl (fun ls hl => ?_)
        refine lv_goto (tgt := 4) hx hb dMod_reached_32 (by decide) ?_
        exact ih (x1 + (1 : Int32)) (x2 + (1 : Int32)) r hm _ (lv_sub hl [2, 1, 0] rfl) k1
set_option maxHeartbeats 4000000 in
set_option maxRecDepth 100000 in
theorem k_Mod_reached (l : Launch) (dC : Nat → ClassId) (dI : Nat → Nat → Nat) (cI cL cZ : ClassId) (t1 t2 : Nat) (h_mod a_mod_sort a_mod_number a_mod_value a_mod_made a_mod_to a_mod_from a_mod_outputOf a_mod_negated a_mod_settles a_mod_next a_mod_ones a_mod_distance a_mod_apart a_mod_leads : Nat) (mod_code mod_gates mod_feeds mod_inputs mod_latches mod_outputs mod_explored : Int32) (mod_distance : Nat → Int32) (sz : Nat)  (v : Int32) (hm : m_Mod_reached mod_latches mod_distance = some v) : Met l yMod_reached wsMod_reached rm_Mod_reached (sx_Pc (dC, dI) [(cI, .int), (cL, .long), (cZ, .boolean)] t1 t2 [(h_mod, .inr (5, [.int mod_code, .int mod_gates, .int mod_feeds, .int mod_inputs, .int mod_latches, .int mod_outputs, .ref a_mod_sort, .ref a_mod_number, .ref a_mod_value, .ref a_mod_made, .ref a_mod_to, .ref a_mod_from, .ref a_mod_outputOf, .ref a_mod_negated, .int mod_explored, .ref a_mod_settles, .ref a_mod_next, .ref a_mod_ones, .ref a_mod_distance, .ref a_mod_apart, .ref a_mod_leads])), (a_mod_distance, .inl (cI, 256, .inl mod_distance))] sz [.ref h_mod]) (sx_Si v) 0 0 (fun _ => False) := by
  refine Met.ofW (cc := cMod_reached) (maxL := 3) (ret := (some .int)) (by decide) rfl ?_
  intro p e s m args below meth c s₁ B hml hv
  obtain ⟨rfl, hsz, hP, hK, hD0, hX⟩ := hv
  have hx := B.exec
  have hb := B.bytes
  have hr := B.returns
  have hts0 := atoms_spec (ws := wsMod_reached) B.pre
  have hts : ∀ w ∈ tb, w.before _ s = true := fun w h => hts0 w (List.mem_cons_of_mem _ h)
  have hown : s.vm.findClass "StateExplorerModel" = some m.cls := findClass_of_methodNamed B.named
  have hlocks := B.notSynchronized
  subst hsz
  have hD := hD0.self (sz := s.heap.size)
  generalize hAe : va_A [(h_mod, .inr (5, [.int mod_code, .int mod_gates, .int mod_feeds, .int mod_inputs, .int mod_latches, .int mod_outputs, .ref a_mod_sort, .ref a_mod_number, .ref a_mod_value, .ref a_mod_made, .ref a_mod_to, .ref a_mod_from, .ref a_mod_outputOf, .ref a_mod_negated, .int mod_explored, .ref a_mod_settles, .ref a_mod_next, .ref a_mod_ones, .ref a_mod_distance, .ref a_mod_apart, .ref a_mod_leads])), (a_mod_distance, .inl (cI, 256, .inl mod_distance))] s.heap.size = A at hD hX 
  have hA : ∀ q : Nat, s.heap.size ≤ q → A q := fun q h => by rw [← hAe]; exact Or.inr h
  have hS : va_S A s.heap s.heap [] := va_S.rf
  have hl := lv_entry ([.ref h_mod]) (n := 3) (Nat.le_of_ble_eq_true rfl)
  rw [lg_entry_eq]
  generalize (lg_sl ([.ref h_mod]) ++ List.replicate (3 - (lg_sl ([.ref h_mod])).length) Slot.unset).toArray = ls at hl ⊢
  have hl : lv_has ls 3 [(0, .ref h_mod)] := hl
  have C0 : sx_C p s m _ meth c cMod_reached 3 "StateExplorerModel" A (dC, dI) [(cI, .int), (cL, .long), (cZ, .boolean)] t1 t2 := ⟨hx, hb, hml, hown, hts, hA, hK, hlocks, hX⟩
  rw [m_Mod_reached] at hm
  refine lv_iconst (v := (0 : Int32)) hx hb dMod_reached_0 (by decide) ?_
  refine lv_istore_n (lv' := [(1, .int (0 : Int32)), (0, .ref h_mod)]) hx hb dMod_reached_1 rfl hl (by decide) rfl (fun ls hl => ?_)
  refine lv_iconst (v := (0 : Int32)) hx hb dMod_reached_2 (by decide) ?_
  refine lv_istore_n (lv' := [(2, .int (0 : Int32)), (1, .int (0 : Int32)), (0, .ref h_mod)]) hx hb dMod_reached_3 rfl hl (by decide) rfl (fun ls hl => ?_)
  obtain ⟨v6, hv6, hm⟩ := sx_bind hm
  refine w_Mod_reached_4 C0 h_mod a_mod_sort a_mod_number a_mod_value a_mod_made a_mod_to a_mod_from a_mod_outputOf a_mod_negated a_mod_settles a_mod_next a_mod_ones a_mod_distance a_mod_apart a_mod_leads mod_code mod_gates mod_feeds mod_inputs mod_latches mod_outputs mod_explored mod_distance hP hD hS _ (0 : Int32) (0 : Int32) v6 hv6 _ (lv_sub hl [2, 1, 0] rfl) ?_
  intro ls hl
  refine lv_iload_n hx hb dMod_reached_35 rfl (lv_at hl 0 rfl) ?_
  obtain rfl := Option.some.inj hm
  exact W.iret (v := v6) hx hb hr (fun t ht hW => ⟨rfl, ht⟩) (fun q hq => nomatch hq) dMod_reached_36
noncomputable def L_Mod_shows_6 (mod_outputs : Int32) (mod_outputOf : Nat → Int32) (mod_ones : Nat → Int64) (x1 : Int32) (x2 : Int32) (x3 : Int32) : Nat → Int32 → Int32 → Option (Int32)
  | 0, _, _ => none
  | n + 1, x4, x5 => (if mod_outputs ≤ x5 then some x4 else (if x4 = (0 : Int32) then (L_Mod_shows_6 mod_outputs mod_outputOf mod_ones x1 x2 x3 n (0 : Int32) (x5 + (1 : Int32))) else gd (vp_in (((16 : Int32) * x1) + x3) 4096) (gd (vp_in x5 6) (gd (vp_in (((16 : Int32) * x2) + x3) 4096) (gd (vp_in x5 6) ((if lg_cmp (((mod_ones (((16 : Int32) * x1) + x3).toNatClampNeg) >>> ((mod_outputOf x5.toNatClampNeg).toInt64 &&& 63)) &&& (1 : Int64)) (((mod_ones (((16 : Int32) * x2) + x3).toNatClampNeg) >>> ((mod_outputOf x5.toNatClampNeg).toInt64 &&& 63)) &&& (1 : Int64)) = (0 : Int32) then (L_Mod_shows_6 mod_outputs mod_outputOf mod_ones x1 x2 x3 n (1 : Int32) (x5 + (1 : Int32))) else (L_Mod_shows_6 mod_outputs mod_outputOf mod_ones x1 x2 x3 n (0 : Int32) (x5 + (1 : Int32))))))))))
noncomputable def m_Mod_shows (mod_outputs : Int32) (mod_outputOf : Nat → Int32) (mod_ones : Nat → Int64) (p0 : Int32) (p1 : Int32) (p2 : Int32) : Option (Int32) := ((L_Mod_shows_6 mod_outputs mod_outputOf mod_ones p0 p1 p2 fu (1 : Int32) (0 : Int32)).bind (fun v8 => gd (sx_zok v8) (some v8)))
def rm_Mod_shows : Room := { frames := 0, cells := 0, slots := 0, locals := 0 }
set_option maxHeartbeats 4000000 in
set_option maxRecDepth 100000 in
theorem w_Mod_shows_6 {p : Program} {l : Launch} {e : Env} {s : State} {m : MethodId} {args : Array Value} {below : List Frame} {meth : Method} {c : Code} {dC : Nat → ClassId} {dI : Nat → Nat → Nat} {cI cL cZ : ClassId} {A : Nat → Prop} {Q : State → Prop} {t1 t2 : Nat} (C0 : sx_C p s m args meth c cMod_shows 6 "StateExplorerModel" A (dC, dI) [(cI, .int), (cL, .long), (cZ, .boolean)] t1 t2) (h_mod a_mod_sort a_mod_number a_mod_value a_mod_made a_mod_to a_mod_from a_mod_outputOf a_mod_negated a_mod_settles a_mod_next a_mod_ones a_mod_distance a_mod_apart a_mod_leads : Nat) (mod_code mod_gates mod_feeds mod_inputs mod_latches mod_outputs : Int32) (mod_outputOf : Nat → Int32) (mod_explored : Int32) (mod_ones : Nat → Int64) (x1 : Int32) (x2 : Int32) (x3 : Int32) {H : Heap} {locs : List Loc} (hP : va_P (dC, dI) vwCl [(h_mod, .inr (5, [.int mod_code, .int mod_gates, .int mod_feeds, .int mod_inputs, .int mod_latches, .int mod_outputs, .ref a_mod_sort, .ref a_mod_number, .ref a_mod_value, .ref a_mod_made, .ref a_mod_to, .ref a_mod_from, .ref a_mod_outputOf, .ref a_mod_negated, .int mod_explored, .ref a_mod_settles, .ref a_mod_next, .ref a_mod_ones, .ref a_mod_distance, .ref a_mod_apart, .ref a_mod_leads])), (a_mod_outputOf, .inl (cI, 6, .inl mod_outputOf)), (a_mod_ones, .inl (cL, 4096, .inr (.inl mod_ones)))] H) (hD : va_D A [(h_mod, .inr (5, [.int mod_code, .int mod_gates, .int mod_feeds, .int mod_inputs, .int mod_latches, .int mod_outputs, .ref a_mod_sort, .ref a_mod_number, .ref a_mod_value, .ref a_mod_made, .ref a_mod_to, .ref a_mod_from, .ref a_mod_outputOf, .ref a_mod_negated, .int mod_explored, .ref a_mod_settles, .ref a_mod_next, .ref a_mod_ones, .ref a_mod_distance, .ref a_mod_apart, .ref a_mod_leads])), (a_mod_outputOf, .inl (cI, 6, .inl mod_outputOf)), (a_mod_ones, .inl (cL, 4096, .inr (.inl mod_ones)))]) (hS : va_S A s.heap H locs) :
    ∀ (n : Nat) (x4 : Int32) (x5 : Int32)  (r : Int32), L_Mod_shows_6 mod_outputs mod_outputOf mod_ones x1 x2 x3 n x4 x5 = some r → ∀ (ls : Array Slot), lv_has ls 6 [(0, .ref h_mod), (1, .int x1), (2, .int x2), (3, .int x3), (4, .int x4), (5, .int x5)] →
    (∀ (ls : Array Slot), lv_has ls 6 [(4, .int r)] → W p l e (headSpec wsMod_shows rm_Mod_shows).room s m args below meth c H locs 0 0 Q (F0 m 79 ls [])) →
    W p l e (headSpec wsMod_shows rm_Mod_shows).room s m args below meth c H locs 0 0 Q (F0 m 6 ls []) := by
  obtain ⟨hx, hb, hml, hown, hts, hA, hK, hlocks, hX⟩ := id C0
  intro n
  induction n with
  | zero => intro x4 x5 r hm; rw [L_Mod_shows_6] at hm; cases hm
  | succ n ih =>
    intro x4 x5 r hm ls hl k1
    rw [L_Mod_shows_6] at hm
    refine lv_iload hx hb dMod_shows_6 (lv_at hl 5 rfl) ?_
    refine lv_aload_n hx hb dMod_shows_8 rfl (lv_at hl 0 rfl) ?_
    refine va_get (D := (dC, dI)) (ci := 5) (v := .int mod_outputs) (C := RMod) (T := TMod) (N := 21) hx hb hts inMod hown hK hP 0 rfl rfl 5 (by decide) (hts _ tw_616) (fun _ h9 => h9) rfl dMod_shows_9 ?_
    refine lv_icmp_ge (tgt := 79) hx hb dMod_shows_12 (by decide) (fun c1 => ?_) (fun c1 => ?_)
    · have hm := sx_pos c1 hm
      obtain rfl := Option.some.inj hm
      exact k1 _ (lv_sub hl [4] rfl)
    · have hm := sx_neg c1 hm
      refine lv_iload hx hb dMod_shows_15 (lv_at hl 4 rfl) ?_
      refine lv_if_eq (tgt := 70) hx hb dMod_shows_17 (by decide) (fun c2 => ?_) (fun c2 => ?_)
      · have hm := sx_pos c2 hm
        refine lv_iconst (v := (0 : Int32)) hx hb dMod_shows_70 (by decide) ?_
        refine lv_istore (lv' := [(4, .int (0 : Int32)), (0, .ref h_mod), (1, .int x1), (2, .int x2), (3, .int x3), (5, .int x5)]) hx hb dMod_shows_71 hl (by decide) rfl (fun ls hl => ?_)
        refine lv_iinc (v := x5 + (1 : Int32)) (lv' := [(5, .int (x5 + (1 : Int32))), (4, .int (0 : Int32)), (0, .ref h_mod), (1, .int x1), (2, .int x2), (3, .int x3)]) hx hb dMod_shows_73 hl (k := 5) rfl rfl (by decide) rfl (fun ls hl => ?_)
        refine lv_goto (tgt := 6) hx hb dMod_shows_76 (by decide) ?_
        exact ih (0 : Int32) (x5 + (1 : Int32)) r hm _ (lv_sub hl [2, 3, 4, 5, 1, 0] rfl) k1
      · have hm := sx_neg c2 hm
        refine lv_aload_n hx hb dMod_shows_20 rfl (lv_at hl 0 rfl) ?_
        refine va_get (D := (dC, dI)) (ci := 5) (v := .ref a_mod_ones) (C := RMod) (T := TMod) (N := 21) hx hb hts inMod hown hK hP 0 rfl rfl 17 (by decide) (hts _ tw_628) (fun _ h9 => h9) rfl dMod_shows_21 ?_
        refine lv_bipush (v := (16 : Int32)) hx hb dMod_shows_24 (by decide) ?_
        refine lv_iload_n hx hb dMod_shows_26 rfl (lv_at hl 1 rfl) ?_
        refine lv_imul hx hb dMod_shows_27 ?_
        refine lv_iload_n hx hb dMod_shows_28 rfl (lv_at hl 3 rfl) ?_
        refine lv_iadd hx hb dMod_shows_29 ?_
        obtain ⟨g3, hm⟩ := gd_el hm
        refine va_lald hx hb hK hP 2 1 rfl rfl g3 dMod_shows_30 ?_
        refine lv_aload_n hx hb dMod_shows_31 rfl (lv_at hl 0 rfl) ?_
        refine va_get (D := (dC, dI)) (ci := 5) (v := .ref a_mod_outputOf) (C := RMod) (T := TMod) (N := 21) hx hb hts inMod hown hK hP 0 rfl rfl 12 (by decide) (hts _ tw_623) (fun _ h9 => h9) rfl dMod_shows_32 ?_
        refine lv_iload hx hb dMod_shows_35 (lv_at hl 5 rfl) ?_
        obtain ⟨g4, hm⟩ := gd_el hm
        refine va_iald hx hb hK hP 1 0 rfl rfl g4 dMod_shows_37 ?_
        refine lv_lshr hx hb dMod_shows_38 rfl ?_
        refine lv_lconst (v := (1 : Int64)) hx hb dMod_shows_39 (by decide) ?_
        refine lv_land hx hb dMod_shows_40 ?_
        refine lv_aload_n hx hb dMod_shows_41 rfl (lv_at hl 0 rfl) ?_
        refine va_get (D := (dC, dI)) (ci := 5) (v := .ref a_mod_ones) (C := RMod) (T := TMod) (N := 21) hx hb hts inMod hown hK hP 0 rfl rfl 17 (by decide) (hts _ tw_628) (fun _ h9 => h9) rfl dMod_shows_42 ?_
        refine lv_bipush (v := (16 : Int32)) hx hb dMod_shows_45 (by decide) ?_
        refine lv_iload_n hx hb dMod_shows_47 rfl (lv_at hl 2 rfl) ?_
        refine lv_imul hx hb dMod_shows_48 ?_
        refine lv_iload_n hx hb dMod_shows_49 rfl (lv_at hl 3 rfl) ?_
        refine lv_iadd hx hb dMod_shows_50 ?_
        obtain ⟨g5, hm⟩ := gd_el hm
        refine va_lald hx hb hK hP 2 1 rfl rfl g5 dMod_shows_51 ?_
        refine lv_aload_n hx hb dMod_shows_52 rfl (lv_at hl 0 rfl) ?_
        refine va_get (D := (dC, dI)) (ci := 5) (v := .ref a_mod_outputOf) (C := RMod) (T := TMod) (N := 21) hx hb hts inMod hown hK hP 0 rfl rfl 12 (by decide) (hts _ tw_623) (fun _ h9 => h9) rfl dMod_shows_53 ?_
        refine lv_iload hx hb dMod_shows_56 (lv_at hl 5 rfl) ?_
        obtain ⟨g6, hm⟩ := gd_el hm
        refine va_iald hx hb hK hP 1 0 rfl rfl g6 dMod_shows_58 ?_
        refine lv_lshr hx hb dMod_shows_59 rfl ?_
        refine lv_lconst (v := (1 : Int64)) hx hb dMod_shows_60 (by decide) ?_
        refine lv_land hx hb dMod_shows_61 ?_
        refine W.lcmp hx hb dMod_shows_62 ?_
        refine lv_if_ne (tgt := 70) hx hb dMod_shows_63 (by decide) (fun c7 => ?_) (fun c7 => ?_)
        · have hm := sx_neg c7 hm
          refine lv_iconst (v := (0 : Int32)) hx hb dMod_shows_70 (by decide) ?_
          refine lv_istore (lv' := [(4, .int (0 : Int32)), (0, .ref h_mod), (1, .int x1), (2, .int x2), (3, .int x3), (5, .int x5)]) hx hb dMod_shows_71 hl (by decide) rfl (fun ls hl => ?_)
          refine lv_iinc (v := x5 + (1 : Int32)) (lv' := [(5, .int (x5 + (1 : Int32))), (4, .int (0 : Int32)), (0, .ref h_mod), (1, .int x1), (2, .int x2), (3, .int x3)]) hx hb dMod_shows_73 hl (k := 5) rfl rfl (by decide) rfl (fun ls hl => ?_)
          refine lv_goto (tgt := 6) hx hb dMod_shows_76 (by decide) ?_
          exact ih (0 : Int32) (x5 + (1 : Int32)) r hm _ (lv_sub hl [2, 3, 4, 5, 1, 0] rfl) k1
        · have hm := sx_pos c7 hm
          refine lv_iconst (v := (1 : Int32)) hx hb dMod_shows_66 (by decide) ?_
          refine lv_goto (tgt := 71) hx hb dMod_shows_67 (by decide) ?_
          refine lv_istore (lv' := [(4, .int (1 : Int32)), (0, .ref h_mod), (1, .int x1), (2, .int x2), (3, .int x3), (5, .int x5)]) hx hb dMod_shows_71 hl (by decide) rfl (fun ls hl => ?_)
          refine lv_iinc (v := x5 + (1 : Int32)) (lv' := [(5, .int (x5 + (1 : Int32))), (4, .int (1 : Int32)), (0, .ref h_mod), (1, .int x1), (2, .int x2), (3, .int x3)]) hx hb dMod_shows_73 hl (k := 5) rfl rfl (by decide) rfl (fun ls hl => ?_)
          refine lv_goto (tgt := 6) hx hb dMod_shows_76 (by decide) ?_
          exact ih (1 : Int32) (x5 + (1 : Int32)) r hm _ (lv_sub hl [2, 3, 4, 5, 1, 0] rfl) k1
set_option maxHeartbeats 4000000 in
set_option maxRecDepth 100000 in
theorem k_Mod_shows (l : Launch) (dC : Nat → ClassId) (dI : Nat → Nat → Nat) (cI cL cZ : ClassId) (t1 t2 : Nat) (h_mod a_mod_sort a_mod_number a_mod_value a_mod_made a_mod_to a_mod_from a_mod_outputOf a_mod_negated a_mod_settles a_mod_next a_mod_ones a_mod_distance a_mod_apart a_mod_leads : Nat) (mod_code mod_gates mod_feeds mod_inputs mod_latches mod_outputs : Int32) (mod_outputOf : Nat → Int32) (mod_explored : Int32) (mod_ones : Nat → Int64) (sz : Nat) (p0 : Int32) (p1 : Int32) (p2 : Int32) (v : Int32) (hm : m_Mod_shows mod_outputs mod_outputOf mod_ones p0 p1 p2 = some v) : Met l yMod_shows wsMod_shows rm_Mod_shows (sx_Pc (dC, dI) [(cI, .int), (cL, .long), (cZ, .boolean)] t1 t2 [(h_mod, .inr (5, [.int mod_code, .int mod_gates, .int mod_feeds, .int mod_inputs, .int mod_latches, .int mod_outputs, .ref a_mod_sort, .ref a_mod_number, .ref a_mod_value, .ref a_mod_made, .ref a_mod_to, .ref a_mod_from, .ref a_mod_outputOf, .ref a_mod_negated, .int mod_explored, .ref a_mod_settles, .ref a_mod_next, .ref a_mod_ones, .ref a_mod_distance, .ref a_mod_apart, .ref a_mod_leads])), (a_mod_outputOf, .inl (cI, 6, .inl mod_outputOf)), (a_mod_ones, .inl (cL, 4096, .inr (.inl mod_ones)))] sz [.ref h_mod, .int p0, .int p1, .int p2]) (sx_Si v) 0 0 (fun _ => False) := by
  refine Met.ofW (cc := cMod_shows) (maxL := 6) (ret := (some .boolean)) (by decide) rfl ?_
  intro p e s m args below meth c s₁ B hml hv
  obtain ⟨rfl, hsz, hP, hK, hD0, hX⟩ := hv
  have hx := B.exec
  have hb := B.bytes
  have hr := B.returns
  have hts0 := atoms_spec (ws := wsMod_shows) B.pre
  have hts : ∀ w ∈ tb, w.before _ s = true := fun w h => hts0 w (List.mem_cons_of_mem _ h)
  have hown : s.vm.findClass "StateExplorerModel" = some m.cls := findClass_of_methodNamed B.named
  have hlocks := B.notSynchronized
  subst hsz
  have hD := hD0.self (sz := s.heap.size)
  generalize hAe : va_A [(h_mod, .inr (5, [.int mod_code, .int mod_gates, .int mod_feeds, .int mod_inputs, .int mod_latches, .int mod_outputs, .ref a_mod_sort, .ref a_mod_number, .ref a_mod_value, .ref a_mod_made, .ref a_mod_to, .ref a_mod_from, .ref a_mod_outputOf, .ref a_mod_negated, .int mod_explored, .ref a_mod_settles, .ref a_mod_next, .ref a_mod_ones, .ref a_mod_distance, .ref a_mod_apart, .ref a_mod_leads])), (a_mod_outputOf, .inl (cI, 6, .inl mod_outputOf)), (a_mod_ones, .inl (cL, 4096, .inr (.inl mod_ones)))] s.heap.size = A at hD hX 
  have hA : ∀ q : Nat, s.heap.size ≤ q → A q := fun q h => by rw [← hAe]; exact Or.inr h
  have hS : va_S A s.heap s.heap [] := va_S.rf
  have hl := lv_entry ([.ref h_mod, .int p0, .int p1, .int p2]) (n := 6) (Nat.le_of_ble_eq_true rfl)
  rw [lg_entry_eq]
  generalize (lg_sl ([.ref h_mod, .int p0, .int p1, .int p2]) ++ List.replicate (6 - (lg_sl ([.ref h_mod, .int p0, .int p1, .int p2])).length) Slot.unset).toArray = ls at hl ⊢
  have hl : lv_has ls 6 [(0, .ref h_mod), (1, .int p0), (2, .int p1), (3, .int p2)] := hl
  have C0 : sx_C p s m _ meth c cMod_shows 6 "StateExplorerModel" A (dC, dI) [(cI, .int), (cL, .long), (cZ, .boolean)] t1 t2 := ⟨hx, hb, hml, hown, hts, hA, hK, hlocks, hX⟩
  rw [m_Mod_shows] at hm
  refine lv_iconst (v := (1 : Int32)) hx hb dMod_shows_0 (by decide) ?_
  refine lv_istore (lv' := [(4, .int (1 : Int32)), (0, .ref h_mod), (1, .int p0), (2, .int p1), (3, .int p2)]) hx hb dMod_shows_1 hl (by decide) rfl (fun ls hl => ?_)
  refine lv_iconst (v := (0 : Int32)) hx hb dMod_shows_3 (by decide) ?_
  refine lv_istore (lv' := [(5, .int (0 : Int32)), (4, .int (1 : Int32)), (0, .ref h_mod), (1, .int p0), (2, .int p1), (3, .int p2)]) hx hb dMod_shows_4 hl (by decide) rfl (fun ls hl => ?_)
  obtain ⟨v8, hv8, hm⟩ := sx_bind hm
  refine w_Mod_shows_6 C0 h_mod a_mod_sort a_mod_number a_mod_value a_mod_made a_mod_to a_mod_from a_mod_outputOf a_mod_negated a_mod_settles a_mod_next a_mod_ones a_mod_distance a_mod_apart a_mod_leads mod_code mod_gates mod_feeds mod_inputs mod_latches mod_outputs mod_outputOf mod_explored mod_ones p0 p1 p2 hP hD hS _ (1 : Int32) (0 : Int32) v8 hv8 _ (lv_sub hl [2, 3, 4, 5, 1, 0] rfl) ?_
  intro ls hl
  refine lv_iload hx hb dMod_shows_79 (lv_at hl 0 rfl) ?_
  obtain ⟨hz9, hm⟩ := gd_el hm
  obtain rfl := Option.some.inj hm
  exact W.zret (v := v8) hx hb hr hz9 (fun t ht hW => ⟨rfl, ht⟩) (fun q hq => nomatch hq) dMod_shows_81
noncomputable def L_Mod_differ_5 (mod_inputs mod_outputs : Int32) (mod_outputOf mod_settles mod_next : Nat → Int32) (mod_ones : Nat → Int64) (mod_apart : Nat → Int32) (x1 : Int32) (x2 : Int32) : Nat → Int32 → Int32 → Option (Int32)
  | 0, _, _ => none
  | n + 1, x3, x4 => (m_Mod_choices mod_inputs).bind (fun v1 => (if v1 ≤ x4 then some x3 else (if x3 = (0 : Int32) then gd (vp_in (((16 : Int32) * x1) + x4) 4096) (gd (vp_in (((16 : Int32) * x2) + x4) 4096) ((if mod_settles (((16 : Int32) * x1) + x4).toNatClampNeg = mod_settles (((16 : Int32) * x2) + x4).toNatClampNeg then gd (vp_in (((16 : Int32) * x1) + x4) 4096) ((if mod_settles (((16 : Int32) * x1) + x4).toNatClampNeg = (0 : Int32) then (L_Mod_differ_5 mod_inputs mod_outputs mod_outputOf mod_settles mod_next mod_ones mod_apart x1 x2 n (0 : Int32) (x4 + (1 : Int32))) else (m_Mod_shows mod_outputs mod_outputOf mod_ones x1 x2 x4).bind (fun v10 => (if v10 = (0 : Int32) then (L_Mod_differ_5 mod_inputs mod_outputs mod_outputOf mod_settles mod_next mod_ones mod_apart x1 x2 n (1 : Int32) (x4 + (1 : Int32))) else gd (vp_in (((16 : Int32) * x1) + x4) 4096) (gd (vp_in (((16 : Int32) * x2) + x4) 4096) (gd (vp_in (((256 : Int32) * (mod_next (((16 : Int32) * x1) + x4).toNatClampNeg)) + (mod_next (((16 : Int32) * x2) + x4).toNatClampNeg)) 65536) ((if mod_apart (((256 : Int32) * (mod_next (((16 : Int32) * x1) + x4).toNatClampNeg)) + (mod_next (((16 : Int32) * x2) + x4).toNatClampNeg)).toNatClampNeg = (0 : Int32) then (L_Mod_differ_5 mod_inputs mod_outputs mod_outputOf mod_settles mod_next mod_ones mod_apart x1 x2 n (0 : Int32) (x4 + (1 : Int32))) else (L_Mod_differ_5 mod_inputs mod_outputs mod_outputOf mod_settles mod_next mod_ones mod_apart x1 x2 n (1 : Int32) (x4 + (1 : Int32))))))))))) else (L_Mod_differ_5 mod_inputs mod_outputs mod_outputOf mod_settles mod_next mod_ones mod_apart x1 x2 n (1 : Int32) (x4 + (1 : Int32)))))) else (L_Mod_differ_5 mod_inputs mod_outputs mod_outputOf mod_settles mod_next mod_ones mod_apart x1 x2 n (1 : Int32) (x4 + (1 : Int32))))))
noncomputable def m_Mod_differ (mod_inputs mod_outputs : Int32) (mod_outputOf mod_settles mod_next : Nat → Int32) (mod_ones : Nat → Int64) (mod_apart : Nat → Int32) (p0 : Int32) (p1 : Int32) : Option (Int32) := ((L_Mod_differ_5 mod_inputs mod_outputs mod_outputOf mod_settles mod_next mod_ones mod_apart p0 p1 fu (0 : Int32) (0 : Int32)).bind (fun v17 => gd (sx_zok v17) (some v17)))
def rm_Mod_differ : Room := { frames := 1, cells := 0, slots := 0, locals := 25 }
set_option maxHeartbeats 4000000 in
set_option maxRecDepth 100000 in
theorem w_Mod_differ_5 {p : Program} {l : Launch} {e : Env} {s : State} {m : MethodId} {args : Array Value} {below : List Frame} {meth : Method} {c : Code} {dC : Nat → ClassId} {dI : Nat → Nat → Nat} {cI cL cZ : ClassId} {A : Nat → Prop} {Q : State → Prop} {t1 t2 : Nat} (C0 : sx_C p s m args meth c cMod_differ 7 "StateExplorerModel" A (dC, dI) [(cI, .int), (cL, .long), (cZ, .boolean)] t1 t2) (h_mod a_mod_sort a_mod_number a_mod_value a_mod_made a_mod_to a_mod_from a_mod_outputOf a_mod_negated a_mod_settles a_mod_next a_mod_ones a_mod_distance a_mod_apart a_mod_leads : Nat) (mod_code mod_gates mod_feeds mod_inputs mod_latches mod_outputs : Int32) (mod_outputOf : Nat → Int32) (mod_explored : Int32) (mod_settles mod_next : Nat → Int32) (mod_ones : Nat → Int64) (mod_apart : Nat → Int32) (x1 : Int32) (x2 : Int32) {H : Heap} {locs : List Loc} (hP : va_P (dC, dI) vwCl [(h_mod, .inr (5, [.int mod_code, .int mod_gates, .int mod_feeds, .int mod_inputs, .int mod_latches, .int mod_outputs, .ref a_mod_sort, .ref a_mod_number, .ref a_mod_value, .ref a_mod_made, .ref a_mod_to, .ref a_mod_from, .ref a_mod_outputOf, .ref a_mod_negated, .int mod_explored, .ref a_mod_settles, .ref a_mod_next, .ref a_mod_ones, .ref a_mod_distance, .ref a_mod_apart, .ref a_mod_leads])), (a_mod_outputOf, .inl (cI, 6, .inl mod_outputOf)), (a_mod_settles, .inl (cZ, 4096, .inl mod_settles)), (a_mod_next, .inl (cI, 4096, .inl mod_next)), (a_mod_ones, .inl (cL, 4096, .inr (.inl mod_ones))), (a_mod_apart, .inl (cZ, 65536, .inl mod_apart))] H) (hD : va_D A [(h_mod, .inr (5, [.int mod_code, .int mod_gates, .int mod_feeds, .int mod_inputs, .int mod_latches, .int mod_outputs, .ref a_mod_sort, .ref a_mod_number, .ref a_mod_value, .ref a_mod_made, .ref a_mod_to, .ref a_mod_from, .ref a_mod_outputOf, .ref a_mod_negated, .int mod_explored, .ref a_mod_settles, .ref a_mod_next, .ref a_mod_ones, .ref a_mod_distance, .ref a_mod_apart, .ref a_mod_leads])), (a_mod_outputOf, .inl (cI, 6, .inl mod_outputOf)), (a_mod_settles, .inl (cZ, 4096, .inl mod_settles)), (a_mod_next, .inl (cI, 4096, .inl mod_next)), (a_mod_ones, .inl (cL, 4096, .inr (.inl mod_ones))), (a_mod_apart, .inl (cZ, 65536, .inl mod_apart))]) (hS : va_S A s.heap H locs) :
    ∀ (n : Nat) (x3 : Int32) (x4 : Int32)  (r : Int32), L_Mod_differ_5 mod_inputs mod_outputs mod_outputOf mod_settles mod_next mod_ones mod_apart x1 x2 n x3 x4 = some r → ∀ (ls : Array Slot), lv_has ls 7 [(0, .ref h_mod), (1, .int x1), (2, .int x2), (3, .int x3), (4, .int x4)] →
    (∀ (ls : Array Slot), lv_has ls 7 [(3, .int r)] → W p l e (headSpec wsMod_differ rm_Mod_differ).room s m args below meth c H locs 0 0 Q (F0 m 113 ls [])) →
    W p l e (headSpec wsMod_differ rm_Mod_differ).room s m args below meth c H locs 0 0 Q (F0 m 5 ls []) := by
  obtain ⟨hx, hb, hml, hown, hts, hA, hK, hlocks, hX⟩ := id C0
  intro n
  induction n with
  | zero => intro x3 x4 r hm; rw [L_Mod_differ_5] at hm; cases hm
  | succ n ih =>
    intro x3 x4 r hm ls hl k1
    rw [L_Mod_differ_5] at hm
    refine lv_iload hx hb dMod_differ_5 (lv_at hl 4 rfl) ?_
    refine lv_aload_n hx hb dMod_differ_7 rfl (lv_at hl 0 rfl) ?_
    obtain ⟨v1, hv1, hm⟩ := sx_bind hm
    have hPc := hP.sub (ws' := [(h_mod, .inr (5, [.int mod_code, .int mod_gates, .int mod_feeds, .int mod_inputs, .int mod_latches, .int mod_outputs, .ref a_mod_sort, .ref a_mod_number, .ref a_mod_value, .ref a_mod_made, .ref a_mod_to, .ref a_mod_from, .ref a_mod_outputOf, .ref a_mod_negated, .int mod_explored, .ref a_mod_settles, .ref a_mod_next, .ref a_mod_ones, .ref a_mod_distance, .ref a_mod_apart, .ref a_mod_leads]))]) [0] rfl
    have hDc := hD.sub (ws' := [(h_mod, .inr (5, [.int mod_code, .int mod_gates, .int mod_feeds, .int mod_inputs, .int mod_latches, .int mod_outputs, .ref a_mod_sort, .ref a_mod_number, .ref a_mod_value, .ref a_mod_made, .ref a_mod_to, .ref a_mod_from, .ref a_mod_outputOf, .ref a_mod_negated, .int mod_explored, .ref a_mod_settles, .ref a_mod_next, .ref a_mod_ones, .ref a_mod_distance, .ref a_mod_apart, .ref a_mod_leads]))]) [0] (by decide) rfl
    have hFc := va_free (wc := [(h_mod, .inr (5, [.int mod_code, .int mod_gates, .int mod_feeds, .int mod_inputs, .int mod_latches, .int mod_outputs, .ref a_mod_sort, .ref a_mod_number, .ref a_mod_value, .ref a_mod_made, .ref a_mod_to, .ref a_mod_from, .ref a_mod_outputOf, .ref a_mod_negated, .int mod_explored, .ref a_mod_settles, .ref a_mod_next, .ref a_mod_ones, .ref a_mod_distance, .ref a_mod_apart, .ref a_mod_leads]))]) hD hS hA [0] rfl
    refine sx_stI (va_runV (As := []) (rest := [.int x4]) ⟨hx, hb, hml, hown, hts⟩ (k_Mod_choices l dC dI cI cL cZ t1 t2 h_mod a_mod_sort a_mod_number a_mod_value a_mod_made a_mod_to a_mod_from a_mod_outputOf a_mod_negated a_mod_settles a_mod_next a_mod_ones a_mod_distance a_mod_apart a_mod_leads mod_code mod_gates mod_feeds mod_inputs mod_latches mod_outputs mod_explored _ v1 hv1) (cwV 0 hts (sx_gV tw_712 tw_714 tw_23 tw_41 tcMod_choices) rfl rfl rfl (by decide +kernel) ⟨Nat.le_of_ble_eq_true rfl, Nat.le_of_ble_eq_true rfl⟩) (sx_pV hK hX hS hPc hDc hFc (va_recv hK hPc (ci := 5) (q0 := 0) rfl rfl)) rfl rfl hl.1 rfl (lv_room (Nat.le_of_ble_eq_true rfl)) dMod_differ_8 ⟨Nat.le_of_ble_eq_true rfl, Nat.le_of_ble_eq_true rfl⟩) ?_
    refine lv_icmp_ge (tgt := 113) hx hb dMod_differ_11 (by decide) (fun c3 => ?_) (fun c3 => ?_)
    · have hm := sx_pos c3 hm
      obtain rfl := Option.some.inj hm
      exact k1 _ (lv_sub hl [3] rfl)
    · have hm := sx_neg c3 hm
      refine lv_bipush (v := (16 : Int32)) hx hb dMod_differ_14 (by decide) ?_
      refine lv_iload_n hx hb dMod_differ_16 rfl (lv_at hl 1 rfl) ?_
      refine lv_imul hx hb dMod_differ_17 ?_
      refine lv_iload hx hb dMod_differ_18 (lv_at hl 4 rfl) ?_
      refine lv_iadd hx hb dMod_differ_20 ?_
      refine lv_istore (lv' := [(5, .int (((16 : Int32) * x1) + x4)), (0, .ref h_mod), (1, .int x1), (2, .int x2), (3, .int x3), (4, .int x4)]) hx hb dMod_differ_21 hl (by decide) rfl (fun ls hl => ?_)
      refine lv_bipush (v := (16 : Int32)) hx hb dMod_differ_23 (by decide) ?_
      refine lv_iload_n hx hb dMod_differ_25 rfl (lv_at hl 3 rfl) ?_
      refine lv_imul hx hb dMod_differ_26 ?_
      refine lv_iload hx hb dMod_differ_27 (lv_at hl 5 rfl) ?_
      refine lv_iadd hx hb dMod_differ_29 ?_
      refine lv_istore (lv' := [(6, .int (((16 : Int32) * x2) + x4)), (5, .int (((16 : Int32) * x1) + x4)), (0, .ref h_mod), (1, .int x1), (2, .int x2), (3, .int x3), (4, .int x4)]) hx hb dMod_differ_30 hl (by decide) rfl (fun ls hl => ?_)
      refine lv_iload_n hx hb dMod_differ_32 rfl (lv_at hl 5 rfl) ?_
      refine lv_if_ne (tgt := 101) hx hb dMod_differ_33 (by decide) (fun c4 => ?_) (fun c4 => ?_)
      · have hm := sx_neg c4 hm
        refine lv_iconst (v := (1 : Int32)) hx hb dMod_differ_101 (by decide) ?_
        refine lv_goto (tgt := 106) hx hb dMod_differ_102 (by decide) ?_
        refine lv_istore_n (lv' := [(3, .int (1 : Int32)), (6, .int (((16 : Int32) * x2) + x4)), (5, .int (((16 : Int32) * x1) + x4)), (0, .ref h_mod), (1, .int x1), (2, .int x2), (4, .int x4)]) hx hb dMod_differ_106 rfl hl (by decide) rfl (fun ls hl => ?_)
        refine lv_iinc (v := x4 + (1 : Int32)) (lv' := [(4, .int (x4 + (1 : Int32))), (3, .int (1 : Int32)), (6, .int (((16 : Int32) * x2) + x4)), (5, .int (((16 : Int32) * x1) + x4)), (0, .ref h_mod), (1, .int x1), (2, .int x2)]) hx hb dMod_differ_107 hl (k := 6) rfl rfl (by decide) rfl (fun ls hl => ?_)
        refine lv_goto (tgt := 5) hx hb dMod_differ_110 (by decide) ?_
        exact ih (1 : Int32) (x4 + (1 : Int32)) r hm _ (lv_sub hl [4, 5, 6, 1, 0] rfl) k1
      · have hm := sx_pos c4 hm
        refine lv_aload_n hx hb dMod_differ_36 rfl (lv_at hl 2 rfl) ?_
        refine va_get (D := (dC, dI)) (ci := 5) (v := .ref a_mod_settles) (C := RMod) (T := TMod) (N := 21) hx hb hts inMod hown hK hP 0 rfl rfl 15 (by decide) (hts _ tw_626) (fun _ h9 => h9) rfl dMod_differ_37 ?_
        refine lv_iload hx hb dMod_differ_40 (lv_at hl 1 rfl) ?_
        obtain ⟨g5, hm⟩ := gd_el hm
        refine va_zald hx hb hK hP 2 2 rfl rfl g5 dMod_differ_42 ?_
        refine lv_aload_n hx hb dMod_differ_43 rfl (lv_at hl 2 rfl) ?_
        refine va_get (D := (dC, dI)) (ci := 5) (v := .ref a_mod_settles) (C := RMod) (T := TMod) (N := 21) hx hb hts inMod hown hK hP 0 rfl rfl 15 (by decide) (hts _ tw_626) (fun _ h9 => h9) rfl dMod_differ_44 ?_
        refine lv_iload hx hb dMod_differ_47 (lv_at hl 0 rfl) ?_
        obtain ⟨g6, hm⟩ := gd_el hm
        refine va_zald hx hb hK hP 2 2 rfl rfl g6 dMod_differ_49 ?_
        refine lv_icmp_ne (tgt := 101) hx hb dMod_differ_50 (by decide) (fun c7 => ?_) (fun c7 => ?_)
        · have hm := sx_neg c7 hm
          refine lv_iconst (v := (1 : Int32)) hx hb dMod_differ_101 (by decide) ?_
          refine lv_goto (tgt := 106) hx hb dMod_differ_102 (by decide) ?_
          refine lv_istore_n (lv' := [(3, .int (1 : Int32)), (6, .int (((16 : Int32) * x2) + x4)), (5, .int (((16 : Int32) * x1) + x4)), (0, .ref h_mod), (1, .int x1), (2, .int x2), (4, .int x4)]) hx hb dMod_differ_106 rfl hl (by decide) rfl (fun ls hl => ?_)
          refine lv_iinc (v := x4 + (1 : Int32)) (lv' := [(4, .int (x4 + (1 : Int32))), (3, .int (1 : Int32)), (6, .int (((16 : Int32) * x2) + x4)), (5, .int (((16 : Int32) * x1) + x4)), (0, .ref h_mod), (1, .int x1), (2, .int x2)]) hx hb dMod_differ_107 hl (k := 6) rfl rfl (by decide) rfl (fun ls hl => ?_)
          refine lv_goto (tgt := 5) hx hb dMod_differ_110 (by decide) ?_
          exact ih (1 : Int32) (x4 + (1 : Int32)) r hm _ (lv_sub hl [4, 5, 6, 1, 0] rfl) k1
        · have hm := sx_pos c7 hm
          refine lv_aload_n hx hb dMod_differ_53 rfl (lv_at hl 2 rfl) ?_
          refine va_get (D := (dC, dI)) (ci := 5) (v := .ref a_mod_settles) (C := RMod) (T := TMod) (N := 21) hx hb hts inMod hown hK hP 0 rfl rfl 15 (by decide) (hts _ tw_626) (fun _ h9 => h9) rfl dMod_differ_54 ?_
          refine lv_iload hx hb dMod_differ_57 (lv_at hl 1 rfl) ?_
          obtain ⟨g8, hm⟩ := gd_el hm
          refine va_zald hx hb hK hP 2 2 rfl rfl g8 dMod_differ_59 ?_
          refine lv_if_eq (tgt := 105) hx hb dMod_differ_60 (by decide) (fun c9 => ?_) (fun c9 => ?_)
          · have hm := sx_pos c9 hm
            refine lv_iconst (v := (0 : Int32)) hx hb dMod_differ_105 (by decide) ?_
            refine lv_istore_n (lv' := [(3, .int (0 : Int32)), (6, .int (((16 : Int32) * x2) + x4)), (5, .int (((16 : Int32) * x1) + x4)), (0, .ref h_mod), (1, .int x1), (2, .int x2), (4, .int x4)]) hx hb dMod_differ_106 rfl hl (by decide) rfl (fun ls hl => ?_)
            refine lv_iinc (v := x4 + (1 : Int32)) (lv' := [(4, .int (x4 + (1 : Int32))), (3, .int (0 : Int32)), (6, .int (((16 : Int32) * x2) + x4)), (5, .int (((16 : Int32) * x1) + x4)), (0, .ref h_mod), (1, .int x1), (2, .int x2)]) hx hb dMod_differ_107 hl (k := 6) rfl rfl (by decide) rfl (fun ls hl => ?_)
            refine lv_goto (tgt := 5) hx hb dMod_differ_110 (by decide) ?_
            exact ih (0 : Int32) (x4 + (1 : Int32)) r hm _ (lv_sub hl [4, 5, 6, 1, 0] rfl) k1
          · have hm := sx_neg c9 hm
            refine lv_aload_n hx hb dMod_differ_63 rfl (lv_at hl 2 rfl) ?_
            refine lv_iload_n hx hb dMod_differ_64 rfl (lv_at hl 3 rfl) ?_
            refine lv_iload_n hx hb dMod_differ_65 rfl (lv_at hl 4 rfl) ?_
            refine lv_iload hx hb dMod_differ_66 (lv_at hl 6 rfl) ?_
            obtain ⟨v10, hv10, hm⟩ := sx_bind hm
            have hPc := hP.sub (ws' := [(h_mod, .inr (5, [.int mod_code, .int mod_gates, .int mod_feeds, .int mod_inputs, .int mod_latches, .int mod_outputs, .ref a_mod_sort, .ref a_mod_number, .ref a_mod_value, .ref a_mod_made, .ref a_mod_to, .ref a_mod_from, .ref a_mod_outputOf, .ref a_mod_negated, .int mod_explored, .ref a_mod_settles, .ref a_mod_next, .ref a_mod_ones, .ref a_mod_distance, .ref a_mod_apart, .ref a_mod_leads])), (a_mod_outputOf, .inl (cI, 6, .inl mod_outputOf)), (a_mod_ones, .inl (cL, 4096, .inr (.inl mod_ones)))]) [0, 1, 4] rfl
            have hDc := hD.sub (ws' := [(h_mod, .inr (5, [.int mod_code, .int mod_gates, .int mod_feeds, .int mod_inputs, .int mod_latches, .int mod_outputs, .ref a_mod_sort, .ref a_mod_number, .ref a_mod_value, .ref a_mod_made, .ref a_mod_to, .ref a_mod_from, .ref a_mod_outputOf, .ref a_mod_negated, .int mod_explored, .ref a_mod_settles, .ref a_mod_next, .ref a_mod_ones, .ref a_mod_distance, .ref a_mod_apart, .ref a_mod_leads])), (a_mod_outputOf, .inl (cI, 6, .inl mod_outputOf)), (a_mod_ones, .inl (cL, 4096, .inr (.inl mod_ones)))]) [0, 1, 4] (by decide) rfl
            have hFc := va_free (wc := [(h_mod, .inr (5, [.int mod_code, .int mod_gates, .int mod_feeds, .int mod_inputs, .int mod_latches, .int mod_outputs, .ref a_mod_sort, .ref a_mod_number, .ref a_mod_value, .ref a_mod_made, .ref a_mod_to, .ref a_mod_from, .ref a_mod_outputOf, .ref a_mod_negated, .int mod_explored, .ref a_mod_settles, .ref a_mod_next, .ref a_mod_ones, .ref a_mod_distance, .ref a_mod_apart, .ref a_mod_leads])), (a_mod_outputOf, .inl (cI, 6, .inl mod_outputOf)), (a_mod_ones, .inl (cL, 4096, .inr (.inl mod_ones)))]) hD hS hA [0, 1, 4] rfl
            refine sx_stI (va_runV (As := [.int x1, .int x2, .int x4]) (rest := []) ⟨hx, hb, hml, hown, hts⟩ (k_Mod_shows l dC dI cI cL cZ t1 t2 h_mod a_mod_sort a_mod_number a_mod_value a_mod_made a_mod_to a_mod_from a_mod_outputOf a_mod_negated a_mod_settles a_mod_next a_mod_ones a_mod_distance a_mod_apart a_mod_leads mod_code mod_gates mod_feeds mod_inputs mod_latches mod_outputs mod_outputOf mod_explored mod_ones _ x1 x2 x4 v10 hv10) (cwV 3 hts (sx_gV tw_736 tw_738 tw_29 tw_41 tcMod_shows) rfl rfl rfl (by decide +kernel) ⟨Nat.le_of_ble_eq_true rfl, Nat.le_of_ble_eq_true rfl⟩) (sx_pV hK hX hS hPc hDc hFc (va_recv hK hPc (ci := 5) (q0 := 0) rfl rfl)) rfl rfl hl.1 rfl (lv_room (Nat.le_of_ble_eq_true rfl)) dMod_differ_68 ⟨Nat.le_of_ble_eq_true rfl, Nat.le_of_ble_eq_true rfl⟩) ?_
            refine lv_if_eq (tgt := 101) hx hb dMod_differ_71 (by decide) (fun c12 => ?_) (fun c12 => ?_)
            · have hm := sx_pos c12 hm
              refine lv_iconst (v := (1 : Int32)) hx hb dMod_differ_101 (by decide) ?_
              refine lv_goto (tgt := 106) hx hb dMod_differ_102 (by decide) ?_
              refine lv_istore_n (lv' := [(3, .int (1 : Int32)), (6, .int (((16 : Int32) * x2) + x4)), (5, .int (((16 : Int32) * x1) + x4)), (0, .ref h_mod), (1, .int x1), (2, .int x2), (4, .int x4)]) hx hb dMod_differ_106 rfl hl (by decide) rfl (fun ls hl => ?_)
              refine lv_iinc (v := x4 + (1 : Int32)) (lv' := [(4, .int (x4 + (1 : Int32))), (3, .int (1 : Int32)), (6, .int (((16 : Int32) * x2) + x4)), (5, .int (((16 : Int32) * x1) + x4)), (0, .ref h_mod), (1, .int x1), (2, .int x2)]) hx hb dMod_differ_107 hl (k := 6) rfl rfl (by decide) rfl (fun ls hl => ?_)
              refine lv_goto (tgt := 5) hx hb dMod_differ_110 (by decide) ?_
              exact ih (1 : Int32) (x4 + (1 : Int32)) r hm _ (lv_sub hl [4, 5, 6, 1, 0] rfl) k1
            · have hm := sx_neg c12 hm
              refine lv_aload_n hx hb dMod_differ_74 rfl (lv_at hl 2 rfl) ?_
              refine va_get (D := (dC, dI)) (ci := 5) (v := .ref a_mod_apart) (C := RMod) (T := TMod) (N := 21) hx hb hts inMod hown hK hP 0 rfl rfl 19 (by decide) (hts _ tw_630) (fun _ h9 => h9) rfl dMod_differ_75 ?_
              refine lv_sipush (v := (256 : Int32)) hx hb dMod_differ_78 (by decide) ?_
              refine lv_aload_n hx hb dMod_differ_81 rfl (lv_at hl 2 rfl) ?_
              refine va_get (D := (dC, dI)) (ci := 5) (v := .ref a_mod_next) (C := RMod) (T := TMod) (N := 21) hx hb hts inMod hown hK hP 0 rfl rfl 16 (by decide) (hts _ tw_627) (fun _ h9 => h9) rfl dMod_differ_82 ?_
              refine lv_iload hx hb dMod_differ_85 (lv_at hl 1 rfl) ?_
              obtain ⟨g13, hm⟩ := gd_el hm
              refine va_iald hx hb hK hP 3 0 rfl rfl g13 dMod_differ_87 ?_
              refine lv_imul hx hb dMod_differ_88 ?_
              refine lv_aload_n hx hb dMod_differ_89 rfl (lv_at hl 2 rfl) ?_
              refine va_get (D := (dC, dI)) (ci := 5) (v := .ref a_mod_next) (C := RMod) (T := TMod) (N := 21) hx hb hts inMod hown hK hP 0 rfl rfl 16 (by decide) (hts _ tw_627) (fun _ h9 => h9) rfl dMod_differ_90 ?_
              refine lv_iload hx hb dMod_differ_93 (lv_at hl 0 rfl) ?_
              obtain ⟨g14, hm⟩ := gd_el hm
              refine va_iald hx hb hK hP 3 0 rfl rfl g14 dMod_differ_95 ?_
              refine lv_iadd hx hb dMod_differ_96 ?_
              obtain ⟨g15, hm⟩ := gd_el hm
              refine va_zald hx hb hK hP 5 2 rfl rfl g15 dMod_differ_97 ?_
              refine lv_if_eq (tgt := 105) hx hb dMod_differ_98 (by decide) (fun c16 => ?_) (fun c16 => ?_)
              · have hm := sx_pos c16 hm
                refine lv_iconst (v := (0 : Int32)) hx hb dMod_differ_105 (by decide) ?_
                refine lv_istore_n (lv' := [(3, .int (0 : Int32)), (6, .int (((16 : Int32) * x2) + x4)), (5, .int (((16 : Int32) * x1) + x4)), (0, .ref h_mod), (1, .int x1), (2, .int x2), (4, .int x4)]) hx hb dMod_differ_106 rfl hl (by decide) rfl (fun ls hl => ?_)
                refine lv_iinc (v := x4 + (1 : Int32)) (lv' := [(4, .int (x4 + (1 : Int32))), (3, .int (0 : Int32)), (6, .int (((16 : Int32) * x2) + x4)), (5, .int (((16 : Int32) * x1) + x4)), (0, .ref h_mod), (1, .int x1), (2, .int x2)]) hx hb dMod_differ_107 hl (k := 6) rfl rfl (by decide) rfl (fun ls hl => ?_)
                refine lv_goto (tgt := 5) hx hb dMod_differ_110 (by decide) ?_
                exact ih (0 : Int32) (x4 + (1 : Int32)) r hm _ (lv_sub hl [4, 5, 6, 1, 0] rfl) k1
              · have hm := sx_neg c16 hm
                refine lv_iconst (v := (1 : Int32)) hx hb dMod_differ_101 (by decide) ?_
                refine lv_goto (tgt := 106) hx hb dMod_differ_102 (by decide) ?_
                refine lv_istore_n (lv' := [(3, .int (1 : Int32)), (6, .int (((16 : Int32) * x2) + x4)), (5, .int (((16 : Int32) * x1) + x4)), (0, .ref h_mod), (1, .int x1), (2, .int x2), (4, .int x4)]) hx hb dMod_differ_106 rfl hl (by decide) rfl (fun ls hl => ?_)
                refine lv_iinc (v := x4 + (1 : Int32)) (lv' := [(4, .int (x4 + (1 : Int32))), (3, .int (1 : Int32)), (6, .int (((16 : Int32) * x2) + x4)), (5, .int (((16 : Int32) * x1) + x4)), (0, .ref h_mod), (1, .int x1), (2, .int x2)]) hx hb dMod_differ_107 hl (k := 6) rfl rfl (by decide) rfl (fun ls hl => ?_)
                refine lv_goto (tgt := 5) hx hb dMod_differ_110 (by decide) ?_
                exact ih (1 : Int32) (x4 + (1 : Int32)) r hm _ (lv_sub hl [4, 5, 6, 1, 0] rfl) k1
set_option maxHeartbeats 4000000 in
set_option maxRecDepth 100000 in
theorem k_Mod_differ (l : Launch) (dC : Nat → ClassId) (dI : Nat → Nat → Nat) (cI cL cZ : ClassId) (t1 t2 : Nat) (h_mod a_mod_sort a_mod_number a_mod_value a_mod_made a_mod_to a_mod_from a_mod_outputOf a_mod_negated a_mod_settles a_mod_next a_mod_ones a_mod_distance a_mod_apart a_mod_leads : Nat) (mod_code mod_gates mod_feeds mod_inputs mod_latches mod_outputs : Int32) (mod_outputOf : Nat → Int32) (mod_explored : Int32) (mod_settles mod_next : Nat → Int32) (mod_ones : Nat → Int64) (mod_apart : Nat → Int32) (sz : Nat) (p0 : Int32) (p1 : Int32) (v : Int32) (hm : m_Mod_differ mod_inputs mod_outputs mod_outputOf mod_settles mod_next mod_ones mod_apart p0 p1 = some v) : Met l yMod_differ wsMod_differ rm_Mod_differ (sx_Pc (dC, dI) [(cI, .int), (cL, .long), (cZ, .boolean)] t1 t2 [(h_mod, .inr (5, [.int mod_code, .int mod_gates, .int mod_feeds, .int mod_inputs, .int mod_latches, .int mod_outputs, .ref a_mod_sort, .ref a_mod_number, .ref a_mod_value, .ref a_mod_made, .ref a_mod_to, .ref a_mod_from, .ref a_mod_outputOf, .ref a_mod_negated, .int mod_explored, .ref a_mod_settles, .ref a_mod_next, .ref a_mod_ones, .ref a_mod_distance, .ref a_mod_apart, .ref a_mod_leads])), (a_mod_outputOf, .inl (cI, 6, .inl mod_outputOf)), (a_mod_settles, .inl (cZ, 4096, .inl mod_settles)), (a_mod_next, .inl (cI, 4096, .inl mod_next)), (a_mod_ones, .inl (cL, 4096, .inr (.inl mod_ones))), (a_mod_apart, .inl (cZ, 65536, .inl mod_apart))] sz [.ref h_mod, .int p0, .int p1]) (sx_Si v) 0 0 (fun _ => False) := by
  refine Met.ofW (cc := cMod_differ) (maxL := 7) (ret := (some .boolean)) (by decide) rfl ?_
  intro p e s m args below meth c s₁ B hml hv
  obtain ⟨rfl, hsz, hP, hK, hD0, hX⟩ := hv
  have hx := B.exec
  have hb := B.bytes
  have hr := B.returns
  have hts0 := atoms_spec (ws := wsMod_differ) B.pre
  have hts : ∀ w ∈ tb, w.before _ s = true := fun w h => hts0 w (List.mem_cons_of_mem _ h)
  have hown : s.vm.findClass "StateExplorerModel" = some m.cls := findClass_of_methodNamed B.named
  have hlocks := B.notSynchronized
  subst hsz
  have hD := hD0.self (sz := s.heap.size)
  generalize hAe : va_A [(h_mod, .inr (5, [.int mod_code, .int mod_gates, .int mod_feeds, .int mod_inputs, .int mod_latches, .int mod_outputs, .ref a_mod_sort, .ref a_mod_number, .ref a_mod_value, .ref a_mod_made, .ref a_mod_to, .ref a_mod_from, .ref a_mod_outputOf, .ref a_mod_negated, .int mod_explored, .ref a_mod_settles, .ref a_mod_next, .ref a_mod_ones, .ref a_mod_distance, .ref a_mod_apart, .ref a_mod_leads])), (a_mod_outputOf, .inl (cI, 6, .inl mod_outputOf)), (a_mod_settles, .inl (cZ, 4096, .inl mod_settles)), (a_mod_next, .inl (cI, 4096, .inl mod_next)), (a_mod_ones, .inl (cL, 4096, .inr (.inl mod_ones))), (a_mod_apart, .inl (cZ, 65536, .inl mod_apart))] s.heap.size = A at hD hX 
  have hA : ∀ q : Nat, s.heap.size ≤ q → A q := fun q h => by rw [← hAe]; exact Or.inr h
  have hS : va_S A s.heap s.heap [] := va_S.rf
  have hl := lv_entry ([.ref h_mod, .int p0, .int p1]) (n := 7) (Nat.le_of_ble_eq_true rfl)
  rw [lg_entry_eq]
  generalize (lg_sl ([.ref h_mod, .int p0, .int p1]) ++ List.replicate (7 - (lg_sl ([.ref h_mod, .int p0, .int p1])).length) Slot.unset).toArray = ls at hl ⊢
  have hl : lv_has ls 7 [(0, .ref h_mod), (1, .int p0), (2, .int p1)] := hl
  have C0 : sx_C p s m _ meth c cMod_differ 7 "StateExplorerModel" A (dC, dI) [(cI, .int), (cL, .long), (cZ, .boolean)] t1 t2 := ⟨hx, hb, hml, hown, hts, hA, hK, hlocks, hX⟩
  rw [m_Mod_differ] at hm
  refine lv_iconst (v := (0 : Int32)) hx hb dMod_differ_0 (by decide) ?_
  refine lv_istore_n (lv' := [(3, .int (0 : Int32)), (0, .ref h_mod), (1, .int p0), (2, .int p1)]) hx hb dMod_differ_1 rfl hl (by decide) rfl (fun ls hl => ?_)
  refine lv_iconst (v := (0 : Int32)) hx hb dMod_differ_2 (by decide) ?_
  refine lv_istore (lv' := [(4, .int (0 : Int32)), (3, .int (0 : Int32)), (0, .ref h_mod), (1, .int p0), (2, .int p1)]) hx hb dMod_differ_3 hl (by decide) rfl (fun ls hl => ?_)
  obtain ⟨v17, hv17, hm⟩ := sx_bind hm
  refine w_Mod_differ_5 C0 h_mod a_mod_sort a_mod_number a_mod_value a_mod_made a_mod_to a_mod_from a_mod_outputOf a_mod_negated a_mod_settles a_mod_next a_mod_ones a_mod_distance a_mod_apart a_mod_leads mod_code mod_gates mod_feeds mod_inputs mod_latches mod_outputs mod_outputOf mod_explored mod_settles mod_next mod_ones mod_apart p0 p1 hP hD hS _ (0 : Int32) (0 : Int32) v17 hv17 _ (lv_sub hl [2, 3, 4, 1, 0] rfl) ?_
  intro ls hl
  refine lv_iload_n hx hb dMod_differ_113 rfl (lv_at hl 0 rfl) ?_
  obtain ⟨hz9, hm⟩ := gd_el hm
  obtain rfl := Option.some.inj hm
  exact W.zret (v := v17) hx hb hr hz9 (fun t ht hW => ⟨rfl, ht⟩) (fun q hq => nomatch hq) dMod_differ_114
noncomputable def L_Mod_tell_2  : Nat → Int32 → (Nat → Int32) → Option ((Nat → Int32))
  | 0, _, _ => none
  | n + 1, x1, mod_apart => (if (65536 : Int32) ≤ x1 then some mod_apart else gd (vp_in x1 65536) ((L_Mod_tell_2 n (x1 + (1 : Int32)) (upd mod_apart x1.toNatClampNeg (vp_nar .boolean (0 : Int32))))))
noncomputable def L_Mod_tell_41 (mod_inputs mod_outputs : Int32) (mod_outputOf mod_settles mod_next : Nat → Int32) (mod_ones : Nat → Int64) (mod_distance : Nat → Int32) (x2 : Int32) : Nat → Int32 → Int32 → (Nat → Int32) → Option (Int32 × (Nat → Int32))
  | 0, _, _, _ => none
  | n + 1, x1, x3, mod_apart => (if x2 ≤ x3 then some (x1, mod_apart) else gd (vp_in x2 256) ((if mod_distance x2.toNatClampNeg < (0 : Int32) then (L_Mod_tell_41 mod_inputs mod_outputs mod_outputOf mod_settles mod_next mod_ones mod_distance x2 n x1 (x3 + (1 : Int32)) mod_apart) else gd (vp_in x3 256) ((if mod_distance x3.toNatClampNeg < (0 : Int32) then (L_Mod_tell_41 mod_inputs mod_outputs mod_outputOf mod_settles mod_next mod_ones mod_distance x2 n x1 (x3 + (1 : Int32)) mod_apart) else gd (vp_in (((256 : Int32) * x2) + x3) 65536) ((if mod_apart (((256 : Int32) * x2) + x3).toNatClampNeg = (0 : Int32) then (m_Mod_differ mod_inputs mod_outputs mod_outputOf mod_settles mod_next mod_ones mod_apart x2 x3).bind (fun v15 => (if v15 = (0 : Int32) then (L_Mod_tell_41 mod_inputs mod_outputs mod_outputOf mod_settles mod_next mod_ones mod_distance x2 n x1 (x3 + (1 : Int32)) mod_apart) else gd (vp_in (((256 : Int32) * x2) + x3) 65536) (gd (vp_in (((256 : Int32) * x3) + x2) 65536) ((L_Mod_tell_41 mod_inputs mod_outputs mod_outputOf mod_settles mod_next mod_ones mod_distance x2 n (1 : Int32) (x3 + (1 : Int32)) (upd (upd mod_apart (((256 : Int32) * x2) + x3).toNatClampNeg (vp_nar .boolean (1 : Int32))) (((256 : Int32) * x3) + x2).toNatClampNeg (vp_nar .boolean (1 : Int32)))))))) else (L_Mod_tell_41 mod_inputs mod_outputs mod_outputOf mod_settles mod_next mod_ones mod_distance x2 n x1 (x3 + (1 : Int32)) mod_apart))))))))
noncomputable def L_Mod_tell_31 (mod_inputs mod_latches mod_outputs : Int32) (mod_outputOf mod_settles mod_next : Nat → Int32) (mod_ones : Nat → Int64) (mod_distance : Nat → Int32) : Nat → Int32 → Int32 → (Nat → Int32) → Option (Int32 × (Nat → Int32))
  | 0, _, _, _ => none
  | n + 1, x1, x2, mod_apart => (m_Mod_states mod_latches).bind (fun v5 => (if v5 ≤ x2 then some (x1, mod_apart) else ((L_Mod_tell_41 mod_inputs mod_outputs mod_outputOf mod_settles mod_next mod_ones mod_distance x2 fu x1 (0 : Int32) mod_apart).bind (fun v20 => (L_Mod_tell_31 mod_inputs mod_latches mod_outputs mod_outputOf mod_settles mod_next mod_ones mod_distance n v20.1 (x2 + (1 : Int32)) v20.2)))))
noncomputable def L_Mod_tell_23 (mod_inputs mod_latches mod_outputs : Int32) (mod_outputOf mod_settles mod_next : Nat → Int32) (mod_ones : Nat → Int64) (mod_distance : Nat → Int32) : Nat → Int32 → (Nat → Int32) → Option ((Nat → Int32))
  | 0, _, _ => none
  | n + 1, x1, mod_apart => (if x1 = (0 : Int32) then some mod_apart else ((L_Mod_tell_31 mod_inputs mod_latches mod_outputs mod_outputOf mod_settles mod_next mod_ones mod_distance fu (0 : Int32) (0 : Int32) mod_apart).bind (fun v21 => (L_Mod_tell_23 mod_inputs mod_latches mod_outputs mod_outputOf mod_settles mod_next mod_ones mod_distance n v21.1 v21.2))))
noncomputable def m_Mod_tell (mod_inputs mod_latches mod_outputs : Int32) (mod_outputOf mod_settles mod_next : Nat → Int32) (mod_ones : Nat → Int64) (mod_distance mod_apart : Nat → Int32)  : Option ((Nat → Int32)) := ((L_Mod_tell_2 fu (0 : Int32) mod_apart).bind (fun v3 => ((L_Mod_tell_23 mod_inputs mod_latches mod_outputs mod_outputOf mod_settles mod_next mod_ones mod_distance fu (1 : Int32) v3).bind (fun v22 => some v22))))
def rm_Mod_tell : Room := { frames := 2, cells := 0, slots := 0, locals := 51 }
set_option maxHeartbeats 4000000 in
set_option maxRecDepth 100000 in
theorem w_Mod_tell_2 {p : Program} {l : Launch} {e : Env} {s : State} {m : MethodId} {args : Array Value} {below : List Frame} {meth : Method} {c : Code} {dC : Nat → ClassId} {dI : Nat → Nat → Nat} {cI cL cZ : ClassId} {A : Nat → Prop} {Q : State → Prop} {t1 t2 : Nat} (C0 : sx_C p s m args meth c cMod_tell 4 "StateExplorerModel" A (dC, dI) [(cI, .int), (cL, .long), (cZ, .boolean)] t1 t2) (h_mod a_mod_sort a_mod_number a_mod_value a_mod_made a_mod_to a_mod_from a_mod_outputOf a_mod_negated a_mod_settles a_mod_next a_mod_ones a_mod_distance a_mod_apart a_mod_leads : Nat) (mod_code mod_gates mod_feeds mod_inputs mod_latches mod_outputs : Int32) (mod_outputOf : Nat → Int32) (mod_explored : Int32) (mod_settles mod_next : Nat → Int32) (mod_ones : Nat → Int64) (mod_distance : Nat → Int32)  :
    ∀ (n : Nat) (x1 : Int32) (mod_apart : Nat → Int32) (r : (Nat → Int32)), L_Mod_tell_2 n x1 mod_apart = some r → ∀ (H : Heap) (locs : List Loc) (ls : Array Slot), va_P (dC, dI) vwCl [(h_mod, .inr (5, [.int mod_code, .int mod_gates, .int mod_feeds, .int mod_inputs, .int mod_latches, .int mod_outputs, .ref a_mod_sort, .ref a_mod_number, .ref a_mod_value, .ref a_mod_made, .ref a_mod_to, .ref a_mod_from, .ref a_mod_outputOf, .ref a_mod_negated, .int mod_explored, .ref a_mod_settles, .ref a_mod_next, .ref a_mod_ones, .ref a_mod_distance, .ref a_mod_apart, .ref a_mod_leads])), (a_mod_outputOf, .inl (cI, 6, .inl mod_outputOf)), (a_mod_settles, .inl (cZ, 4096, .inl mod_settles)), (a_mod_next, .inl (cI, 4096, .inl mod_next)), (a_mod_ones, .inl (cL, 4096, .inr (.inl mod_ones))), (a_mod_distance, .inl (cI, 256, .inl mod_distance)), (a_mod_apart, .inl (cZ, 65536, .inl mod_apart))] H → va_D A [(h_mod, .inr (5, [.int mod_code, .int mod_gates, .int mod_feeds, .int mod_inputs, .int mod_latches, .int mod_outputs, .ref a_mod_sort, .ref a_mod_number, .ref a_mod_value, .ref a_mod_made, .ref a_mod_to, .ref a_mod_from, .ref a_mod_outputOf, .ref a_mod_negated, .int mod_explored, .ref a_mod_settles, .ref a_mod_next, .ref a_mod_ones, .ref a_mod_distance, .ref a_mod_apart, .ref a_mod_leads])), (a_mod_outputOf, .inl (cI, 6, .inl mod_outputOf)), (a_mod_settles, .inl (cZ, 4096, .inl mod_settles)), (a_mod_next, .inl (cI, 4096, .inl mod_next)), (a_mod_ones, .inl (cL, 4096, .inr (.inl mod_ones))), (a_mod_distance, .inl (cI, 256, .inl mod_distance)), (a_mod_apart, .inl (cZ, 65536, .inl mod_apart))] → va_S A s.heap H locs → lv_has ls 4 [(0, .ref h_mod), (1, .int x1)] →
    (∀ (H : Heap) (locs : List Loc) (ls : Array Slot), va_P (dC, dI) vwCl [(h_mod, .inr (5, [.int mod_code, .int mod_gates, .int mod_feeds, .int mod_inputs, .int mod_latches, .int mod_outputs, .ref a_mod_sort, .ref a_mod_number, .ref a_mod_value, .ref a_mod_made, .ref a_mod_to, .ref a_mod_from, .ref a_mod_outputOf, .ref a_mod_negated, .int mod_explored, .ref a_mod_settles, .ref a_mod_next, .ref a_mod_ones, .ref a_mod_distance, .ref a_mod_apart, .ref a_mod_leads])), (a_mod_outputOf, .inl (cI, 6, .inl mod_outputOf)), (a_mod_settles, .inl (cZ, 4096, .inl mod_settles)), (a_mod_next, .inl (cI, 4096, .inl mod_next)), (a_mod_ones, .inl (cL, 4096, .inr (.inl mod_ones))), (a_mod_distance, .inl (cI, 256, .inl mod_distance)), (a_mod_apart, .inl (cZ, 65536, .inl r))] H → va_D A [(h_mod, .inr (5, [.int mod_code, .int mod_gates, .int mod_feeds, .int mod_inputs, .int mod_latches, .int mod_outputs, .ref a_mod_sort, .ref a_mod_number, .ref a_mod_value, .ref a_mod_made, .ref a_mod_to, .ref a_mod_from, .ref a_mod_outputOf, .ref a_mod_negated, .int mod_explored, .ref a_mod_settles, .ref a_mod_next, .ref a_mod_ones, .ref a_mod_distance, .ref a_mod_apart, .ref a_mod_leads])), (a_mod_outputOf, .inl (cI, 6, .inl mod_outputOf)), (a_mod_settles, .inl (cZ, 4096, .inl mod_settles)), (a_mod_next, .inl (cI, 4096, .inl mod_next)), (a_mod_ones, .inl (cL, 4096, .inr (.inl mod_ones))), (a_mod_distance, .inl (cI, 256, .inl mod_distance)), (a_mod_apart, .inl (cZ, 65536, .inl r))] → va_S A s.heap H locs → lv_has ls 4 [(0, .ref h_mod)] → W p l e (headSpec wsMod_tell rm_Mod_tell).room s m args below meth c H locs 0 0 Q (F0 m 21 ls [])) →
    W p l e (headSpec wsMod_tell rm_Mod_tell).room s m args below meth c H locs 0 0 Q (F0 m 2 ls []) := by
  obtain ⟨hx, hb, hml, hown, hts, hA, hK, hlocks, hX⟩ := id C0
  intro n
  induction n with
  | zero => intro x1 mod_apart r hm; rw [L_Mod_tell_2] at hm; cases hm
  | succ n ih =>
    intro x1 mod_apart r hm H locs ls hP hD hS hl k1
    rw [L_Mod_tell_2] at hm
    refine lv_iload_n hx hb dMod_tell_2 rfl (lv_at hl 1 rfl) ?_
    refine lv_ldc (v := (65536 : Int32)) hx hb hown (hts _ tw_610) dMod_tell_3 ?_
    refine lv_icmp_ge (tgt := 21) hx hb dMod_tell_5 (by decide) (fun c1 => ?_) (fun c1 => ?_)
    · have hm := sx_pos c1 hm
      obtain rfl := Option.some.inj hm
      exact k1 _ _ _ hP hD hS (lv_sub hl [0] rfl)
    · have hm := sx_neg c1 hm
      refine lv_aload_n hx hb dMod_tell_8 rfl (lv_at hl 0 rfl) ?_
      refine va_get (D := (dC, dI)) (ci := 5) (v := .ref a_mod_apart) (C := RMod) (T := TMod) (N := 21) hx hb hts inMod hown hK hP 0 rfl rfl 19 (by decide) (hts _ tw_630) (fun _ h9 => h9) rfl dMod_tell_9 ?_
      refine lv_iload_n hx hb dMod_tell_12 rfl (lv_at hl 1 rfl) ?_
      refine lv_iconst (v := (0 : Int32)) hx hb dMod_tell_13 (by decide) ?_
      obtain ⟨g2, hm⟩ := gd_el hm
      refine va_zast hx hb hK hP hD hS 6 2 rfl rfl g2 dMod_tell_14 (fun H locs hP hD hS => ?_)
      have hP : va_P (dC, dI) vwCl [(h_mod, .inr (5, [.int mod_code, .int mod_gates, .int mod_feeds, .int mod_inputs, .int mod_latches, .int mod_outputs, .ref a_mod_sort, .ref a_mod_number, .ref a_mod_value, .ref a_mod_made, .ref a_mod_to, .ref a_mod_from, .ref a_mod_outputOf, .ref a_mod_negated, .int mod_explored, .ref a_mod_settles, .ref a_mod_next, .ref a_mod_ones, .ref a_mod_distance, .ref a_mod_apart, .ref a_mod_leads])), (a_mod_outputOf, .inl (cI, 6, .inl mod_outputOf)), (a_mod_settles, .inl (cZ, 4096, .inl mod_settles)), (a_mod_next, .inl (cI, 4096, .inl mod_next)), (a_mod_ones, .inl (cL, 4096, .inr (.inl mod_ones))), (a_mod_distance, .inl (cI, 256, .inl mod_distance)), (a_mod_apart, .inl (cZ, 65536, .inl (upd mod_apart x1.toNatClampNeg (vp_nar .boolean (0 : Int32)))))] H := hP
      have hD : va_D A [(h_mod, .inr (5, [.int mod_code, .int mod_gates, .int mod_feeds, .int mod_inputs, .int mod_latches, .int mod_outputs, .ref a_mod_sort, .ref a_mod_number, .ref a_mod_value, .ref a_mod_made, .ref a_mod_to, .ref a_mod_from, .ref a_mod_outputOf, .ref a_mod_negated, .int mod_explored, .ref a_mod_settles, .ref a_mod_next, .ref a_mod_ones, .ref a_mod_distance, .ref a_mod_apart, .ref a_mod_leads])), (a_mod_outputOf, .inl (cI, 6, .inl mod_outputOf)), (a_mod_settles, .inl (cZ, 4096, .inl mod_settles)), (a_mod_next, .inl (cI, 4096, .inl mod_next)), (a_mod_ones, .inl (cL, 4096, .inr (.inl mod_ones))), (a_mod_distance, .inl (cI, 256, .inl mod_distance)), (a_mod_apart, .inl (cZ, 65536, .inl (upd mod_apart x1.toNatClampNeg (vp_nar .boolean (0 : Int32)))))] := hD
      refine lv_iinc (v := x1 + (1 : Int32)) (lv' := [(1, .int (x1 + (1 : Int32))), (0, .ref h_mod)]) hx hb dMod_tell_15 hl (k := 1) rfl rfl (by decide) rfl (fun ls hl => ?_)
      refine lv_goto (tgt := 2) hx hb dMod_tell_18 (by decide) ?_
      exact ih (x1 + (1 : Int32)) (upd mod_apart x1.toNatClampNeg (vp_nar .boolean (0 : Int32))) r hm _ _ _ hP hD hS (lv_sub hl [1, 0] rfl) k1
set_option maxHeartbeats 4000000 in
set_option maxRecDepth 100000 in
theorem w_Mod_tell_41 {p : Program} {l : Launch} {e : Env} {s : State} {m : MethodId} {args : Array Value} {below : List Frame} {meth : Method} {c : Code} {dC : Nat → ClassId} {dI : Nat → Nat → Nat} {cI cL cZ : ClassId} {A : Nat → Prop} {Q : State → Prop} {t1 t2 : Nat} (C0 : sx_C p s m args meth c cMod_tell 4 "StateExplorerModel" A (dC, dI) [(cI, .int), (cL, .long), (cZ, .boolean)] t1 t2) (h_mod a_mod_sort a_mod_number a_mod_value a_mod_made a_mod_to a_mod_from a_mod_outputOf a_mod_negated a_mod_settles a_mod_next a_mod_ones a_mod_distance a_mod_apart a_mod_leads : Nat) (mod_code mod_gates mod_feeds mod_inputs mod_latches mod_outputs : Int32) (mod_outputOf : Nat → Int32) (mod_explored : Int32) (mod_settles mod_next : Nat → Int32) (mod_ones : Nat → Int64) (mod_distance : Nat → Int32) (x2 : Int32) :
    ∀ (n : Nat) (x1 : Int32) (x3 : Int32) (mod_apart : Nat → Int32) (r : Int32 × (Nat → Int32)), L_Mod_tell_41 mod_inputs mod_outputs mod_outputOf mod_settles mod_next mod_ones mod_distance x2 n x1 x3 mod_apart = some r → ∀ (H : Heap) (locs : List Loc) (ls : Array Slot), va_P (dC, dI) vwCl [(h_mod, .inr (5, [.int mod_code, .int mod_gates, .int mod_feeds, .int mod_inputs, .int mod_latches, .int mod_outputs, .ref a_mod_sort, .ref a_mod_number, .ref a_mod_value, .ref a_mod_made, .ref a_mod_to, .ref a_mod_from, .ref a_mod_outputOf, .ref a_mod_negated, .int mod_explored, .ref a_mod_settles, .ref a_mod_next, .ref a_mod_ones, .ref a_mod_distance, .ref a_mod_apart, .ref a_mod_leads])), (a_mod_outputOf, .inl (cI, 6, .inl mod_outputOf)), (a_mod_settles, .inl (cZ, 4096, .inl mod_settles)), (a_mod_next, .inl (cI, 4096, .inl mod_next)), (a_mod_ones, .inl (cL, 4096, .inr (.inl mod_ones))), (a_mod_distance, .inl (cI, 256, .inl mod_distance)), (a_mod_apart, .inl (cZ, 65536, .inl mod_apart))] H → va_D A [(h_mod, .inr (5, [.int mod_code, .int mod_gates, .int mod_feeds, .int mod_inputs, .int mod_latches, .int mod_outputs, .ref a_mod_sort, .ref a_mod_number, .ref a_mod_value, .ref a_mod_made, .ref a_mod_to, .ref a_mod_from, .ref a_mod_outputOf, .ref a_mod_negated, .int mod_explored, .ref a_mod_settles, .ref a_mod_next, .ref a_mod_ones, .ref a_mod_distance, .ref a_mod_apart, .ref a_mod_leads])), (a_mod_outputOf, .inl (cI, 6, .inl mod_outputOf)), (a_mod_settles, .inl (cZ, 4096, .inl mod_settles)), (a_mod_next, .inl (cI, 4096, .inl mod_next)), (a_mod_ones, .inl (cL, 4096, .inr (.inl mod_ones))), (a_mod_distance, .inl (cI, 256, .inl mod_distance)), (a_mod_apart, .inl (cZ, 65536, .inl mod_apart))] → va_S A s.heap H locs → lv_has ls 4 [(0, .ref h_mod), (1, .int x1), (2, .int x2), (3, .int x3)] →
    (∀ (H : Heap) (locs : List Loc) (ls : Array Slot), va_P (dC, dI) vwCl [(h_mod, .inr (5, [.int mod_code, .int mod_gates, .int mod_feeds, .int mod_inputs, .int mod_latches, .int mod_outputs, .ref a_mod_sort, .ref a_mod_number, .ref a_mod_value, .ref a_mod_made, .ref a_mod_to, .ref a_mod_from, .ref a_mod_outputOf, .ref a_mod_negated, .int mod_explored, .ref a_mod_settles, .ref a_mod_next, .ref a_mod_ones, .ref a_mod_distance, .ref a_mod_apart, .ref a_mod_leads])), (a_mod_outputOf, .inl (cI, 6, .inl mod_outputOf)), (a_mod_settles, .inl (cZ, 4096, .inl mod_settles)), (a_mod_next, .inl (cI, 4096, .inl mod_next)), (a_mod_ones, .inl (cL, 4096, .inr (.inl mod_ones))), (a_mod_distance, .inl (cI, 256, .inl mod_distance)), (a_mod_apart, .inl (cZ, 65536, .inl r.2))] H → va_D A [(h_mod, .inr (5, [.int mod_code, .int mod_gates, .int mod_feeds, .int mod_inputs, .int mod_latches, .int mod_outputs, .ref a_mod_sort, .ref a_mod_number, .ref a_mod_value, .ref a_mod_made, .ref a_mod_to, .ref a_mod_from, .ref a_mod_outputOf, .ref a_mod_negated, .int mod_explored, .ref a_mod_settles, .ref a_mod_next, .ref a_mod_ones, .ref a_mod_distance, .ref a_mod_apart, .ref a_mod_leads])), (a_mod_outputOf, .inl (cI, 6, .inl mod_outputOf)), (a_mod_settles, .inl (cZ, 4096, .inl mod_settles)), (a_mod_next, .inl (cI, 4096, .inl mod_next)), (a_mod_ones, .inl (cL, 4096, .inr (.inl mod_ones))), (a_mod_distance, .inl (cI, 256, .inl mod_distance)), (a_mod_apart, .inl (cZ, 65536, .inl r.2))] → va_S A s.heap H locs → lv_has ls 4 [(0, .ref h_mod), (1, .int r.1), (2, .int x2)] → W p l e (headSpec wsMod_tell rm_Mod_tell).room s m args below meth c H locs 0 0 Q (F0 m 125 ls [])) →
    W p l e (headSpec wsMod_tell rm_Mod_tell).room s m args below meth c H locs 0 0 Q (F0 m 41 ls []) := by
  obtain ⟨hx, hb, hml, hown, hts, hA, hK, hlocks, hX⟩ := id C0
  intro n
  induction n with
  | zero => intro x1 x3 mod_apart r hm; rw [L_Mod_tell_41] at hm; cases hm
  | succ n ih =>
    intro x1 x3 mod_apart r hm H locs ls hP hD hS hl k1
    rw [L_Mod_tell_41] at hm
    refine lv_iload_n hx hb dMod_tell_41 rfl (lv_at hl 3 rfl) ?_
    refine lv_iload_n hx hb dMod_tell_42 rfl (lv_at hl 2 rfl) ?_
    refine lv_icmp_ge (tgt := 125) hx hb dMod_tell_43 (by decide) (fun c8 => ?_) (fun c8 => ?_)
    · have hm := sx_pos c8 hm
      obtain rfl := Option.some.inj hm
      exact k1 _ _ _ hP hD hS (lv_sub hl [0, 1, 2] rfl)
    · have hm := sx_neg c8 hm
      refine lv_aload_n hx hb dMod_tell_46 rfl (lv_at hl 0 rfl) ?_
      refine va_get (D := (dC, dI)) (ci := 5) (v := .ref a_mod_distance) (C := RMod) (T := TMod) (N := 21) hx hb hts inMod hown hK hP 0 rfl rfl 18 (by decide) (hts _ tw_629) (fun _ h9 => h9) rfl dMod_tell_47 ?_
      refine lv_iload_n hx hb dMod_tell_50 rfl (lv_at hl 2 rfl) ?_
      obtain ⟨g9, hm⟩ := gd_el hm
      refine va_iald hx hb hK hP 5 0 rfl rfl g9 dMod_tell_51 ?_
      refine lv_if_lt (tgt := 119) hx hb dMod_tell_52 (by decide) (fun c10 => ?_) (fun c10 => ?_)
      · have hm := sx_pos c10 hm
        refine lv_iinc (v := x3 + (1 : Int32)) (lv' := [(3, .int (x3 + (1 : Int32))), (0, .ref h_mod), (1, .int x1), (2, .int x2)]) hx hb dMod_tell_119 hl (k := 3) rfl rfl (by decide) rfl (fun ls hl => ?_)
        refine lv_goto (tgt := 41) hx hb dMod_tell_122 (by decide) ?_
        exact ih x1 (x3 + (1 : Int32)) mod_apart r hm _ _ _ hP hD hS (lv_sub hl [1, 2, 3, 0] rfl) k1
      · have hm := sx_neg c10 hm
        refine lv_aload_n hx hb dMod_tell_55 rfl (lv_at hl 0 rfl) ?_
        refine va_get (D := (dC, dI)) (ci := 5) (v := .ref a_mod_distance) (C := RMod) (T := TMod) (N := 21) hx hb hts inMod hown hK hP 0 rfl rfl 18 (by decide) (hts _ tw_629) (fun _ h9 => h9) rfl dMod_tell_56 ?_
        refine lv_iload_n hx hb dMod_tell_59 rfl (lv_at hl 3 rfl) ?_
        obtain ⟨g11, hm⟩ := gd_el hm
        refine va_iald hx hb hK hP 5 0 rfl rfl g11 dMod_tell_60 ?_
        refine lv_if_lt (tgt := 119) hx hb dMod_tell_61 (by decide) (fun c12 => ?_) (fun c12 => ?_)
        · have hm := sx_pos c12 hm
          refine lv_iinc (v := x3 + (1 : Int32)) (lv' := [(3, .int (x3 + (1 : Int32))), (0, .ref h_mod), (1, .int x1), (2, .int x2)]) hx hb dMod_tell_119 hl (k := 3) rfl rfl (by decide) rfl (fun ls hl => ?_)
          refine lv_goto (tgt := 41) hx hb dMod_tell_122 (by decide) ?_
          exact ih x1 (x3 + (1 : Int32)) mod_apart r hm _ _ _ hP hD hS (lv_sub hl [1, 2, 3, 0] rfl) k1
        · have hm := sx_neg c12 hm
          refine lv_aload_n hx hb dMod_tell_64 rfl (lv_at hl 0 rfl) ?_
          refine va_get (D := (dC, dI)) (ci := 5) (v := .ref a_mod_apart) (C := RMod) (T := TMod) (N := 21) hx hb hts inMod hown hK hP 0 rfl rfl 19 (by decide) (hts _ tw_630) (fun _ h9 => h9) rfl dMod_tell_65 ?_
          refine lv_sipush (v := (256 : Int32)) hx hb dMod_tell_68 (by decide) ?_
          refine lv_iload_n hx hb dMod_tell_71 rfl (lv_at hl 2 rfl) ?_
          refine lv_imul hx hb dMod_tell_72 ?_
          refine lv_iload_n hx hb dMod_tell_73 rfl (lv_at hl 3 rfl) ?_
          refine lv_iadd hx hb dMod_tell_74 ?_
          obtain ⟨g13, hm⟩ := gd_el hm
          refine va_zald hx hb hK hP 6 2 rfl rfl g13 dMod_tell_75 ?_
          refine lv_if_ne (tgt := 119) hx hb dMod_tell_76 (by decide) (fun c14 => ?_) (fun c14 => ?_)
          · have hm := sx_neg c14 hm
            refine lv_iinc (v := x3 + (1 : Int32)) (lv' := [(3, .int (x3 + (1 : Int32))), (0, .ref h_mod), (1, .int x1), (2, .int x2)]) hx hb dMod_tell_119 hl (k := 3) rfl rfl (by decide) rfl (fun ls hl => ?_)
            refine lv_goto (tgt := 41) hx hb dMod_tell_122 (by decide) ?_
            exact ih x1 (x3 + (1 : Int32)) mod_apart r hm _ _ _ hP hD hS (lv_sub hl [1, 2, 3, 0] rfl) k1
          · have hm := sx_pos c14 hm
            refine lv_aload_n hx hb dMod_tell_79 rfl (lv_at hl 0 rfl) ?_
            refine lv_iload_n hx hb dMod_tell_80 rfl (lv_at hl 2 rfl) ?_
            refine lv_iload_n hx hb dMod_tell_81 rfl (lv_at hl 3 rfl) ?_
            obtain ⟨v15, hv15, hm⟩ := sx_bind hm
            have hPc := hP.sub (ws' := [(h_mod, .inr (5, [.int mod_code, .int mod_gates, .int mod_feeds, .int mod_inputs, .int mod_latches, .int mod_outputs, .ref a_mod_sort, .ref a_mod_number, .ref a_mod_value, .ref a_mod_made, .ref a_mod_to, .ref a_mod_from, .ref a_mod_outputOf, .ref a_mod_negated, .int mod_explored, .ref a_mod_settles, .ref a_mod_next, .ref a_mod_ones, .ref a_mod_distance, .ref a_mod_apart, .ref a_mod_leads])), (a_mod_outputOf, .inl (cI, 6, .inl mod_outputOf)), (a_mod_settles, .inl (cZ, 4096, .inl mod_settles)), (a_mod_next, .inl (cI, 4096, .inl mod_next)), (a_mod_ones, .inl (cL, 4096, .inr (.inl mod_ones))), (a_mod_apart, .inl (cZ, 65536, .inl mod_apart))]) [0, 1, 2, 3, 4, 6] rfl
            have hDc := hD.sub (ws' := [(h_mod, .inr (5, [.int mod_code, .int mod_gates, .int mod_feeds, .int mod_inputs, .int mod_latches, .int mod_outputs, .ref a_mod_sort, .ref a_mod_number, .ref a_mod_value, .ref a_mod_made, .ref a_mod_to, .ref a_mod_from, .ref a_mod_outputOf, .ref a_mod_negated, .int mod_explored, .ref a_mod_settles, .ref a_mod_next, .ref a_mod_ones, .ref a_mod_distance, .ref a_mod_apart, .ref a_mod_leads])), (a_mod_outputOf, .inl (cI, 6, .inl mod_outputOf)), (a_mod_settles, .inl (cZ, 4096, .inl mod_settles)), (a_mod_next, .inl (cI, 4096, .inl mod_next)), (a_mod_ones, .inl (cL, 4096, .inr (.inl mod_ones))), (a_mod_apart, .inl (cZ, 65536, .inl mod_apart))]) [0, 1, 2, 3, 4, 6] (by decide) rfl
            have hFc := va_free (wc := [(h_mod, .inr (5, [.int mod_code, .int mod_gates, .int mod_feeds, .int mod_inputs, .int mod_latches, .int mod_outputs, .ref a_mod_sort, .ref a_mod_number, .ref a_mod_value, .ref a_mod_made, .ref a_mod_to, .ref a_mod_from, .ref a_mod_outputOf, .ref a_mod_negated, .int mod_explored, .ref a_mod_settles, .ref a_mod_next, .ref a_mod_ones, .ref a_mod_distance, .ref a_mod_apart, .ref a_mod_leads])), (a_mod_outputOf, .inl (cI, 6, .inl mod_outputOf)), (a_mod_settles, .inl (cZ, 4096, .inl mod_settles)), (a_mod_next, .inl (cI, 4096, .inl mod_next)), (a_mod_ones, .inl (cL, 4096, .inr (.inl mod_ones))), (a_mod_apart, .inl (cZ, 65536, .inl mod_apart))]) hD hS hA [0, 1, 2, 3, 4, 6] rfl
            refine sx_stI (va_runV (As := [.int x2, .int x3]) (rest := []) ⟨hx, hb, hml, hown, hts⟩ (k_Mod_differ l dC dI cI cL cZ t1 t2 h_mod a_mod_sort a_mod_number a_mod_value a_mod_made a_mod_to a_mod_from a_mod_outputOf a_mod_negated a_mod_settles a_mod_next a_mod_ones a_mod_distance a_mod_apart a_mod_leads mod_code mod_gates mod_feeds mod_inputs mod_latches mod_outputs mod_outputOf mod_explored mod_settles mod_next mod_ones mod_apart _ x2 x3 v15 hv15) (cwV 2 hts (sx_gV tw_732 tw_734 tw_28 tw_41 tcMod_differ) rfl rfl rfl (by decide +kernel) ⟨Nat.le_of_ble_eq_true rfl, Nat.le_of_ble_eq_true rfl⟩) (sx_pV hK hX hS hPc hDc hFc (va_recv hK hPc (ci := 5) (q0 := 0) rfl rfl)) rfl rfl hl.1 rfl (lv_room (Nat.le_of_ble_eq_true rfl)) dMod_tell_82 ⟨Nat.le_of_ble_eq_true rfl, Nat.le_of_ble_eq_true rfl⟩) ?_
            refine lv_if_ne (tgt := 91) hx hb dMod_tell_85 (by decide) (fun c17 => ?_) (fun c17 => ?_)
            · have hm := sx_neg c17 hm
              refine lv_aload_n hx hb dMod_tell_91 rfl (lv_at hl 0 rfl) ?_
              refine va_get (D := (dC, dI)) (ci := 5) (v := .ref a_mod_apart) (C := RMod) (T := TMod) (N := 21) hx hb hts inMod hown hK hP 0 rfl rfl 19 (by decide) (hts _ tw_630) (fun _ h9 => h9) rfl dMod_tell_92 ?_
              refine lv_sipush (v := (256 : Int32)) hx hb dMod_tell_95 (by decide) ?_
              refine lv_iload_n hx hb dMod_tell_98 rfl (lv_at hl 2 rfl) ?_
              refine lv_imul hx hb dMod_tell_99 ?_
              refine lv_iload_n hx hb dMod_tell_100 rfl (lv_at hl 3 rfl) ?_
              refine lv_iadd hx hb dMod_tell_101 ?_
              refine lv_iconst (v := (1 : Int32)) hx hb dMod_tell_102 (by decide) ?_
              obtain ⟨g18, hm⟩ := gd_el hm
              refine va_zast hx hb hK hP hD hS 6 2 rfl rfl g18 dMod_tell_103 (fun H locs hP hD hS => ?_)
              have hP : va_P (dC, dI) vwCl [(h_mod, .inr (5, [.int mod_code, .int mod_gates, .int mod_feeds, .int mod_inputs, .int mod_latches, .int mod_outputs, .ref a_mod_sort, .ref a_mod_number, .ref a_mod_value, .ref a_mod_made, .ref a_mod_to, .ref a_mod_from, .ref a_mod_outputOf, .ref a_mod_negated, .int mod_explored, .ref a_mod_settles, .ref a_mod_next, .ref a_mod_ones, .ref a_mod_distance, .ref a_mod_apart, .ref a_mod_leads])), (a_mod_outputOf, .inl (cI, 6, .inl mod_outputOf)), (a_mod_settles, .inl (cZ, 4096, .inl mod_settles)), (a_mod_next, .inl (cI, 4096, .inl mod_next)), (a_mod_ones, .inl (cL, 4096, .inr (.inl mod_ones))), (a_mod_distance, .inl (cI, 256, .inl mod_distance)), (a_mod_apart, .inl (cZ, 65536, .inl (upd mod_apart (((256 : Int32) * x2) + x3).toNatClampNeg (vp_nar .boolean (1 : Int32)))))] H := hP
              have hD : va_D A [(h_mod, .inr (5, [.int mod_code, .int mod_gates, .int mod_feeds, .int mod_inputs, .int mod_latches, .int mod_outputs, .ref a_mod_sort, .ref a_mod_number, .ref a_mod_value, .ref a_mod_made, .ref a_mod_to, .ref a_mod_from, .ref a_mod_outputOf, .ref a_mod_negated, .int mod_explored, .ref a_mod_settles, .ref a_mod_next, .ref a_mod_ones, .ref a_mod_distance, .ref a_mod_apart, .ref a_mod_leads])), (a_mod_outputOf, .inl (cI, 6, .inl mod_outputOf)), (a_mod_settles, .inl (cZ, 4096, .inl mod_settles)), (a_mod_next, .inl (cI, 4096, .inl mod_next)), (a_mod_ones, .inl (cL, 4096, .inr (.inl mod_ones))), (a_mod_distance, .inl (cI, 256, .inl mod_distance)), (a_mod_apart, .inl (cZ, 65536, .inl (upd mod_apart (((256 : Int32) * x2) + x3).toNatClampNeg (vp_nar .boolean (1 : Int32)))))] := hD
              refine lv_aload_n hx hb dMod_tell_104 rfl (lv_at hl 0 rfl) ?_
              refine va_get (D := (dC, dI)) (ci := 5) (v := .ref a_mod_apart) (C := RMod) (T := TMod) (N := 21) hx hb hts inMod hown hK hP 0 rfl rfl 19 (by decide) (hts _ tw_630) (fun _ h9 => h9) rfl dMod_tell_105 ?_
              refine lv_sipush (v := (256 : Int32)) hx hb dMod_tell_108 (by decide) ?_
              refine lv_iload_n hx hb dMod_tell_111 rfl (lv_at hl 3 rfl) ?_
              refine lv_imul hx hb dMod_tell_112 ?_
              refine lv_iload_n hx hb dMod_tell_113 rfl (lv_at hl 2 rfl) ?_
              refine lv_iadd hx hb dMod_tell_114 ?_
              refine lv_iconst (v := (1 : Int32)) hx hb dMod_tell_115 (by decide) ?_
              obtain ⟨g19, hm⟩ := gd_el hm
              refine va_zast hx hb hK hP hD hS 6 2 rfl rfl g19 dMod_tell_116 (fun H locs hP hD hS => ?_)
              have hP : va_P (dC, dI) vwCl [(h_mod, .inr (5, [.int mod_code, .int mod_gates, .int mod_feeds, .int mod_inputs, .int mod_latches, .int mod_outputs, .ref a_mod_sort, .ref a_mod_number, .ref a_mod_value, .ref a_mod_made, .ref a_mod_to, .ref a_mod_from, .ref a_mod_outputOf, .ref a_mod_negated, .int mod_explored, .ref a_mod_settles, .ref a_mod_next, .ref a_mod_ones, .ref a_mod_distance, .ref a_mod_apart, .ref a_mod_leads])), (a_mod_outputOf, .inl (cI, 6, .inl mod_outputOf)), (a_mod_settles, .inl (cZ, 4096, .inl mod_settles)), (a_mod_next, .inl (cI, 4096, .inl mod_next)), (a_mod_ones, .inl (cL, 4096, .inr (.inl mod_ones))), (a_mod_distance, .inl (cI, 256, .inl mod_distance)), (a_mod_apart, .inl (cZ, 65536, .inl (upd (upd mod_apart (((256 : Int32) * x2) + x3).toNatClampNeg (vp_nar .boolean (1 : Int32))) (((256 : Int32) * x3) + x2).toNatClampNeg (vp_nar .boolean (1 : Int32)))))] H := hP
              have hD : va_D A [(h_mod, .inr (5, [.int mod_code, .int mod_gates, .int mod_feeds, .int mod_inputs, .int mod_latches, .int mod_outputs, .ref a_mod_sort, .ref a_mod_number, .ref a_mod_value, .ref a_mod_made, .ref a_mod_to, .ref a_mod_from, .ref a_mod_outputOf, .ref a_mod_negated, .int mod_explored, .ref a_mod_settles, .ref a_mod_next, .ref a_mod_ones, .ref a_mod_distance, .ref a_mod_apart, .ref a_mod_leads])), (a_mod_outputOf, .inl (cI, 6, .inl mod_outputOf)), (a_mod_settles, .inl (cZ, 4096, .inl mod_settles)), (a_mod_next, .inl (cI, 4096, .inl mod_next)), (a_mod_ones, .inl (cL, 4096, .inr (.inl mod_ones))), (a_mod_distance, .inl (cI, 256, .inl mod_distance)), (a_mod_apart, .inl (cZ, 65536, .inl (upd (upd mod_apart (((256 : Int32) * x2) + x3).toNatClampNeg (vp_nar .boolean (1 : Int32))) (((256 : Int32) * x3) + x2).toNatClampNeg (vp_nar .boolean (1 : Int32)))))] := hD
              refine lv_iconst (v := (1 : Int32)) hx hb dMod_tell_117 (by decide) ?_
              refine lv_istore_n (lv' := [(1, .int (1 : Int32)), (0, .ref h_mod), (2, .int x2), (3, .int x3)]) hx hb dMod_tell_118 rfl hl (by decide) rfl (fun ls hl => ?_)
              refine lv_iinc (v := x3 + (1 : Int32)) (lv' := [(3, .int (x3 + (1 : Int32))), (1, .int (1 : Int32)), (0, .ref h_mod), (2, .int x2)]) hx hb dMod_tell_119 hl (k := 3) rfl rfl (by decide) rfl (fun ls hl => ?_)
              refine lv_goto (tgt := 41) hx hb dMod_tell_122 (by decide) ?_
              exact ih (1 : Int32) (x3 + (1 : Int32)) (upd (upd mod_apart (((256 : Int32) * x2) + x3).toNatClampNeg (vp_nar .boolean (1 : Int32))) (((256 : Int32) * x3) + x2).toNatClampNeg (vp_nar .boolean (1 : Int32))) r hm _ _ _ hP hD hS (lv_sub hl [2, 1, 3, 0] rfl) k1
            · have hm := sx_pos c17 hm
              refine lv_goto (tgt := 119) hx hb dMod_tell_88 (by decide) ?_
              refine lv_iinc (v := x3 + (1 : Int32)) (lv' := [(3, .int (x3 + (1 : Int32))), (0, .ref h_mod), (1, .int x1), (2, .int x2)]) hx hb dMod_tell_119 hl (k := 3) rfl rfl (by decide) rfl (fun ls hl => ?_)
              refine lv_goto (tgt := 41) hx hb dMod_tell_122 (by decide) ?_
              exact ih x1 (x3 + (1 : Int32)) mod_apart r hm _ _ _ hP hD hS (lv_sub hl [1, 2, 3, 0] rfl) k1
set_option maxHeartbeats 4000000 in
set_option maxRecDepth 100000 in
theorem w_Mod_tell_31 {p : Program} {l : Launch} {e : Env} {s : State} {m : MethodId} {args : Array Value} {below : List Frame} {meth : Method} {c : Code} {dC : Nat → ClassId} {dI : Nat → Nat → Nat} {cI cL cZ : ClassId} {A : Nat → Prop} {Q : State → Prop} {t1 t2 : Nat} (C0 : sx_C p s m args meth c cMod_tell 4 "StateExplorerModel" A (dC, dI) [(cI, .int), (cL, .long), (cZ, .boolean)] t1 t2) (h_mod a_mod_sort a_mod_number a_mod_value a_mod_made a_mod_to a_mod_from a_mod_outputOf a_mod_negated a_mod_settles a_mod_next a_mod_ones a_mod_distance a_mod_apart a_mod_leads : Nat) (mod_code mod_gates mod_feeds mod_inputs mod_latches mod_outputs : Int32) (mod_outputOf : Nat → Int32) (mod_explored : Int32) (mod_settles mod_next : Nat → Int32) (mod_ones : Nat → Int64) (mod_distance : Nat → Int32)  :
    ∀ (n : Nat) (x1 : Int32) (x2 : Int32) (mod_apart : Nat → Int32) (r : Int32 × (Nat → Int32)), L_Mod_tell_31 mod_inputs mod_latches mod_outputs mod_outputOf mod_settles mod_next mod_ones mod_distance n x1 x2 mod_apart = some r → ∀ (H : Heap) (locs : List Loc) (ls : Array Slot), va_P (dC, dI) vwCl [(h_mod, .inr (5, [.int mod_code, .int mod_gates, .int mod_feeds, .int mod_inputs, .int mod_latches, .int mod_outputs, .ref a_mod_sort, .ref a_mod_number, .ref a_mod_value, .ref a_mod_made, .ref a_mod_to, .ref a_mod_from, .ref a_mod_outputOf, .ref a_mod_negated, .int mod_explored, .ref a_mod_settles, .ref a_mod_next, .ref a_mod_ones, .ref a_mod_distance, .ref a_mod_apart, .ref a_mod_leads])), (a_mod_outputOf, .inl (cI, 6, .inl mod_outputOf)), (a_mod_settles, .inl (cZ, 4096, .inl mod_settles)), (a_mod_next, .inl (cI, 4096, .inl mod_next)), (a_mod_ones, .inl (cL, 4096, .inr (.inl mod_ones))), (a_mod_distance, .inl (cI, 256, .inl mod_distance)), (a_mod_apart, .inl (cZ, 65536, .inl mod_apart))] H → va_D A [(h_mod, .inr (5, [.int mod_code, .int mod_gates, .int mod_feeds, .int mod_inputs, .int mod_latches, .int mod_outputs, .ref a_mod_sort, .ref a_mod_number, .ref a_mod_value, .ref a_mod_made, .ref a_mod_to, .ref a_mod_from, .ref a_mod_outputOf, .ref a_mod_negated, .int mod_explored, .ref a_mod_settles, .ref a_mod_next, .ref a_mod_ones, .ref a_mod_distance, .ref a_mod_apart, .ref a_mod_leads])), (a_mod_outputOf, .inl (cI, 6, .inl mod_outputOf)), (a_mod_settles, .inl (cZ, 4096, .inl mod_settles)), (a_mod_next, .inl (cI, 4096, .inl mod_next)), (a_mod_ones, .inl (cL, 4096, .inr (.inl mod_ones))), (a_mod_distance, .inl (cI, 256, .inl mod_distance)), (a_mod_apart, .inl (cZ, 65536, .inl mod_apart))] → va_S A s.heap H locs → lv_has ls 4 [(0, .ref h_mod), (1, .int x1), (2, .int x2)] →
    (∀ (H : Heap) (locs : List Loc) (ls : Array Slot), va_P (dC, dI) vwCl [(h_mod, .inr (5, [.int mod_code, .int mod_gates, .int mod_feeds, .int mod_inputs, .int mod_latches, .int mod_outputs, .ref a_mod_sort, .ref a_mod_number, .ref a_mod_value, .ref a_mod_made, .ref a_mod_to, .ref a_mod_from, .ref a_mod_outputOf, .ref a_mod_negated, .int mod_explored, .ref a_mod_settles, .ref a_mod_next, .ref a_mod_ones, .ref a_mod_distance, .ref a_mod_apart, .ref a_mod_leads])), (a_mod_outputOf, .inl (cI, 6, .inl mod_outputOf)), (a_mod_settles, .inl (cZ, 4096, .inl mod_settles)), (a_mod_next, .inl (cI, 4096, .inl mod_next)), (a_mod_ones, .inl (cL, 4096, .inr (.inl mod_ones))), (a_mod_distance, .inl (cI, 256, .inl mod_distance)), (a_mod_apart, .inl (cZ, 65536, .inl r.2))] H → va_D A [(h_mod, .inr (5, [.int mod_code, .int mod_gates, .int mod_feeds, .int mod_inputs, .int mod_latches, .int mod_outputs, .ref a_mod_sort, .ref a_mod_number, .ref a_mod_value, .ref a_mod_made, .ref a_mod_to, .ref a_mod_from, .ref a_mod_outputOf, .ref a_mod_negated, .int mod_explored, .ref a_mod_settles, .ref a_mod_next, .ref a_mod_ones, .ref a_mod_distance, .ref a_mod_apart, .ref a_mod_leads])), (a_mod_outputOf, .inl (cI, 6, .inl mod_outputOf)), (a_mod_settles, .inl (cZ, 4096, .inl mod_settles)), (a_mod_next, .inl (cI, 4096, .inl mod_next)), (a_mod_ones, .inl (cL, 4096, .inr (.inl mod_ones))), (a_mod_distance, .inl (cI, 256, .inl mod_distance)), (a_mod_apart, .inl (cZ, 65536, .inl r.2))] → va_S A s.heap H locs → lv_has ls 4 [(0, .ref h_mod), (1, .int r.1)] → W p l e (headSpec wsMod_tell rm_Mod_tell).room s m args below meth c H locs 0 0 Q (F0 m 131 ls [])) →
    W p l e (headSpec wsMod_tell rm_Mod_tell).room s m args below meth c H locs 0 0 Q (F0 m 31 ls []) := by
  obtain ⟨hx, hb, hml, hown, hts, hA, hK, hlocks, hX⟩ := id C0
  intro n
  induction n with
  | zero => intro x1 x2 mod_apart r hm; rw [L_Mod_tell_31] at hm; cases hm
  | succ n ih =>
    intro x1 x2 mod_apart r hm H locs ls hP hD hS hl k1
    rw [L_Mod_tell_31] at hm
    refine lv_iload_n hx hb dMod_tell_31 rfl (lv_at hl 2 rfl) ?_
    refine lv_aload_n hx hb dMod_tell_32 rfl (lv_at hl 0 rfl) ?_
    obtain ⟨v5, hv5, hm⟩ := sx_bind hm
    have hPc := hP.sub (ws' := [(h_mod, .inr (5, [.int mod_code, .int mod_gates, .int mod_feeds, .int mod_inputs, .int mod_latches, .int mod_outputs, .ref a_mod_sort, .ref a_mod_number, .ref a_mod_value, .ref a_mod_made, .ref a_mod_to, .ref a_mod_from, .ref a_mod_outputOf, .ref a_mod_negated, .int mod_explored, .ref a_mod_settles, .ref a_mod_next, .ref a_mod_ones, .ref a_mod_distance, .ref a_mod_apart, .ref a_mod_leads]))]) [0] rfl
    have hDc := hD.sub (ws' := [(h_mod, .inr (5, [.int mod_code, .int mod_gates, .int mod_feeds, .int mod_inputs, .int mod_latches, .int mod_outputs, .ref a_mod_sort, .ref a_mod_number, .ref a_mod_value, .ref a_mod_made, .ref a_mod_to, .ref a_mod_from, .ref a_mod_outputOf, .ref a_mod_negated, .int mod_explored, .ref a_mod_settles, .ref a_mod_next, .ref a_mod_ones, .ref a_mod_distance, .ref a_mod_apart, .ref a_mod_leads]))]) [0] (by decide) rfl
    have hFc := va_free (wc := [(h_mod, .inr (5, [.int mod_code, .int mod_gates, .int mod_feeds, .int mod_inputs, .int mod_latches, .int mod_outputs, .ref a_mod_sort, .ref a_mod_number, .ref a_mod_value, .ref a_mod_made, .ref a_mod_to, .ref a_mod_from, .ref a_mod_outputOf, .ref a_mod_negated, .int mod_explored, .ref a_mod_settles, .ref a_mod_next, .ref a_mod_ones, .ref a_mod_distance, .ref a_mod_apart, .ref a_mod_leads]))]) hD hS hA [0] rfl
    refine sx_stI (va_runV (As := []) (rest := [.int x2]) ⟨hx, hb, hml, hown, hts⟩ (k_Mod_states l dC dI cI cL cZ t1 t2 h_mod a_mod_sort a_mod_number a_mod_value a_mod_made a_mod_to a_mod_from a_mod_outputOf a_mod_negated a_mod_settles a_mod_next a_mod_ones a_mod_distance a_mod_apart a_mod_leads mod_code mod_gates mod_feeds mod_inputs mod_latches mod_outputs mod_explored _ v5 hv5) (cwV 0 hts (sx_gV tw_708 tw_710 tw_22 tw_41 tcMod_states) rfl rfl rfl (by decide +kernel) ⟨Nat.le_of_ble_eq_true rfl, Nat.le_of_ble_eq_true rfl⟩) (sx_pV hK hX hS hPc hDc hFc (va_recv hK hPc (ci := 5) (q0 := 0) rfl rfl)) rfl rfl hl.1 rfl (lv_room (Nat.le_of_ble_eq_true rfl)) dMod_tell_33 ⟨Nat.le_of_ble_eq_true rfl, Nat.le_of_ble_eq_true rfl⟩) ?_
    refine lv_icmp_ge (tgt := 131) hx hb dMod_tell_36 (by decide) (fun c7 => ?_) (fun c7 => ?_)
    · have hm := sx_pos c7 hm
      obtain rfl := Option.some.inj hm
      exact k1 _ _ _ hP hD hS (lv_sub hl [0, 1] rfl)
    · have hm := sx_neg c7 hm
      refine lv_iconst (v := (0 : Int32)) hx hb dMod_tell_39 (by decide) ?_
      refine lv_istore_n (lv' := [(3, .int (0 : Int32)), (0, .ref h_mod), (1, .int x1), (2, .int x2)]) hx hb dMod_tell_40 rfl hl (by decide) rfl (fun ls hl => ?_)
      obtain ⟨v20, hv20, hm⟩ := sx_bind hm
      refine w_Mod_tell_41 C0 h_mod a_mod_sort a_mod_number a_mod_value a_mod_made a_mod_to a_mod_from a_mod_outputOf a_mod_negated a_mod_settles a_mod_next a_mod_ones a_mod_distance a_mod_apart a_mod_leads mod_code mod_gates mod_feeds mod_inputs mod_latches mod_outputs mod_outputOf mod_explored mod_settles mod_next mod_ones mod_distance x2 _ x1 (0 : Int32) mod_apart v20 hv20 _ _ _ hP hD hS (lv_sub hl [1, 2, 3, 0] rfl) ?_
      intro H locs ls hP hD hS hl
      refine lv_iinc (v := x2 + (1 : Int32)) (lv' := [(2, .int (x2 + (1 : Int32))), (0, .ref h_mod), (1, .int v20.1)]) hx hb dMod_tell_125 hl (k := 2) rfl rfl (by decide) rfl (fun ls hl => ?_)
      refine lv_goto (tgt := 31) hx hb dMod_tell_128 (by decide) ?_
      exact ih v20.1 (x2 + (1 : Int32)) v20.2 r hm _ _ _ hP hD hS (lv_sub hl [1, 2, 0] rfl) k1
set_option maxHeartbeats 4000000 in
set_option maxRecDepth 100000 in
theorem w_Mod_tell_23 {p : Program} {l : Launch} {e : Env} {s : State} {m : MethodId} {args : Array Value} {below : List Frame} {meth : Method} {c : Code} {dC : Nat → ClassId} {dI : Nat → Nat → Nat} {cI cL cZ : ClassId} {A : Nat → Prop} {Q : State → Prop} {t1 t2 : Nat} (C0 : sx_C p s m args meth c cMod_tell 4 "StateExplorerModel" A (dC, dI) [(cI, .int), (cL, .long), (cZ, .boolean)] t1 t2) (h_mod a_mod_sort a_mod_number a_mod_value a_mod_made a_mod_to a_mod_from a_mod_outputOf a_mod_negated a_mod_settles a_mod_next a_mod_ones a_mod_distance a_mod_apart a_mod_leads : Nat) (mod_code mod_gates mod_feeds mod_inputs mod_latches mod_outputs : Int32) (mod_outputOf : Nat → Int32) (mod_explored : Int32) (mod_settles mod_next : Nat → Int32) (mod_ones : Nat → Int64) (mod_distance : Nat → Int32)  :
    ∀ (n : Nat) (x1 : Int32) (mod_apart : Nat → Int32) (r : (Nat → Int32)), L_Mod_tell_23 mod_inputs mod_latches mod_outputs mod_outputOf mod_settles mod_next mod_ones mod_distance n x1 mod_apart = some r → ∀ (H : Heap) (locs : List Loc) (ls : Array Slot), va_P (dC, dI) vwCl [(h_mod, .inr (5, [.int mod_code, .int mod_gates, .int mod_feeds, .int mod_inputs, .int mod_latches, .int mod_outputs, .ref a_mod_sort, .ref a_mod_number, .ref a_mod_value, .ref a_mod_made, .ref a_mod_to, .ref a_mod_from, .ref a_mod_outputOf, .ref a_mod_negated, .int mod_explored, .ref a_mod_settles, .ref a_mod_next, .ref a_mod_ones, .ref a_mod_distance, .ref a_mod_apart, .ref a_mod_leads])), (a_mod_outputOf, .inl (cI, 6, .inl mod_outputOf)), (a_mod_settles, .inl (cZ, 4096, .inl mod_settles)), (a_mod_next, .inl (cI, 4096, .inl mod_next)), (a_mod_ones, .inl (cL, 4096, .inr (.inl mod_ones))), (a_mod_distance, .inl (cI, 256, .inl mod_distance)), (a_mod_apart, .inl (cZ, 65536, .inl mod_apart))] H → va_D A [(h_mod, .inr (5, [.int mod_code, .int mod_gates, .int mod_feeds, .int mod_inputs, .int mod_latches, .int mod_outputs, .ref a_mod_sort, .ref a_mod_number, .ref a_mod_value, .ref a_mod_made, .ref a_mod_to, .ref a_mod_from, .ref a_mod_outputOf, .ref a_mod_negated, .int mod_explored, .ref a_mod_settles, .ref a_mod_next, .ref a_mod_ones, .ref a_mod_distance, .ref a_mod_apart, .ref a_mod_leads])), (a_mod_outputOf, .inl (cI, 6, .inl mod_outputOf)), (a_mod_settles, .inl (cZ, 4096, .inl mod_settles)), (a_mod_next, .inl (cI, 4096, .inl mod_next)), (a_mod_ones, .inl (cL, 4096, .inr (.inl mod_ones))), (a_mod_distance, .inl (cI, 256, .inl mod_distance)), (a_mod_apart, .inl (cZ, 65536, .inl mod_apart))] → va_S A s.heap H locs → lv_has ls 4 [(0, .ref h_mod), (1, .int x1)] →
    (∀ (H : Heap) (locs : List Loc) (ls : Array Slot), va_P (dC, dI) vwCl [(h_mod, .inr (5, [.int mod_code, .int mod_gates, .int mod_feeds, .int mod_inputs, .int mod_latches, .int mod_outputs, .ref a_mod_sort, .ref a_mod_number, .ref a_mod_value, .ref a_mod_made, .ref a_mod_to, .ref a_mod_from, .ref a_mod_outputOf, .ref a_mod_negated, .int mod_explored, .ref a_mod_settles, .ref a_mod_next, .ref a_mod_ones, .ref a_mod_distance, .ref a_mod_apart, .ref a_mod_leads])), (a_mod_outputOf, .inl (cI, 6, .inl mod_outputOf)), (a_mod_settles, .inl (cZ, 4096, .inl mod_settles)), (a_mod_next, .inl (cI, 4096, .inl mod_next)), (a_mod_ones, .inl (cL, 4096, .inr (.inl mod_ones))), (a_mod_distance, .inl (cI, 256, .inl mod_distance)), (a_mod_apart, .inl (cZ, 65536, .inl r))] H → va_D A [(h_mod, .inr (5, [.int mod_code, .int mod_gates, .int mod_feeds, .int mod_inputs, .int mod_latches, .int mod_outputs, .ref a_mod_sort, .ref a_mod_number, .ref a_mod_value, .ref a_mod_made, .ref a_mod_to, .ref a_mod_from, .ref a_mod_outputOf, .ref a_mod_negated, .int mod_explored, .ref a_mod_settles, .ref a_mod_next, .ref a_mod_ones, .ref a_mod_distance, .ref a_mod_apart, .ref a_mod_leads])), (a_mod_outputOf, .inl (cI, 6, .inl mod_outputOf)), (a_mod_settles, .inl (cZ, 4096, .inl mod_settles)), (a_mod_next, .inl (cI, 4096, .inl mod_next)), (a_mod_ones, .inl (cL, 4096, .inr (.inl mod_ones))), (a_mod_distance, .inl (cI, 256, .inl mod_distance)), (a_mod_apart, .inl (cZ, 65536, .inl r))] → va_S A s.heap H locs → lv_has ls 4 [] → W p l e (headSpec wsMod_tell rm_Mod_tell).room s m args below meth c H locs 0 0 Q (F0 m 134 ls [])) →
    W p l e (headSpec wsMod_tell rm_Mod_tell).room s m args below meth c H locs 0 0 Q (F0 m 23 ls []) := by
  obtain ⟨hx, hb, hml, hown, hts, hA, hK, hlocks, hX⟩ := id C0
  intro n
  induction n with
  | zero => intro x1 mod_apart r hm; rw [L_Mod_tell_23] at hm; cases hm
  | succ n ih =>
    intro x1 mod_apart r hm H locs ls hP hD hS hl k1
    rw [L_Mod_tell_23] at hm
    refine lv_iload_n hx hb dMod_tell_23 rfl (lv_at hl 1 rfl) ?_
    refine lv_if_eq (tgt := 134) hx hb dMod_tell_24 (by decide) (fun c4 => ?_) (fun c4 => ?_)
    · have hm := sx_pos c4 hm
      obtain rfl := Option.some.inj hm
      exact k1 _ _ _ hP hD hS (lv_sub hl [] rfl)
    · have hm := sx_neg c4 hm
      refine lv_iconst (v := (0 : Int32)) hx hb dMod_tell_27 (by decide) ?_
      refine lv_istore_n (lv' := [(1, .int (0 : Int32)), (0, .ref h_mod)]) hx hb dMod_tell_28 rfl hl (by decide) rfl (fun ls hl => ?_)
      refine lv_iconst (v := (0 : Int32)) hx hb dMod_tell_29 (by decide) ?_
      refine lv_istore_n (lv' := [(2, .int (0 : Int32)), (1, .int (0 : Int32)), (0, .ref h_mod)]) hx hb dMod_tell_30 rfl hl (by decide) rfl (fun ls hl => ?_)
      obtain ⟨v21, hv21, hm⟩ := sx_bind hm
      refine w_Mod_tell_31 C0 h_mod a_mod_sort a_mod_number a_mod_value a_mod_made a_mod_to a_mod_from a_mod_outputOf a_mod_negated a_mod_settles a_mod_next a_mod_ones a_mod_distance a_mod_apart a_mod_leads mod_code mod_gates mod_feeds mod_inputs mod_latches mod_outputs mod_outputOf mod_explored mod_settles mod_next mod_ones mod_distance _ (0 : Int32) (0 : Int32) mod_apart v21 hv21 _ _ _ hP hD hS (lv_sub hl [2, 1, 0] rfl) ?_
      intro H locs ls hP hD hS hl
      refine lv_goto (tgt := 23) hx hb dMod_tell_131 (by decide) ?_
      exact ih v21.1 v21.2 r hm _ _ _ hP hD hS (hl) k1
set_option maxHeartbeats 4000000 in
set_option maxRecDepth 100000 in
theorem k_Mod_tell (l : Launch) (dC : Nat → ClassId) (dI : Nat → Nat → Nat) (cI cL cZ : ClassId) (t1 t2 : Nat) (h_mod a_mod_sort a_mod_number a_mod_value a_mod_made a_mod_to a_mod_from a_mod_outputOf a_mod_negated a_mod_settles a_mod_next a_mod_ones a_mod_distance a_mod_apart a_mod_leads : Nat) (mod_code mod_gates mod_feeds mod_inputs mod_latches mod_outputs : Int32) (mod_outputOf : Nat → Int32) (mod_explored : Int32) (mod_settles mod_next : Nat → Int32) (mod_ones : Nat → Int64) (mod_distance mod_apart : Nat → Int32) (sz : Nat)  (v : (Nat → Int32)) (hm : m_Mod_tell mod_inputs mod_latches mod_outputs mod_outputOf mod_settles mod_next mod_ones mod_distance mod_apart = some v) : Met l yMod_tell wsMod_tell rm_Mod_tell (sx_Pc (dC, dI) [(cI, .int), (cL, .long), (cZ, .boolean)] t1 t2 [(h_mod, .inr (5, [.int mod_code, .int mod_gates, .int mod_feeds, .int mod_inputs, .int mod_latches, .int mod_outputs, .ref a_mod_sort, .ref a_mod_number, .ref a_mod_value, .ref a_mod_made, .ref a_mod_to, .ref a_mod_from, .ref a_mod_outputOf, .ref a_mod_negated, .int mod_explored, .ref a_mod_settles, .ref a_mod_next, .ref a_mod_ones, .ref a_mod_distance, .ref a_mod_apart, .ref a_mod_leads])), (a_mod_outputOf, .inl (cI, 6, .inl mod_outputOf)), (a_mod_settles, .inl (cZ, 4096, .inl mod_settles)), (a_mod_next, .inl (cI, 4096, .inl mod_next)), (a_mod_ones, .inl (cL, 4096, .inr (.inl mod_ones))), (a_mod_distance, .inl (cI, 256, .inl mod_distance)), (a_mod_apart, .inl (cZ, 65536, .inl mod_apart))] sz [.ref h_mod]) (va_Qv (fun (_ : Unit) => True) (fun _ t => sx_W (dC, dI) [(cI, .int), (cL, .long), (cZ, .boolean)] (va_A [(h_mod, .inr (5, [.int mod_code, .int mod_gates, .int mod_feeds, .int mod_inputs, .int mod_latches, .int mod_outputs, .ref a_mod_sort, .ref a_mod_number, .ref a_mod_value, .ref a_mod_made, .ref a_mod_to, .ref a_mod_from, .ref a_mod_outputOf, .ref a_mod_negated, .int mod_explored, .ref a_mod_settles, .ref a_mod_next, .ref a_mod_ones, .ref a_mod_distance, .ref a_mod_apart, .ref a_mod_leads])), (a_mod_outputOf, .inl (cI, 6, .inl mod_outputOf)), (a_mod_settles, .inl (cZ, 4096, .inl mod_settles)), (a_mod_next, .inl (cI, 4096, .inl mod_next)), (a_mod_ones, .inl (cL, 4096, .inr (.inl mod_ones))), (a_mod_distance, .inl (cI, 256, .inl mod_distance)), (a_mod_apart, .inl (cZ, 65536, .inl mod_apart))] sz) [(h_mod, .inr (5, [.int mod_code, .int mod_gates, .int mod_feeds, .int mod_inputs, .int mod_latches, .int mod_outputs, .ref a_mod_sort, .ref a_mod_number, .ref a_mod_value, .ref a_mod_made, .ref a_mod_to, .ref a_mod_from, .ref a_mod_outputOf, .ref a_mod_negated, .int mod_explored, .ref a_mod_settles, .ref a_mod_next, .ref a_mod_ones, .ref a_mod_distance, .ref a_mod_apart, .ref a_mod_leads])), (a_mod_outputOf, .inl (cI, 6, .inl mod_outputOf)), (a_mod_settles, .inl (cZ, 4096, .inl mod_settles)), (a_mod_next, .inl (cI, 4096, .inl mod_next)), (a_mod_ones, .inl (cL, 4096, .inr (.inl mod_ones))), (a_mod_distance, .inl (cI, 256, .inl mod_distance)), (a_mod_apart, .inl (cZ, 65536, .inl v))] t) (va_A [(h_mod, .inr (5, [.int mod_code, .int mod_gates, .int mod_feeds, .int mod_inputs, .int mod_latches, .int mod_outputs, .ref a_mod_sort, .ref a_mod_number, .ref a_mod_value, .ref a_mod_made, .ref a_mod_to, .ref a_mod_from, .ref a_mod_outputOf, .ref a_mod_negated, .int mod_explored, .ref a_mod_settles, .ref a_mod_next, .ref a_mod_ones, .ref a_mod_distance, .ref a_mod_apart, .ref a_mod_leads])), (a_mod_outputOf, .inl (cI, 6, .inl mod_outputOf)), (a_mod_settles, .inl (cZ, 4096, .inl mod_settles)), (a_mod_next, .inl (cI, 4096, .inl mod_next)), (a_mod_ones, .inl (cL, 4096, .inr (.inl mod_ones))), (a_mod_distance, .inl (cI, 256, .inl mod_distance)), (a_mod_apart, .inl (cZ, 65536, .inl mod_apart))] sz)) 0 0 (va_A [(h_mod, .inr (5, [.int mod_code, .int mod_gates, .int mod_feeds, .int mod_inputs, .int mod_latches, .int mod_outputs, .ref a_mod_sort, .ref a_mod_number, .ref a_mod_value, .ref a_mod_made, .ref a_mod_to, .ref a_mod_from, .ref a_mod_outputOf, .ref a_mod_negated, .int mod_explored, .ref a_mod_settles, .ref a_mod_next, .ref a_mod_ones, .ref a_mod_distance, .ref a_mod_apart, .ref a_mod_leads])), (a_mod_outputOf, .inl (cI, 6, .inl mod_outputOf)), (a_mod_settles, .inl (cZ, 4096, .inl mod_settles)), (a_mod_next, .inl (cI, 4096, .inl mod_next)), (a_mod_ones, .inl (cL, 4096, .inr (.inl mod_ones))), (a_mod_distance, .inl (cI, 256, .inl mod_distance)), (a_mod_apart, .inl (cZ, 65536, .inl mod_apart))] sz) := by
  refine Met.ofW (cc := cMod_tell) (maxL := 4) (ret := none) (by decide) rfl ?_
  intro p e s m args below meth c s₁ B hml hv
  obtain ⟨rfl, hsz, hP, hK, hD0, hX⟩ := hv
  have hx := B.exec
  have hb := B.bytes
  have hr := B.returns
  have hts0 := atoms_spec (ws := wsMod_tell) B.pre
  have hts : ∀ w ∈ tb, w.before _ s = true := fun w h => hts0 w (List.mem_cons_of_mem _ h)
  have hown : s.vm.findClass "StateExplorerModel" = some m.cls := findClass_of_methodNamed B.named
  have hlocks := B.notSynchronized
  subst hsz
  have hD := hD0.self (sz := s.heap.size)
  generalize hAe : va_A [(h_mod, .inr (5, [.int mod_code, .int mod_gates, .int mod_feeds, .int mod_inputs, .int mod_latches, .int mod_outputs, .ref a_mod_sort, .ref a_mod_number, .ref a_mod_value, .ref a_mod_made, .ref a_mod_to, .ref a_mod_from, .ref a_mod_outputOf, .ref a_mod_negated, .int mod_explored, .ref a_mod_settles, .ref a_mod_next, .ref a_mod_ones, .ref a_mod_distance, .ref a_mod_apart, .ref a_mod_leads])), (a_mod_outputOf, .inl (cI, 6, .inl mod_outputOf)), (a_mod_settles, .inl (cZ, 4096, .inl mod_settles)), (a_mod_next, .inl (cI, 4096, .inl mod_next)), (a_mod_ones, .inl (cL, 4096, .inr (.inl mod_ones))), (a_mod_distance, .inl (cI, 256, .inl mod_distance)), (a_mod_apart, .inl (cZ, 65536, .inl mod_apart))] s.heap.size = A at hD hX ⊢
  have hA : ∀ q : Nat, s.heap.size ≤ q → A q := fun q h => by rw [← hAe]; exact Or.inr h
  have hS : va_S A s.heap s.heap [] := va_S.rf
  have hl := lv_entry ([.ref h_mod]) (n := 4) (Nat.le_of_ble_eq_true rfl)
  rw [lg_entry_eq]
  generalize (lg_sl ([.ref h_mod]) ++ List.replicate (4 - (lg_sl ([.ref h_mod])).length) Slot.unset).toArray = ls at hl ⊢
  have hl : lv_has ls 4 [(0, .ref h_mod)] := hl
  have C0 : sx_C p s m _ meth c cMod_tell 4 "StateExplorerModel" A (dC, dI) [(cI, .int), (cL, .long), (cZ, .boolean)] t1 t2 := ⟨hx, hb, hml, hown, hts, hA, hK, hlocks, hX⟩
  rw [m_Mod_tell] at hm
  refine lv_iconst (v := (0 : Int32)) hx hb dMod_tell_0 (by decide) ?_
  refine lv_istore_n (lv' := [(1, .int (0 : Int32)), (0, .ref h_mod)]) hx hb dMod_tell_1 rfl hl (by decide) rfl (fun ls hl => ?_)
  obtain ⟨v3, hv3, hm⟩ := sx_bind hm
  refine w_Mod_tell_2 C0 h_mod a_mod_sort a_mod_number a_mod_value a_mod_made a_mod_to a_mod_from a_mod_outputOf a_mod_negated a_mod_settles a_mod_next a_mod_ones a_mod_distance a_mod_apart a_mod_leads mod_code mod_gates mod_feeds mod_inputs mod_latches mod_outputs mod_outputOf mod_explored mod_settles mod_next mod_ones mod_distance _ (0 : Int32) mod_apart v3 hv3 _ _ _ hP hD hS (lv_sub hl [1, 0] rfl) ?_
  intro H locs ls hP hD hS hl
  refine lv_iconst (v := (1 : Int32)) hx hb dMod_tell_21 (by decide) ?_
  refine lv_istore_n (lv' := [(1, .int (1 : Int32)), (0, .ref h_mod)]) hx hb dMod_tell_22 rfl hl (by decide) rfl (fun ls hl => ?_)
  obtain ⟨v22, hv22, hm⟩ := sx_bind hm
  refine w_Mod_tell_23 C0 h_mod a_mod_sort a_mod_number a_mod_value a_mod_made a_mod_to a_mod_from a_mod_outputOf a_mod_negated a_mod_settles a_mod_next a_mod_ones a_mod_distance a_mod_apart a_mod_leads mod_code mod_gates mod_feeds mod_inputs mod_latches mod_outputs mod_outputOf mod_explored mod_settles mod_next mod_ones mod_distance _ (1 : Int32) v3 v22 hv22 _ _ _ hP hD hS (lv_sub hl [1, 0] rfl) ?_
  intro H locs ls hP hD hS hl
  obtain rfl := Option.some.inj hm
  exact W.vret hx hb hr (fun t ht hW => ⟨⟨(), rfl, trivial, sx_Wi hP hK hD ht hW.alike⟩, hS.F ht⟩) hS.2.2 dMod_tell_134
