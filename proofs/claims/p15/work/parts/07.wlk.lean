noncomputable def L_Wlk_forget_7 (x2 : Int32) : Nat → Int32 → (Nat → Int32) → Option ((Nat → Int32))
  | 0, _, _ => none
  | n + 1, x3, wlk_distances => (if x2 ≤ x3 then some wlk_distances else gd (vp_in x3 256) ((L_Wlk_forget_7 x2 n (x3 + (1 : Int32)) (upd wlk_distances x3.toNatClampNeg (-1 : Int32)))))
noncomputable def L_Wlk_forget_35 (wlk_words : Int32) : Nat → Int32 → (Nat → Int64) → Option ((Nat → Int64))
  | 0, _, _ => none
  | n + 1, x3, wlk_settledPairs => (if wlk_words ≤ x3 then some wlk_settledPairs else gd (vp_in x3 64) ((L_Wlk_forget_35 wlk_words n (x3 + (1 : Int32)) (vp_updL wlk_settledPairs x3.toNatClampNeg (0 : Int64)))))
noncomputable def m_Wlk_forget (net_latchTotal : Int32) (wlk_distances : Nat → Int32) (wlk_settledPairs : Nat → Int64) (wlk_words wlk_reached wlk_doubts wlk_doubtState wlk_doubtChoice : Int32)  : Option ((Nat → Int32) × (Nat → Int64) × Int32 × Int32 × Int32 × Int32 × Int32) := (m_Net_stateTotal net_latchTotal).bind (fun v1 => ((L_Wlk_forget_7 v1 fu (0 : Int32) wlk_distances).bind (fun v5 => (m_Net_wordTotal net_latchTotal).bind (fun v6 => ((L_Wlk_forget_35 v6 fu (0 : Int32) wlk_settledPairs).bind (fun v10 => some (v5, v10, v6, (0 : Int32), (0 : Int32), (-1 : Int32), (-1 : Int32))))))))
def rm_Wlk_forget : Room := { frames := 2, cells := 0, slots := 0, locals := 40 }
set_option maxHeartbeats 4000000 in
set_option maxRecDepth 100000 in
theorem w_Wlk_forget_7 {p : Program} {l : Launch} {e : Env} {s : State} {m : MethodId} {args : Array Value} {below : List Frame} {meth : Method} {c : Code} {dC : Nat → ClassId} {dI : Nat → Nat → Nat} {cI cL cZ : ClassId} {A : Nat → Prop} {Q : State → Prop} {t1 t2 : Nat} (C0 : sx_C p s m args meth c cWlk_forget 4 "StateExplorer$Walk" A (dC, dI) [(cI, .int), (cL, .long), (cZ, .boolean)] t1 t2) (h_net a_net_sorts a_net_ranks a_net_starts a_net_literals a_net_nextLiterals a_net_outputs h_wlk a_wlk_distances a_wlk_order a_wlk_parents a_wlk_steps a_wlk_settledPairs : Nat) (net_gateTotal net_inputTotal net_latchTotal net_outputTotal : Int32) (wlk_settledPairs : Nat → Int64) (wlk_words wlk_reached wlk_doubts wlk_doubtState wlk_doubtChoice : Int32) (x2 : Int32) :
    ∀ (n : Nat) (x3 : Int32) (wlk_distances : Nat → Int32) (r : (Nat → Int32)), L_Wlk_forget_7 x2 n x3 wlk_distances = some r → ∀ (H : Heap) (locs : List Loc) (ls : Array Slot), va_P (dC, dI) vwCl [(h_net, .inr (0, [.ref a_net_sorts, .ref a_net_ranks, .ref a_net_starts, .ref a_net_literals, .ref a_net_nextLiterals, .ref a_net_outputs, .int net_gateTotal, .int net_inputTotal, .int net_latchTotal, .int net_outputTotal])), (h_wlk, .inr (3, [.ref a_wlk_distances, .ref a_wlk_order, .ref a_wlk_parents, .ref a_wlk_steps, .ref a_wlk_settledPairs, .int wlk_words, .int wlk_reached, .int wlk_doubts, .int wlk_doubtState, .int wlk_doubtChoice])), (a_wlk_distances, .inl (cI, 256, .inl wlk_distances)), (a_wlk_settledPairs, .inl (cL, 64, .inr (.inl wlk_settledPairs)))] H → va_D A [(h_net, .inr (0, [.ref a_net_sorts, .ref a_net_ranks, .ref a_net_starts, .ref a_net_literals, .ref a_net_nextLiterals, .ref a_net_outputs, .int net_gateTotal, .int net_inputTotal, .int net_latchTotal, .int net_outputTotal])), (h_wlk, .inr (3, [.ref a_wlk_distances, .ref a_wlk_order, .ref a_wlk_parents, .ref a_wlk_steps, .ref a_wlk_settledPairs, .int wlk_words, .int wlk_reached, .int wlk_doubts, .int wlk_doubtState, .int wlk_doubtChoice])), (a_wlk_distances, .inl (cI, 256, .inl wlk_distances)), (a_wlk_settledPairs, .inl (cL, 64, .inr (.inl wlk_settledPairs)))] → va_S A s.heap H locs → lv_has ls 4 [(0, .ref h_wlk), (1, .ref h_net), (2, .int x2), (3, .int x3)] →
    (∀ (H : Heap) (locs : List Loc) (ls : Array Slot), va_P (dC, dI) vwCl [(h_net, .inr (0, [.ref a_net_sorts, .ref a_net_ranks, .ref a_net_starts, .ref a_net_literals, .ref a_net_nextLiterals, .ref a_net_outputs, .int net_gateTotal, .int net_inputTotal, .int net_latchTotal, .int net_outputTotal])), (h_wlk, .inr (3, [.ref a_wlk_distances, .ref a_wlk_order, .ref a_wlk_parents, .ref a_wlk_steps, .ref a_wlk_settledPairs, .int wlk_words, .int wlk_reached, .int wlk_doubts, .int wlk_doubtState, .int wlk_doubtChoice])), (a_wlk_distances, .inl (cI, 256, .inl r)), (a_wlk_settledPairs, .inl (cL, 64, .inr (.inl wlk_settledPairs)))] H → va_D A [(h_net, .inr (0, [.ref a_net_sorts, .ref a_net_ranks, .ref a_net_starts, .ref a_net_literals, .ref a_net_nextLiterals, .ref a_net_outputs, .int net_gateTotal, .int net_inputTotal, .int net_latchTotal, .int net_outputTotal])), (h_wlk, .inr (3, [.ref a_wlk_distances, .ref a_wlk_order, .ref a_wlk_parents, .ref a_wlk_steps, .ref a_wlk_settledPairs, .int wlk_words, .int wlk_reached, .int wlk_doubts, .int wlk_doubtState, .int wlk_doubtChoice])), (a_wlk_distances, .inl (cI, 256, .inl r)), (a_wlk_settledPairs, .inl (cL, 64, .inr (.inl wlk_settledPairs)))] → va_S A s.heap H locs → lv_has ls 4 [(0, .ref h_wlk), (1, .ref h_net)] → W p l e (headSpec wsWlk_forget rm_Wlk_forget).room s m args below meth c H locs 0 0 Q (F0 m 25 ls [])) →
    W p l e (headSpec wsWlk_forget rm_Wlk_forget).room s m args below meth c H locs 0 0 Q (F0 m 7 ls []) := by
  obtain ⟨hx, hb, hml, hown, hts, hA, hK, hlocks, hX⟩ := id C0
  intro n
  induction n with
  | zero => intro x3 wlk_distances r hm; rw [L_Wlk_forget_7] at hm; cases hm
  | succ n ih =>
    intro x3 wlk_distances r hm H locs ls hP hD hS hl k1
    rw [L_Wlk_forget_7] at hm
    refine lv_iload_n hx hb dWlk_forget_7 rfl (lv_at hl 3 rfl) ?_
    refine lv_iload_n hx hb dWlk_forget_8 rfl (lv_at hl 2 rfl) ?_
    refine lv_icmp_ge (tgt := 25) hx hb dWlk_forget_9 (by decide) (fun c3 => ?_) (fun c3 => ?_)
    · have hm := sx_pos c3 hm
      obtain rfl := Option.some.inj hm
      exact k1 _ _ _ hP hD hS (lv_sub hl [0, 1] rfl)
    · have hm := sx_neg c3 hm
      refine lv_aload_n hx hb dWlk_forget_12 rfl (lv_at hl 0 rfl) ?_
      refine va_get (D := (dC, dI)) (ci := 3) (v := .ref a_wlk_distances) (C := RWlk) (T := TWlk) (N := 10) hx hb hts inWlk hown hK hP 1 rfl rfl 0 (by decide) (hts _ tw_135) (fun _ h9 => h9) rfl dWlk_forget_13 ?_
      refine lv_iload_n hx hb dWlk_forget_16 rfl (lv_at hl 3 rfl) ?_
      refine lv_iconst (v := (-1 : Int32)) hx hb dWlk_forget_17 (by decide) ?_
      obtain ⟨g4, hm⟩ := gd_el hm
      refine va_iast hx hb hK hP hD hS 2 0 rfl rfl g4 dWlk_forget_18 (fun H locs hP hD hS => ?_)
      have hP : va_P (dC, dI) vwCl [(h_net, .inr (0, [.ref a_net_sorts, .ref a_net_ranks, .ref a_net_starts, .ref a_net_literals, .ref a_net_nextLiterals, .ref a_net_outputs, .int net_gateTotal, .int net_inputTotal, .int net_latchTotal, .int net_outputTotal])), (h_wlk, .inr (3, [.ref a_wlk_distances, .ref a_wlk_order, .ref a_wlk_parents, .ref a_wlk_steps, .ref a_wlk_settledPairs, .int wlk_words, .int wlk_reached, .int wlk_doubts, .int wlk_doubtState, .int wlk_doubtChoice])), (a_wlk_distances, .inl (cI, 256, .inl (upd wlk_distances x3.toNatClampNeg (-1 : Int32)))), (a_wlk_settledPairs, .inl (cL, 64, .inr (.inl wlk_settledPairs)))] H := hP
      have hD : va_D A [(h_net, .inr (0, [.ref a_net_sorts, .ref a_net_ranks, .ref a_net_starts, .ref a_net_literals, .ref a_net_nextLiterals, .ref a_net_outputs, .int net_gateTotal, .int net_inputTotal, .int net_latchTotal, .int net_outputTotal])), (h_wlk, .inr (3, [.ref a_wlk_distances, .ref a_wlk_order, .ref a_wlk_parents, .ref a_wlk_steps, .ref a_wlk_settledPairs, .int wlk_words, .int wlk_reached, .int wlk_doubts, .int wlk_doubtState, .int wlk_doubtChoice])), (a_wlk_distances, .inl (cI, 256, .inl (upd wlk_distances x3.toNatClampNeg (-1 : Int32)))), (a_wlk_settledPairs, .inl (cL, 64, .inr (.inl wlk_settledPairs)))] := hD
      refine lv_iinc (v := x3 + (1 : Int32)) (lv' := [(3, .int (x3 + (1 : Int32))), (0, .ref h_wlk), (1, .ref h_net), (2, .int x2)]) hx hb dWlk_forget_19 hl (k := 3) rfl rfl (by decide) rfl (fun ls hl => ?_)
      refine lv_goto (tgt := 7) hx hb dWlk_forget_22 (by decide) ?_
      exact ih (x3 + (1 : Int32)) (upd wlk_distances x3.toNatClampNeg (-1 : Int32)) r hm _ _ _ hP hD hS (lv_sub hl [1, 2, 3, 0] rfl) k1
set_option maxHeartbeats 4000000 in
set_option maxRecDepth 100000 in
theorem w_Wlk_forget_35 {p : Program} {l : Launch} {e : Env} {s : State} {m : MethodId} {args : Array Value} {below : List Frame} {meth : Method} {c : Code} {dC : Nat → ClassId} {dI : Nat → Nat → Nat} {cI cL cZ : ClassId} {A : Nat → Prop} {Q : State → Prop} {t1 t2 : Nat} (C0 : sx_C p s m args meth c cWlk_forget 4 "StateExplorer$Walk" A (dC, dI) [(cI, .int), (cL, .long), (cZ, .boolean)] t1 t2) (h_net a_net_sorts a_net_ranks a_net_starts a_net_literals a_net_nextLiterals a_net_outputs h_wlk a_wlk_distances a_wlk_order a_wlk_parents a_wlk_steps a_wlk_settledPairs : Nat) (net_gateTotal net_inputTotal net_latchTotal net_outputTotal : Int32) (wlk_distances : Nat → Int32) (wlk_words wlk_reached wlk_doubts wlk_doubtState wlk_doubtChoice : Int32)  :
    ∀ (n : Nat) (x3 : Int32) (wlk_settledPairs : Nat → Int64) (r : (Nat → Int64)), L_Wlk_forget_35 wlk_words n x3 wlk_settledPairs = some r → ∀ (H : Heap) (locs : List Loc) (ls : Array Slot), va_P (dC, dI) vwCl [(h_net, .inr (0, [.ref a_net_sorts, .ref a_net_ranks, .ref a_net_starts, .ref a_net_literals, .ref a_net_nextLiterals, .ref a_net_outputs, .int net_gateTotal, .int net_inputTotal, .int net_latchTotal, .int net_outputTotal])), (h_wlk, .inr (3, [.ref a_wlk_distances, .ref a_wlk_order, .ref a_wlk_parents, .ref a_wlk_steps, .ref a_wlk_settledPairs, .int wlk_words, .int wlk_reached, .int wlk_doubts, .int wlk_doubtState, .int wlk_doubtChoice])), (a_wlk_distances, .inl (cI, 256, .inl wlk_distances)), (a_wlk_settledPairs, .inl (cL, 64, .inr (.inl wlk_settledPairs)))] H → va_D A [(h_net, .inr (0, [.ref a_net_sorts, .ref a_net_ranks, .ref a_net_starts, .ref a_net_literals, .ref a_net_nextLiterals, .ref a_net_outputs, .int net_gateTotal, .int net_inputTotal, .int net_latchTotal, .int net_outputTotal])), (h_wlk, .inr (3, [.ref a_wlk_distances, .ref a_wlk_order, .ref a_wlk_parents, .ref a_wlk_steps, .ref a_wlk_settledPairs, .int wlk_words, .int wlk_reached, .int wlk_doubts, .int wlk_doubtState, .int wlk_doubtChoice])), (a_wlk_distances, .inl (cI, 256, .inl wlk_distances)), (a_wlk_settledPairs, .inl (cL, 64, .inr (.inl wlk_settledPairs)))] → va_S A s.heap H locs → lv_has ls 4 [(0, .ref h_wlk), (3, .int x3)] →
    (∀ (H : Heap) (locs : List Loc) (ls : Array Slot), va_P (dC, dI) vwCl [(h_net, .inr (0, [.ref a_net_sorts, .ref a_net_ranks, .ref a_net_starts, .ref a_net_literals, .ref a_net_nextLiterals, .ref a_net_outputs, .int net_gateTotal, .int net_inputTotal, .int net_latchTotal, .int net_outputTotal])), (h_wlk, .inr (3, [.ref a_wlk_distances, .ref a_wlk_order, .ref a_wlk_parents, .ref a_wlk_steps, .ref a_wlk_settledPairs, .int wlk_words, .int wlk_reached, .int wlk_doubts, .int wlk_doubtState, .int wlk_doubtChoice])), (a_wlk_distances, .inl (cI, 256, .inl wlk_distances)), (a_wlk_settledPairs, .inl (cL, 64, .inr (.inl r)))] H → va_D A [(h_net, .inr (0, [.ref a_net_sorts, .ref a_net_ranks, .ref a_net_starts, .ref a_net_literals, .ref a_net_nextLiterals, .ref a_net_outputs, .int net_gateTotal, .int net_inputTotal, .int net_latchTotal, .int net_outputTotal])), (h_wlk, .inr (3, [.ref a_wlk_distances, .ref a_wlk_order, .ref a_wlk_parents, .ref a_wlk_steps, .ref a_wlk_settledPairs, .int wlk_words, .int wlk_reached, .int wlk_doubts, .int wlk_doubtState, .int wlk_doubtChoice])), (a_wlk_distances, .inl (cI, 256, .inl wlk_distances)), (a_wlk_settledPairs, .inl (cL, 64, .inr (.inl r)))] → va_S A s.heap H locs → lv_has ls 4 [(0, .ref h_wlk)] → W p l e (headSpec wsWlk_forget rm_Wlk_forget).room s m args below meth c H locs 0 0 Q (F0 m 56 ls [])) →
    W p l e (headSpec wsWlk_forget rm_Wlk_forget).room s m args below meth c H locs 0 0 Q (F0 m 35 ls []) := by
  obtain ⟨hx, hb, hml, hown, hts, hA, hK, hlocks, hX⟩ := id C0
  intro n
  induction n with
  | zero => intro x3 wlk_settledPairs r hm; rw [L_Wlk_forget_35] at hm; cases hm
  | succ n ih =>
    intro x3 wlk_settledPairs r hm H locs ls hP hD hS hl k1
    rw [L_Wlk_forget_35] at hm
    refine lv_iload_n hx hb dWlk_forget_35 rfl (lv_at hl 1 rfl) ?_
    refine lv_aload_n hx hb dWlk_forget_36 rfl (lv_at hl 0 rfl) ?_
    refine va_get (D := (dC, dI)) (ci := 3) (v := .int wlk_words) (C := RWlk) (T := TWlk) (N := 10) hx hb hts inWlk hown hK hP 1 rfl rfl 5 (by decide) (hts _ tw_142) (fun _ h9 => h9) rfl dWlk_forget_37 ?_
    refine lv_icmp_ge (tgt := 56) hx hb dWlk_forget_40 (by decide) (fun c8 => ?_) (fun c8 => ?_)
    · have hm := sx_pos c8 hm
      obtain rfl := Option.some.inj hm
      exact k1 _ _ _ hP hD hS (lv_sub hl [0] rfl)
    · have hm := sx_neg c8 hm
      refine lv_aload_n hx hb dWlk_forget_43 rfl (lv_at hl 0 rfl) ?_
      refine va_get (D := (dC, dI)) (ci := 3) (v := .ref a_wlk_settledPairs) (C := RWlk) (T := TWlk) (N := 10) hx hb hts inWlk hown hK hP 1 rfl rfl 4 (by decide) (hts _ tw_141) (fun _ h9 => h9) rfl dWlk_forget_44 ?_
      refine lv_iload_n hx hb dWlk_forget_47 rfl (lv_at hl 1 rfl) ?_
      refine lv_lconst (v := (0 : Int64)) hx hb dWlk_forget_48 (by decide) ?_
      obtain ⟨g9, hm⟩ := gd_el hm
      refine va_last hx hb hK hP hD hS 3 1 rfl rfl g9 dWlk_forget_49 (fun H locs hP hD hS => ?_)
      have hP : va_P (dC, dI) vwCl [(h_net, .inr (0, [.ref a_net_sorts, .ref a_net_ranks, .ref a_net_starts, .ref a_net_literals, .ref a_net_nextLiterals, .ref a_net_outputs, .int net_gateTotal, .int net_inputTotal, .int net_latchTotal, .int net_outputTotal])), (h_wlk, .inr (3, [.ref a_wlk_distances, .ref a_wlk_order, .ref a_wlk_parents, .ref a_wlk_steps, .ref a_wlk_settledPairs, .int wlk_words, .int wlk_reached, .int wlk_doubts, .int wlk_doubtState, .int wlk_doubtChoice])), (a_wlk_distances, .inl (cI, 256, .inl wlk_distances)), (a_wlk_settledPairs, .inl (cL, 64, .inr (.inl (vp_updL wlk_settledPairs x3.toNatClampNeg (0 : Int64)))))] H := hP
      have hD : va_D A [(h_net, .inr (0, [.ref a_net_sorts, .ref a_net_ranks, .ref a_net_starts, .ref a_net_literals, .ref a_net_nextLiterals, .ref a_net_outputs, .int net_gateTotal, .int net_inputTotal, .int net_latchTotal, .int net_outputTotal])), (h_wlk, .inr (3, [.ref a_wlk_distances, .ref a_wlk_order, .ref a_wlk_parents, .ref a_wlk_steps, .ref a_wlk_settledPairs, .int wlk_words, .int wlk_reached, .int wlk_doubts, .int wlk_doubtState, .int wlk_doubtChoice])), (a_wlk_distances, .inl (cI, 256, .inl wlk_distances)), (a_wlk_settledPairs, .inl (cL, 64, .inr (.inl (vp_updL wlk_settledPairs x3.toNatClampNeg (0 : Int64)))))] := hD
      refine lv_iinc (v := x3 + (1 : Int32)) (lv' := [(3, .int (x3 + (1 : Int32))), (0, .ref h_wlk)]) hx hb dWlk_forget_50 hl (k := 1) rfl rfl (by decide) rfl (fun ls hl => ?_)
      refine lv_goto (tgt := 35) hx hb dWlk_forget_53 (by decide) ?_
      exact ih (x3 + (1 : Int32)) (vp_updL wlk_settledPairs x3.toNatClampNeg (0 : Int64)) r hm _ _ _ hP hD hS (lv_sub hl [1, 0] rfl) k1
set_option maxHeartbeats 4000000 in
set_option maxRecDepth 100000 in
theorem k_Wlk_forget (l : Launch) (dC : Nat → ClassId) (dI : Nat → Nat → Nat) (cI cL cZ : ClassId) (t1 t2 : Nat) (h_net a_net_sorts a_net_ranks a_net_starts a_net_literals a_net_nextLiterals a_net_outputs h_wlk a_wlk_distances a_wlk_order a_wlk_parents a_wlk_steps a_wlk_settledPairs : Nat) (net_gateTotal net_inputTotal net_latchTotal net_outputTotal : Int32) (wlk_distances : Nat → Int32) (wlk_settledPairs : Nat → Int64) (wlk_words wlk_reached wlk_doubts wlk_doubtState wlk_doubtChoice : Int32) (sz : Nat)  (v : (Nat → Int32) × (Nat → Int64) × Int32 × Int32 × Int32 × Int32 × Int32) (hm : m_Wlk_forget net_latchTotal wlk_distances wlk_settledPairs wlk_words wlk_reached wlk_doubts wlk_doubtState wlk_doubtChoice = some v) : Met l yWlk_forget wsWlk_forget rm_Wlk_forget (sx_Pc (dC, dI) [(cI, .int), (cL, .long), (cZ, .boolean)] t1 t2 [(h_net, .inr (0, [.ref a_net_sorts, .ref a_net_ranks, .ref a_net_starts, .ref a_net_literals, .ref a_net_nextLiterals, .ref a_net_outputs, .int net_gateTotal, .int net_inputTotal, .int net_latchTotal, .int net_outputTotal])), (h_wlk, .inr (3, [.ref a_wlk_distances, .ref a_wlk_order, .ref a_wlk_parents, .ref a_wlk_steps, .ref a_wlk_settledPairs, .int wlk_words, .int wlk_reached, .int wlk_doubts, .int wlk_doubtState, .int wlk_doubtChoice])), (a_wlk_distances, .inl (cI, 256, .inl wlk_distances)), (a_wlk_settledPairs, .inl (cL, 64, .inr (.inl wlk_settledPairs)))] sz [.ref h_wlk, .ref h_net]) (va_Qv (fun (_ : Unit) => True) (fun _ t => sx_W (dC, dI) [(cI, .int), (cL, .long), (cZ, .boolean)] (va_A [(h_net, .inr (0, [.ref a_net_sorts, .ref a_net_ranks, .ref a_net_starts, .ref a_net_literals, .ref a_net_nextLiterals, .ref a_net_outputs, .int net_gateTotal, .int net_inputTotal, .int net_latchTotal, .int net_outputTotal])), (h_wlk, .inr (3, [.ref a_wlk_distances, .ref a_wlk_order, .ref a_wlk_parents, .ref a_wlk_steps, .ref a_wlk_settledPairs, .int wlk_words, .int wlk_reached, .int wlk_doubts, .int wlk_doubtState, .int wlk_doubtChoice])), (a_wlk_distances, .inl (cI, 256, .inl wlk_distances)), (a_wlk_settledPairs, .inl (cL, 64, .inr (.inl wlk_settledPairs)))] sz) [(h_net, .inr (0, [.ref a_net_sorts, .ref a_net_ranks, .ref a_net_starts, .ref a_net_literals, .ref a_net_nextLiterals, .ref a_net_outputs, .int net_gateTotal, .int net_inputTotal, .int net_latchTotal, .int net_outputTotal])), (h_wlk, .inr (3, [.ref a_wlk_distances, .ref a_wlk_order, .ref a_wlk_parents, .ref a_wlk_steps, .ref a_wlk_settledPairs, .int v.2.2.1, .int v.2.2.2.1, .int v.2.2.2.2.1, .int v.2.2.2.2.2.1, .int v.2.2.2.2.2.2])), (a_wlk_distances, .inl (cI, 256, .inl v.1)), (a_wlk_settledPairs, .inl (cL, 64, .inr (.inl v.2.1)))] t) (va_A [(h_net, .inr (0, [.ref a_net_sorts, .ref a_net_ranks, .ref a_net_starts, .ref a_net_literals, .ref a_net_nextLiterals, .ref a_net_outputs, .int net_gateTotal, .int net_inputTotal, .int net_latchTotal, .int net_outputTotal])), (h_wlk, .inr (3, [.ref a_wlk_distances, .ref a_wlk_order, .ref a_wlk_parents, .ref a_wlk_steps, .ref a_wlk_settledPairs, .int wlk_words, .int wlk_reached, .int wlk_doubts, .int wlk_doubtState, .int wlk_doubtChoice])), (a_wlk_distances, .inl (cI, 256, .inl wlk_distances)), (a_wlk_settledPairs, .inl (cL, 64, .inr (.inl wlk_settledPairs)))] sz)) 0 0 (va_A [(h_net, .inr (0, [.ref a_net_sorts, .ref a_net_ranks, .ref a_net_starts, .ref a_net_literals, .ref a_net_nextLiterals, .ref a_net_outputs, .int net_gateTotal, .int net_inputTotal, .int net_latchTotal, .int net_outputTotal])), (h_wlk, .inr (3, [.ref a_wlk_distances, .ref a_wlk_order, .ref a_wlk_parents, .ref a_wlk_steps, .ref a_wlk_settledPairs, .int wlk_words, .int wlk_reached, .int wlk_doubts, .int wlk_doubtState, .int wlk_doubtChoice])), (a_wlk_distances, .inl (cI, 256, .inl wlk_distances)), (a_wlk_settledPairs, .inl (cL, 64, .inr (.inl wlk_settledPairs)))] sz) := by
  refine Met.ofW (cc := cWlk_forget) (maxL := 4) (ret := none) (by decide) rfl ?_
  intro p e s m args below meth c s₁ B hml hv
  obtain ⟨rfl, hsz, hP, hK, hD0, hX⟩ := hv
  have hx := B.exec
  have hb := B.bytes
  have hr := B.returns
  have hts0 := atoms_spec (ws := wsWlk_forget) B.pre
  have hts : ∀ w ∈ tb, w.before _ s = true := fun w h => hts0 w (List.mem_cons_of_mem _ h)
  have hown : s.vm.findClass "StateExplorer$Walk" = some m.cls := findClass_of_methodNamed B.named
  have hlocks := B.notSynchronized
  subst hsz
  have hD := hD0.self (sz := s.heap.size)
  generalize hAe : va_A [(h_net, .inr (0, [.ref a_net_sorts, .ref a_net_ranks, .ref a_net_starts, .ref a_net_literals, .ref a_net_nextLiterals, .ref a_net_outputs, .int net_gateTotal, .int net_inputTotal, .int net_latchTotal, .int net_outputTotal])), (h_wlk, .inr (3, [.ref a_wlk_distances, .ref a_wlk_order, .ref a_wlk_parents, .ref a_wlk_steps, .ref a_wlk_settledPairs, .int wlk_words, .int wlk_reached, .int wlk_doubts, .int wlk_doubtState, .int wlk_doubtChoice])), (a_wlk_distances, .inl (cI, 256, .inl wlk_distances)), (a_wlk_settledPairs, .inl (cL, 64, .inr (.inl wlk_settledPairs)))] s.heap.size = A at hD hX ⊢
  have hA : ∀ q : Nat, s.heap.size ≤ q → A q := fun q h => by rw [← hAe]; exact Or.inr h
  have hS : va_S A s.heap s.heap [] := va_S.rf
  have hl := lv_entry ([.ref h_wlk, .ref h_net]) (n := 4) (Nat.le_of_ble_eq_true rfl)
  rw [lg_entry_eq]
  generalize (lg_sl ([.ref h_wlk, .ref h_net]) ++ List.replicate (4 - (lg_sl ([.ref h_wlk, .ref h_net])).length) Slot.unset).toArray = ls at hl ⊢
  have hl : lv_has ls 4 [(0, .ref h_wlk), (1, .ref h_net)] := hl
  have C0 : sx_C p s m _ meth c cWlk_forget 4 "StateExplorer$Walk" A (dC, dI) [(cI, .int), (cL, .long), (cZ, .boolean)] t1 t2 := ⟨hx, hb, hml, hown, hts, hA, hK, hlocks, hX⟩
  rw [m_Wlk_forget] at hm
  refine lv_aload_n hx hb dWlk_forget_0 rfl (lv_at hl 1 rfl) ?_
  obtain ⟨v1, hv1, hm⟩ := sx_bind hm
  have hPc := hP.sub (ws' := [(h_net, .inr (0, [.ref a_net_sorts, .ref a_net_ranks, .ref a_net_starts, .ref a_net_literals, .ref a_net_nextLiterals, .ref a_net_outputs, .int net_gateTotal, .int net_inputTotal, .int net_latchTotal, .int net_outputTotal]))]) [0] rfl
  have hDc := hD.sub (ws' := [(h_net, .inr (0, [.ref a_net_sorts, .ref a_net_ranks, .ref a_net_starts, .ref a_net_literals, .ref a_net_nextLiterals, .ref a_net_outputs, .int net_gateTotal, .int net_inputTotal, .int net_latchTotal, .int net_outputTotal]))]) [0] (by decide) rfl
  have hFc := va_free (wc := [(h_net, .inr (0, [.ref a_net_sorts, .ref a_net_ranks, .ref a_net_starts, .ref a_net_literals, .ref a_net_nextLiterals, .ref a_net_outputs, .int net_gateTotal, .int net_inputTotal, .int net_latchTotal, .int net_outputTotal]))]) hD hS hA [0] rfl
  refine sx_stI (va_runV (As := []) (rest := []) ⟨hx, hb, hml, hown, hts⟩ (k_Net_stateTotal l dC dI cI cL cZ t1 t2 h_net a_net_sorts a_net_ranks a_net_starts a_net_literals a_net_nextLiterals a_net_outputs net_gateTotal net_inputTotal net_latchTotal net_outputTotal _ v1 hv1) (cwV 0 hts (sx_gV tw_289 tw_230 tw_231 tw_37 tcNet_stateTotal) rfl rfl rfl (by decide +kernel) ⟨Nat.le_of_ble_eq_true rfl, Nat.le_of_ble_eq_true rfl⟩) (sx_pV hK hX hS hPc hDc hFc (va_recv hK hPc (ci := 0) (q0 := 0) rfl rfl)) rfl rfl hl.1 rfl (lv_room (Nat.le_of_ble_eq_true rfl)) dWlk_forget_1 ⟨Nat.le_of_ble_eq_true rfl, Nat.le_of_ble_eq_true rfl⟩) ?_
  refine lv_istore_n (lv' := [(2, .int v1), (0, .ref h_wlk), (1, .ref h_net)]) hx hb dWlk_forget_4 rfl hl (by decide) rfl (fun ls hl => ?_)
  refine lv_iconst (v := (0 : Int32)) hx hb dWlk_forget_5 (by decide) ?_
  refine lv_istore_n (lv' := [(3, .int (0 : Int32)), (2, .int v1), (0, .ref h_wlk), (1, .ref h_net)]) hx hb dWlk_forget_6 rfl hl (by decide) rfl (fun ls hl => ?_)
  obtain ⟨v5, hv5, hm⟩ := sx_bind hm
  refine w_Wlk_forget_7 C0 h_net a_net_sorts a_net_ranks a_net_starts a_net_literals a_net_nextLiterals a_net_outputs h_wlk a_wlk_distances a_wlk_order a_wlk_parents a_wlk_steps a_wlk_settledPairs net_gateTotal net_inputTotal net_latchTotal net_outputTotal wlk_settledPairs wlk_words wlk_reached wlk_doubts wlk_doubtState wlk_doubtChoice v1 _ (0 : Int32) wlk_distances v5 hv5 _ _ _ hP hD hS (lv_sub hl [2, 3, 1, 0] rfl) ?_
  intro H locs ls hP hD hS hl
  refine lv_aload_n hx hb dWlk_forget_25 rfl (lv_at hl 0 rfl) ?_
  refine lv_aload_n hx hb dWlk_forget_26 rfl (lv_at hl 1 rfl) ?_
  obtain ⟨v6, hv6, hm⟩ := sx_bind hm
  have hPc := hP.sub (ws' := [(h_net, .inr (0, [.ref a_net_sorts, .ref a_net_ranks, .ref a_net_starts, .ref a_net_literals, .ref a_net_nextLiterals, .ref a_net_outputs, .int net_gateTotal, .int net_inputTotal, .int net_latchTotal, .int net_outputTotal]))]) [0] rfl
  have hDc := hD.sub (ws' := [(h_net, .inr (0, [.ref a_net_sorts, .ref a_net_ranks, .ref a_net_starts, .ref a_net_literals, .ref a_net_nextLiterals, .ref a_net_outputs, .int net_gateTotal, .int net_inputTotal, .int net_latchTotal, .int net_outputTotal]))]) [0] (by decide) rfl
  have hFc := va_free (wc := [(h_net, .inr (0, [.ref a_net_sorts, .ref a_net_ranks, .ref a_net_starts, .ref a_net_literals, .ref a_net_nextLiterals, .ref a_net_outputs, .int net_gateTotal, .int net_inputTotal, .int net_latchTotal, .int net_outputTotal]))]) hD hS hA [0] rfl
  refine sx_stI (va_runV (As := []) (rest := [.ref h_wlk]) ⟨hx, hb, hml, hown, hts⟩ (k_Net_wordTotal l dC dI cI cL cZ t1 t2 h_net a_net_sorts a_net_ranks a_net_starts a_net_literals a_net_nextLiterals a_net_outputs net_gateTotal net_inputTotal net_latchTotal net_outputTotal _ v6 hv6) (cwV 0 hts (sx_gV tw_290 tw_226 tw_227 tw_37 tcNet_wordTotal) rfl rfl rfl (by decide +kernel) ⟨Nat.le_of_ble_eq_true rfl, Nat.le_of_ble_eq_true rfl⟩) (sx_pV hK hX hS hPc hDc hFc (va_recv hK hPc (ci := 0) (q0 := 0) rfl rfl)) rfl rfl hl.1 rfl (lv_room (Nat.le_of_ble_eq_true rfl)) dWlk_forget_27 ⟨Nat.le_of_ble_eq_true rfl, Nat.le_of_ble_eq_true rfl⟩) ?_
  refine va_put (D := (dC, dI)) (ci := 3) (v := .int v6) (ty := .int) (C := RWlk) (T := TWlk) (N := 10) hx hb hts inWlk tyWlk tyWlk_ok nmWlk hown hK hP hD hS 1 rfl rfl 5 (by decide) (hts _ tw_142) (fun _ h9 => h9) rfl (by decide +kernel) rfl rfl (Nat.le_of_ble_eq_true rfl) dWlk_forget_30 (fun H locs hP hD hS => ?_)
  have hP : va_P (dC, dI) vwCl [(h_net, .inr (0, [.ref a_net_sorts, .ref a_net_ranks, .ref a_net_starts, .ref a_net_literals, .ref a_net_nextLiterals, .ref a_net_outputs, .int net_gateTotal, .int net_inputTotal, .int net_latchTotal, .int net_outputTotal])), (h_wlk, .inr (3, [.ref a_wlk_distances, .ref a_wlk_order, .ref a_wlk_parents, .ref a_wlk_steps, .ref a_wlk_settledPairs, .int v6, .int wlk_reached, .int wlk_doubts, .int wlk_doubtState, .int wlk_doubtChoice])), (a_wlk_distances, .inl (cI, 256, .inl v5)), (a_wlk_settledPairs, .inl (cL, 64, .inr (.inl wlk_settledPairs)))] H := hP
  have hD : va_D A [(h_net, .inr (0, [.ref a_net_sorts, .ref a_net_ranks, .ref a_net_starts, .ref a_net_literals, .ref a_net_nextLiterals, .ref a_net_outputs, .int net_gateTotal, .int net_inputTotal, .int net_latchTotal, .int net_outputTotal])), (h_wlk, .inr (3, [.ref a_wlk_distances, .ref a_wlk_order, .ref a_wlk_parents, .ref a_wlk_steps, .ref a_wlk_settledPairs, .int v6, .int wlk_reached, .int wlk_doubts, .int wlk_doubtState, .int wlk_doubtChoice])), (a_wlk_distances, .inl (cI, 256, .inl v5)), (a_wlk_settledPairs, .inl (cL, 64, .inr (.inl wlk_settledPairs)))] := hD
  refine lv_iconst (v := (0 : Int32)) hx hb dWlk_forget_33 (by decide) ?_
  refine lv_istore_n (lv' := [(3, .int (0 : Int32)), (0, .ref h_wlk), (1, .ref h_net)]) hx hb dWlk_forget_34 rfl hl (by decide) rfl (fun ls hl => ?_)
  obtain ⟨v10, hv10, hm⟩ := sx_bind hm
  refine w_Wlk_forget_35 C0 h_net a_net_sorts a_net_ranks a_net_starts a_net_literals a_net_nextLiterals a_net_outputs h_wlk a_wlk_distances a_wlk_order a_wlk_parents a_wlk_steps a_wlk_settledPairs net_gateTotal net_inputTotal net_latchTotal net_outputTotal v5 v6 wlk_reached wlk_doubts wlk_doubtState wlk_doubtChoice _ (0 : Int32) wlk_settledPairs v10 hv10 _ _ _ hP hD hS (lv_sub hl [1, 0] rfl) ?_
  intro H locs ls hP hD hS hl
  refine lv_aload_n hx hb dWlk_forget_56 rfl (lv_at hl 0 rfl) ?_
  refine lv_iconst (v := (0 : Int32)) hx hb dWlk_forget_57 (by decide) ?_
  refine va_put (D := (dC, dI)) (ci := 3) (v := .int (0 : Int32)) (ty := .int) (C := RWlk) (T := TWlk) (N := 10) hx hb hts inWlk tyWlk tyWlk_ok nmWlk hown hK hP hD hS 1 rfl rfl 6 (by decide) (hts _ tw_143) (fun _ h9 => h9) rfl (by decide +kernel) rfl rfl (Nat.le_of_ble_eq_true rfl) dWlk_forget_58 (fun H locs hP hD hS => ?_)
  have hP : va_P (dC, dI) vwCl [(h_net, .inr (0, [.ref a_net_sorts, .ref a_net_ranks, .ref a_net_starts, .ref a_net_literals, .ref a_net_nextLiterals, .ref a_net_outputs, .int net_gateTotal, .int net_inputTotal, .int net_latchTotal, .int net_outputTotal])), (h_wlk, .inr (3, [.ref a_wlk_distances, .ref a_wlk_order, .ref a_wlk_parents, .ref a_wlk_steps, .ref a_wlk_settledPairs, .int v6, .int (0 : Int32), .int wlk_doubts, .int wlk_doubtState, .int wlk_doubtChoice])), (a_wlk_distances, .inl (cI, 256, .inl v5)), (a_wlk_settledPairs, .inl (cL, 64, .inr (.inl v10)))] H := hP
  have hD : va_D A [(h_net, .inr (0, [.ref a_net_sorts, .ref a_net_ranks, .ref a_net_starts, .ref a_net_literals, .ref a_net_nextLiterals, .ref a_net_outputs, .int net_gateTotal, .int net_inputTotal, .int net_latchTotal, .int net_outputTotal])), (h_wlk, .inr (3, [.ref a_wlk_distances, .ref a_wlk_order, .ref a_wlk_parents, .ref a_wlk_steps, .ref a_wlk_settledPairs, .int v6, .int (0 : Int32), .int wlk_doubts, .int wlk_doubtState, .int wlk_doubtChoice])), (a_wlk_distances, .inl (cI, 256, .inl v5)), (a_wlk_settledPairs, .inl (cL, 64, .inr (.inl v10)))] := hD
  refine lv_aload_n hx hb dWlk_forget_61 rfl (lv_at hl 0 rfl) ?_
  refine lv_iconst (v := (0 : Int32)) hx hb dWlk_forget_62 (by decide) ?_
  refine va_put (D := (dC, dI)) (ci := 3) (v := .int (0 : Int32)) (ty := .int) (C := RWlk) (T := TWlk) (N := 10) hx hb hts inWlk tyWlk tyWlk_ok nmWlk hown hK hP hD hS 1 rfl rfl 7 (by decide) (hts _ tw_145) (fun _ h9 => h9) rfl (by decide +kernel) rfl rfl (Nat.le_of_ble_eq_true rfl) dWlk_forget_63 (fun H locs hP hD hS => ?_)
  have hP : va_P (dC, dI) vwCl [(h_net, .inr (0, [.ref a_net_sorts, .ref a_net_ranks, .ref a_net_starts, .ref a_net_literals, .ref a_net_nextLiterals, .ref a_net_outputs, .int net_gateTotal, .int net_inputTotal, .int net_latchTotal, .int net_outputTotal])), (h_wlk, .inr (3, [.ref a_wlk_distances, .ref a_wlk_order, .ref a_wlk_parents, .ref a_wlk_steps, .ref a_wlk_settledPairs, .int v6, .int (0 : Int32), .int (0 : Int32), .int wlk_doubtState, .int wlk_doubtChoice])), (a_wlk_distances, .inl (cI, 256, .inl v5)), (a_wlk_settledPairs, .inl (cL, 64, .inr (.inl v10)))] H := hP
  have hD : va_D A [(h_net, .inr (0, [.ref a_net_sorts, .ref a_net_ranks, .ref a_net_starts, .ref a_net_literals, .ref a_net_nextLiterals, .ref a_net_outputs, .int net_gateTotal, .int net_inputTotal, .int net_latchTotal, .int net_outputTotal])), (h_wlk, .inr (3, [.ref a_wlk_distances, .ref a_wlk_order, .ref a_wlk_parents, .ref a_wlk_steps, .ref a_wlk_settledPairs, .int v6, .int (0 : Int32), .int (0 : Int32), .int wlk_doubtState, .int wlk_doubtChoice])), (a_wlk_distances, .inl (cI, 256, .inl v5)), (a_wlk_settledPairs, .inl (cL, 64, .inr (.inl v10)))] := hD
  refine lv_aload_n hx hb dWlk_forget_66 rfl (lv_at hl 0 rfl) ?_
  refine lv_iconst (v := (-1 : Int32)) hx hb dWlk_forget_67 (by decide) ?_
  refine va_put (D := (dC, dI)) (ci := 3) (v := .int (-1 : Int32)) (ty := .int) (C := RWlk) (T := TWlk) (N := 10) hx hb hts inWlk tyWlk tyWlk_ok nmWlk hown hK hP hD hS 1 rfl rfl 8 (by decide) (hts _ tw_147) (fun _ h9 => h9) rfl (by decide +kernel) rfl rfl (Nat.le_of_ble_eq_true rfl) dWlk_forget_68 (fun H locs hP hD hS => ?_)
  have hP : va_P (dC, dI) vwCl [(h_net, .inr (0, [.ref a_net_sorts, .ref a_net_ranks, .ref a_net_starts, .ref a_net_literals, .ref a_net_nextLiterals, .ref a_net_outputs, .int net_gateTotal, .int net_inputTotal, .int net_latchTotal, .int net_outputTotal])), (h_wlk, .inr (3, [.ref a_wlk_distances, .ref a_wlk_order, .ref a_wlk_parents, .ref a_wlk_steps, .ref a_wlk_settledPairs, .int v6, .int (0 : Int32), .int (0 : Int32), .int (-1 : Int32), .int wlk_doubtChoice])), (a_wlk_distances, .inl (cI, 256, .inl v5)), (a_wlk_settledPairs, .inl (cL, 64, .inr (.inl v10)))] H := hP
  have hD : va_D A [(h_net, .inr (0, [.ref a_net_sorts, .ref a_net_ranks, .ref a_net_starts, .ref a_net_literals, .ref a_net_nextLiterals, .ref a_net_outputs, .int net_gateTotal, .int net_inputTotal, .int net_latchTotal, .int net_outputTotal])), (h_wlk, .inr (3, [.ref a_wlk_distances, .ref a_wlk_order, .ref a_wlk_parents, .ref a_wlk_steps, .ref a_wlk_settledPairs, .int v6, .int (0 : Int32), .int (0 : Int32), .int (-1 : Int32), .int wlk_doubtChoice])), (a_wlk_distances, .inl (cI, 256, .inl v5)), (a_wlk_settledPairs, .inl (cL, 64, .inr (.inl v10)))] := hD
  refine lv_aload_n hx hb dWlk_forget_71 rfl (lv_at hl 0 rfl) ?_
  refine lv_iconst (v := (-1 : Int32)) hx hb dWlk_forget_72 (by decide) ?_
  refine va_put (D := (dC, dI)) (ci := 3) (v := .int (-1 : Int32)) (ty := .int) (C := RWlk) (T := TWlk) (N := 10) hx hb hts inWlk tyWlk tyWlk_ok nmWlk hown hK hP hD hS 1 rfl rfl 9 (by decide) (hts _ tw_149) (fun _ h9 => h9) rfl (by decide +kernel) rfl rfl (Nat.le_of_ble_eq_true rfl) dWlk_forget_73 (fun H locs hP hD hS => ?_)
  have hP : va_P (dC, dI) vwCl [(h_net, .inr (0, [.ref a_net_sorts, .ref a_net_ranks, .ref a_net_starts, .ref a_net_literals, .ref a_net_nextLiterals, .ref a_net_outputs, .int net_gateTotal, .int net_inputTotal, .int net_latchTotal, .int net_outputTotal])), (h_wlk, .inr (3, [.ref a_wlk_distances, .ref a_wlk_order, .ref a_wlk_parents, .ref a_wlk_steps, .ref a_wlk_settledPairs, .int v6, .int (0 : Int32), .int (0 : Int32), .int (-1 : Int32), .int (-1 : Int32)])), (a_wlk_distances, .inl (cI, 256, .inl v5)), (a_wlk_settledPairs, .inl (cL, 64, .inr (.inl v10)))] H := hP
  have hD : va_D A [(h_net, .inr (0, [.ref a_net_sorts, .ref a_net_ranks, .ref a_net_starts, .ref a_net_literals, .ref a_net_nextLiterals, .ref a_net_outputs, .int net_gateTotal, .int net_inputTotal, .int net_latchTotal, .int net_outputTotal])), (h_wlk, .inr (3, [.ref a_wlk_distances, .ref a_wlk_order, .ref a_wlk_parents, .ref a_wlk_steps, .ref a_wlk_settledPairs, .int v6, .int (0 : Int32), .int (0 : Int32), .int (-1 : Int32), .int (-1 : Int32)])), (a_wlk_distances, .inl (cI, 256, .inl v5)), (a_wlk_settledPairs, .inl (cL, 64, .inr (.inl v10)))] := hD
  obtain rfl := Option.some.inj hm
  exact W.vret hx hb hr (fun t ht hW => ⟨⟨(), rfl, trivial, sx_Wi hP hK hD ht hW.alike⟩, hS.F ht⟩) hS.2.2 dWlk_forget_76
noncomputable def m_Wlk_reach (wlk_distances wlk_order wlk_parents wlk_steps : Nat → Int32) (wlk_reached : Int32) (p0 : Int32) (p1 : Int32) (p2 : Int32) (p3 : Int32) : Option ((Nat → Int32) × (Nat → Int32) × (Nat → Int32) × (Nat → Int32) × Int32) := gd (vp_in p0 256) (gd (vp_in p0 256) (gd (vp_in p0 256) (gd (vp_in wlk_reached 256) (some (upd wlk_distances p0.toNatClampNeg p1, upd wlk_order wlk_reached.toNatClampNeg p0, upd wlk_parents p0.toNatClampNeg p2, upd wlk_steps p0.toNatClampNeg p3, wlk_reached + (1 : Int32))))))
def rm_Wlk_reach : Room := { frames := 0, cells := 0, slots := 0, locals := 0 }
set_option maxHeartbeats 4000000 in
set_option maxRecDepth 100000 in
theorem k_Wlk_reach (l : Launch) (dC : Nat → ClassId) (dI : Nat → Nat → Nat) (cI cL cZ : ClassId) (t1 t2 : Nat) (h_wlk a_wlk_distances a_wlk_order a_wlk_parents a_wlk_steps a_wlk_settledPairs : Nat) (wlk_distances wlk_order wlk_parents wlk_steps : Nat → Int32) (wlk_words wlk_reached wlk_doubts wlk_doubtState wlk_doubtChoice : Int32) (sz : Nat) (p0 : Int32) (p1 : Int32) (p2 : Int32) (p3 : Int32) (v : (Nat → Int32) × (Nat → Int32) × (Nat → Int32) × (Nat → Int32) × Int32) (hm : m_Wlk_reach wlk_distances wlk_order wlk_parents wlk_steps wlk_reached p0 p1 p2 p3 = some v) : Met l yWlk_reach wsWlk_reach rm_Wlk_reach (sx_Pc (dC, dI) [(cI, .int), (cL, .long), (cZ, .boolean)] t1 t2 [(h_wlk, .inr (3, [.ref a_wlk_distances, .ref a_wlk_order, .ref a_wlk_parents, .ref a_wlk_steps, .ref a_wlk_settledPairs, .int wlk_words, .int wlk_reached, .int wlk_doubts, .int wlk_doubtState, .int wlk_doubtChoice])), (a_wlk_distances, .inl (cI, 256, .inl wlk_distances)), (a_wlk_order, .inl (cI, 256, .inl wlk_order)), (a_wlk_parents, .inl (cI, 256, .inl wlk_parents)), (a_wlk_steps, .inl (cI, 256, .inl wlk_steps))] sz [.ref h_wlk, .int p0, .int p1, .int p2, .int p3]) (va_Qv (fun (_ : Unit) => True) (fun _ t => sx_W (dC, dI) [(cI, .int), (cL, .long), (cZ, .boolean)] (va_A [(h_wlk, .inr (3, [.ref a_wlk_distances, .ref a_wlk_order, .ref a_wlk_parents, .ref a_wlk_steps, .ref a_wlk_settledPairs, .int wlk_words, .int wlk_reached, .int wlk_doubts, .int wlk_doubtState, .int wlk_doubtChoice])), (a_wlk_distances, .inl (cI, 256, .inl wlk_distances)), (a_wlk_order, .inl (cI, 256, .inl wlk_order)), (a_wlk_parents, .inl (cI, 256, .inl wlk_parents)), (a_wlk_steps, .inl (cI, 256, .inl wlk_steps))] sz) [(h_wlk, .inr (3, [.ref a_wlk_distances, .ref a_wlk_order, .ref a_wlk_parents, .ref a_wlk_steps, .ref a_wlk_settledPairs, .int wlk_words, .int v.2.2.2.2, .int wlk_doubts, .int wlk_doubtState, .int wlk_doubtChoice])), (a_wlk_distances, .inl (cI, 256, .inl v.1)), (a_wlk_order, .inl (cI, 256, .inl v.2.1)), (a_wlk_parents, .inl (cI, 256, .inl v.2.2.1)), (a_wlk_steps, .inl (cI, 256, .inl v.2.2.2.1))] t) (va_A [(h_wlk, .inr (3, [.ref a_wlk_distances, .ref a_wlk_order, .ref a_wlk_parents, .ref a_wlk_steps, .ref a_wlk_settledPairs, .int wlk_words, .int wlk_reached, .int wlk_doubts, .int wlk_doubtState, .int wlk_doubtChoice])), (a_wlk_distances, .inl (cI, 256, .inl wlk_distances)), (a_wlk_order, .inl (cI, 256, .inl wlk_order)), (a_wlk_parents, .inl (cI, 256, .inl wlk_parents)), (a_wlk_steps, .inl (cI, 256, .inl wlk_steps))] sz)) 0 0 (va_A [(h_wlk, .inr (3, [.ref a_wlk_distances, .ref a_wlk_order, .ref a_wlk_parents, .ref a_wlk_steps, .ref a_wlk_settledPairs, .int wlk_words, .int wlk_reached, .int wlk_doubts, .int wlk_doubtState, .int wlk_doubtChoice])), (a_wlk_distances, .inl (cI, 256, .inl wlk_distances)), (a_wlk_order, .inl (cI, 256, .inl wlk_order)), (a_wlk_parents, .inl (cI, 256, .inl wlk_parents)), (a_wlk_steps, .inl (cI, 256, .inl wlk_steps))] sz) := by
  refine Met.ofW (cc := cWlk_reach) (maxL := 5) (ret := none) (by decide) rfl ?_
  intro p e s m args below meth c s₁ B hml hv
  obtain ⟨rfl, hsz, hP, hK, hD0, hX⟩ := hv
  have hx := B.exec
  have hb := B.bytes
  have hr := B.returns
  have hts0 := atoms_spec (ws := wsWlk_reach) B.pre
  have hts : ∀ w ∈ tb, w.before _ s = true := fun w h => hts0 w (List.mem_cons_of_mem _ h)
  have hown : s.vm.findClass "StateExplorer$Walk" = some m.cls := findClass_of_methodNamed B.named
  have hlocks := B.notSynchronized
  subst hsz
  have hD := hD0.self (sz := s.heap.size)
  generalize hAe : va_A [(h_wlk, .inr (3, [.ref a_wlk_distances, .ref a_wlk_order, .ref a_wlk_parents, .ref a_wlk_steps, .ref a_wlk_settledPairs, .int wlk_words, .int wlk_reached, .int wlk_doubts, .int wlk_doubtState, .int wlk_doubtChoice])), (a_wlk_distances, .inl (cI, 256, .inl wlk_distances)), (a_wlk_order, .inl (cI, 256, .inl wlk_order)), (a_wlk_parents, .inl (cI, 256, .inl wlk_parents)), (a_wlk_steps, .inl (cI, 256, .inl wlk_steps))] s.heap.size = A at hD hX ⊢
  have hA : ∀ q : Nat, s.heap.size ≤ q → A q := fun q h => by rw [← hAe]; exact Or.inr h
  have hS : va_S A s.heap s.heap [] := va_S.rf
  have hl := lv_entry ([.ref h_wlk, .int p0, .int p1, .int p2, .int p3]) (n := 5) (Nat.le_of_ble_eq_true rfl)
  rw [lg_entry_eq]
  generalize (lg_sl ([.ref h_wlk, .int p0, .int p1, .int p2, .int p3]) ++ List.replicate (5 - (lg_sl ([.ref h_wlk, .int p0, .int p1, .int p2, .int p3])).length) Slot.unset).toArray = ls at hl ⊢
  have hl : lv_has ls 5 [(0, .ref h_wlk), (1, .int p0), (2, .int p1), (3, .int p2), (4, .int p3)] := hl
  have C0 : sx_C p s m _ meth c cWlk_reach 5 "StateExplorer$Walk" A (dC, dI) [(cI, .int), (cL, .long), (cZ, .boolean)] t1 t2 := ⟨hx, hb, hml, hown, hts, hA, hK, hlocks, hX⟩
  rw [m_Wlk_reach] at hm
  refine lv_aload_n hx hb dWlk_reach_0 rfl (lv_at hl 0 rfl) ?_
  refine va_get (D := (dC, dI)) (ci := 3) (v := .ref a_wlk_distances) (C := RWlk) (T := TWlk) (N := 10) hx hb hts inWlk hown hK hP 0 rfl rfl 0 (by decide) (hts _ tw_135) (fun _ h9 => h9) rfl dWlk_reach_1 ?_
  refine lv_iload_n hx hb dWlk_reach_4 rfl (lv_at hl 1 rfl) ?_
  refine lv_iload_n hx hb dWlk_reach_5 rfl (lv_at hl 2 rfl) ?_
  obtain ⟨g1, hm⟩ := gd_el hm
  refine va_iast hx hb hK hP hD hS 1 0 rfl rfl g1 dWlk_reach_6 (fun H locs hP hD hS => ?_)
  have hP : va_P (dC, dI) vwCl [(h_wlk, .inr (3, [.ref a_wlk_distances, .ref a_wlk_order, .ref a_wlk_parents, .ref a_wlk_steps, .ref a_wlk_settledPairs, .int wlk_words, .int wlk_reached, .int wlk_doubts, .int wlk_doubtState, .int wlk_doubtChoice])), (a_wlk_distances, .inl (cI, 256, .inl (upd wlk_distances p0.toNatClampNeg p1))), (a_wlk_order, .inl (cI, 256, .inl wlk_order)), (a_wlk_parents, .inl (cI, 256, .inl wlk_parents)), (a_wlk_steps, .inl (cI, 256, .inl wlk_steps))] H := hP
  have hD : va_D A [(h_wlk, .inr (3, [.ref a_wlk_distances, .ref a_wlk_order, .ref a_wlk_parents, .ref a_wlk_steps, .ref a_wlk_settledPairs, .int wlk_words, .int wlk_reached, .int wlk_doubts, .int wlk_doubtState, .int wlk_doubtChoice])), (a_wlk_distances, .inl (cI, 256, .inl (upd wlk_distances p0.toNatClampNeg p1))), (a_wlk_order, .inl (cI, 256, .inl wlk_order)), (a_wlk_parents, .inl (cI, 256, .inl wlk_parents)), (a_wlk_steps, .inl (cI, 256, .inl wlk_steps))] := hD
  refine lv_aload_n hx hb dWlk_reach_7 rfl (lv_at hl 0 rfl) ?_
  refine va_get (D := (dC, dI)) (ci := 3) (v := .ref a_wlk_parents) (C := RWlk) (T := TWlk) (N := 10) hx hb hts inWlk hown hK hP 0 rfl rfl 2 (by decide) (hts _ tw_139) (fun _ h9 => h9) rfl dWlk_reach_8 ?_
  refine lv_iload_n hx hb dWlk_reach_11 rfl (lv_at hl 1 rfl) ?_
  refine lv_iload_n hx hb dWlk_reach_12 rfl (lv_at hl 3 rfl) ?_
  obtain ⟨g2, hm⟩ := gd_el hm
  refine va_iast hx hb hK hP hD hS 3 0 rfl rfl g2 dWlk_reach_13 (fun H locs hP hD hS => ?_)
  have hP : va_P (dC, dI) vwCl [(h_wlk, .inr (3, [.ref a_wlk_distances, .ref a_wlk_order, .ref a_wlk_parents, .ref a_wlk_steps, .ref a_wlk_settledPairs, .int wlk_words, .int wlk_reached, .int wlk_doubts, .int wlk_doubtState, .int wlk_doubtChoice])), (a_wlk_distances, .inl (cI, 256, .inl (upd wlk_distances p0.toNatClampNeg p1))), (a_wlk_order, .inl (cI, 256, .inl wlk_order)), (a_wlk_parents, .inl (cI, 256, .inl (upd wlk_parents p0.toNatClampNeg p2))), (a_wlk_steps, .inl (cI, 256, .inl wlk_steps))] H := hP
  have hD : va_D A [(h_wlk, .inr (3, [.ref a_wlk_distances, .ref a_wlk_order, .ref a_wlk_parents, .ref a_wlk_steps, .ref a_wlk_settledPairs, .int wlk_words, .int wlk_reached, .int wlk_doubts, .int wlk_doubtState, .int wlk_doubtChoice])), (a_wlk_distances, .inl (cI, 256, .inl (upd wlk_distances p0.toNatClampNeg p1))), (a_wlk_order, .inl (cI, 256, .inl wlk_order)), (a_wlk_parents, .inl (cI, 256, .inl (upd wlk_parents p0.toNatClampNeg p2))), (a_wlk_steps, .inl (cI, 256, .inl wlk_steps))] := hD
  refine lv_aload_n hx hb dWlk_reach_14 rfl (lv_at hl 0 rfl) ?_
  refine va_get (D := (dC, dI)) (ci := 3) (v := .ref a_wlk_steps) (C := RWlk) (T := TWlk) (N := 10) hx hb hts inWlk hown hK hP 0 rfl rfl 3 (by decide) (hts _ tw_140) (fun _ h9 => h9) rfl dWlk_reach_15 ?_
  refine lv_iload_n hx hb dWlk_reach_18 rfl (lv_at hl 1 rfl) ?_
  refine lv_iload hx hb dWlk_reach_19 (lv_at hl 4 rfl) ?_
  obtain ⟨g3, hm⟩ := gd_el hm
  refine va_iast hx hb hK hP hD hS 4 0 rfl rfl g3 dWlk_reach_21 (fun H locs hP hD hS => ?_)
  have hP : va_P (dC, dI) vwCl [(h_wlk, .inr (3, [.ref a_wlk_distances, .ref a_wlk_order, .ref a_wlk_parents, .ref a_wlk_steps, .ref a_wlk_settledPairs, .int wlk_words, .int wlk_reached, .int wlk_doubts, .int wlk_doubtState, .int wlk_doubtChoice])), (a_wlk_distances, .inl (cI, 256, .inl (upd wlk_distances p0.toNatClampNeg p1))), (a_wlk_order, .inl (cI, 256, .inl wlk_order)), (a_wlk_parents, .inl (cI, 256, .inl (upd wlk_parents p0.toNatClampNeg p2))), (a_wlk_steps, .inl (cI, 256, .inl (upd wlk_steps p0.toNatClampNeg p3)))] H := hP
  have hD : va_D A [(h_wlk, .inr (3, [.ref a_wlk_distances, .ref a_wlk_order, .ref a_wlk_parents, .ref a_wlk_steps, .ref a_wlk_settledPairs, .int wlk_words, .int wlk_reached, .int wlk_doubts, .int wlk_doubtState, .int wlk_doubtChoice])), (a_wlk_distances, .inl (cI, 256, .inl (upd wlk_distances p0.toNatClampNeg p1))), (a_wlk_order, .inl (cI, 256, .inl wlk_order)), (a_wlk_parents, .inl (cI, 256, .inl (upd wlk_parents p0.toNatClampNeg p2))), (a_wlk_steps, .inl (cI, 256, .inl (upd wlk_steps p0.toNatClampNeg p3)))] := hD
  refine lv_aload_n hx hb dWlk_reach_22 rfl (lv_at hl 0 rfl) ?_
  refine va_get (D := (dC, dI)) (ci := 3) (v := .ref a_wlk_order) (C := RWlk) (T := TWlk) (N := 10) hx hb hts inWlk hown hK hP 0 rfl rfl 1 (by decide) (hts _ tw_138) (fun _ h9 => h9) rfl dWlk_reach_23 ?_
  refine lv_aload_n hx hb dWlk_reach_26 rfl (lv_at hl 0 rfl) ?_
  refine va_get (D := (dC, dI)) (ci := 3) (v := .int wlk_reached) (C := RWlk) (T := TWlk) (N := 10) hx hb hts inWlk hown hK hP 0 rfl rfl 6 (by decide) (hts _ tw_143) (fun _ h9 => h9) rfl dWlk_reach_27 ?_
  refine lv_iload_n hx hb dWlk_reach_30 rfl (lv_at hl 1 rfl) ?_
  obtain ⟨g4, hm⟩ := gd_el hm
  refine va_iast hx hb hK hP hD hS 2 0 rfl rfl g4 dWlk_reach_31 (fun H locs hP hD hS => ?_)
  have hP : va_P (dC, dI) vwCl [(h_wlk, .inr (3, [.ref a_wlk_distances, .ref a_wlk_order, .ref a_wlk_parents, .ref a_wlk_steps, .ref a_wlk_settledPairs, .int wlk_words, .int wlk_reached, .int wlk_doubts, .int wlk_doubtState, .int wlk_doubtChoice])), (a_wlk_distances, .inl (cI, 256, .inl (upd wlk_distances p0.toNatClampNeg p1))), (a_wlk_order, .inl (cI, 256, .inl (upd wlk_order wlk_reached.toNatClampNeg p0))), (a_wlk_parents, .inl (cI, 256, .inl (upd wlk_parents p0.toNatClampNeg p2))), (a_wlk_steps, .inl (cI, 256, .inl (upd wlk_steps p0.toNatClampNeg p3)))] H := hP
  have hD : va_D A [(h_wlk, .inr (3, [.ref a_wlk_distances, .ref a_wlk_order, .ref a_wlk_parents, .ref a_wlk_steps, .ref a_wlk_settledPairs, .int wlk_words, .int wlk_reached, .int wlk_doubts, .int wlk_doubtState, .int wlk_doubtChoice])), (a_wlk_distances, .inl (cI, 256, .inl (upd wlk_distances p0.toNatClampNeg p1))), (a_wlk_order, .inl (cI, 256, .inl (upd wlk_order wlk_reached.toNatClampNeg p0))), (a_wlk_parents, .inl (cI, 256, .inl (upd wlk_parents p0.toNatClampNeg p2))), (a_wlk_steps, .inl (cI, 256, .inl (upd wlk_steps p0.toNatClampNeg p3)))] := hD
  refine lv_aload_n hx hb dWlk_reach_32 rfl (lv_at hl 0 rfl) ?_
  refine lv_dup hx hb dWlk_reach_33 rfl ?_
  refine va_get (D := (dC, dI)) (ci := 3) (v := .int wlk_reached) (C := RWlk) (T := TWlk) (N := 10) hx hb hts inWlk hown hK hP 0 rfl rfl 6 (by decide) (hts _ tw_143) (fun _ h9 => h9) rfl dWlk_reach_34 ?_
  refine lv_iconst (v := (1 : Int32)) hx hb dWlk_reach_37 (by decide) ?_
  refine lv_iadd hx hb dWlk_reach_38 ?_
  refine va_put (D := (dC, dI)) (ci := 3) (v := .int (wlk_reached + (1 : Int32))) (ty := .int) (C := RWlk) (T := TWlk) (N := 10) hx hb hts inWlk tyWlk tyWlk_ok nmWlk hown hK hP hD hS 0 rfl rfl 6 (by decide) (hts _ tw_143) (fun _ h9 => h9) rfl (by decide +kernel) rfl rfl (Nat.le_of_ble_eq_true rfl) dWlk_reach_39 (fun H locs hP hD hS => ?_)
  have hP : va_P (dC, dI) vwCl [(h_wlk, .inr (3, [.ref a_wlk_distances, .ref a_wlk_order, .ref a_wlk_parents, .ref a_wlk_steps, .ref a_wlk_settledPairs, .int wlk_words, .int (wlk_reached + (1 : Int32)), .int wlk_doubts, .int wlk_doubtState, .int wlk_doubtChoice])), (a_wlk_distances, .inl (cI, 256, .inl (upd wlk_distances p0.toNatClampNeg p1))), (a_wlk_order, .inl (cI, 256, .inl (upd wlk_order wlk_reached.toNatClampNeg p0))), (a_wlk_parents, .inl (cI, 256, .inl (upd wlk_parents p0.toNatClampNeg p2))), (a_wlk_steps, .inl (cI, 256, .inl (upd wlk_steps p0.toNatClampNeg p3)))] H := hP
  have hD : va_D A [(h_wlk, .inr (3, [.ref a_wlk_distances, .ref a_wlk_order, .ref a_wlk_parents, .ref a_wlk_steps, .ref a_wlk_settledPairs, .int wlk_words, .int (wlk_reached + (1 : Int32)), .int wlk_doubts, .int wlk_doubtState, .int wlk_doubtChoice])), (a_wlk_distances, .inl (cI, 256, .inl (upd wlk_distances p0.toNatClampNeg p1))), (a_wlk_order, .inl (cI, 256, .inl (upd wlk_order wlk_reached.toNatClampNeg p0))), (a_wlk_parents, .inl (cI, 256, .inl (upd wlk_parents p0.toNatClampNeg p2))), (a_wlk_steps, .inl (cI, 256, .inl (upd wlk_steps p0.toNatClampNeg p3)))] := hD
  obtain rfl := Option.some.inj hm
  exact W.vret hx hb hr (fun t ht hW => ⟨⟨(), rfl, trivial, sx_Wi hP hK hD ht hW.alike⟩, hS.F ht⟩) hS.2.2 dWlk_reach_42
noncomputable def m_Wlk_noteDoubt (wlk_distances : Nat → Int32) (wlk_doubts wlk_doubtState wlk_doubtChoice : Int32) (p0 : Int32) (p1 : Int32) : Option (Int32 × Int32 × Int32) := (if wlk_doubtState = (-1 : Int32) then some (wlk_doubts + (1 : Int32), p0, p1) else gd (vp_in p0 256) (gd (vp_in wlk_doubtState 256) ((if wlk_distances p0.toNatClampNeg = wlk_distances wlk_doubtState.toNatClampNeg then (if wlk_doubtState ≤ p0 then some (wlk_doubts + (1 : Int32), wlk_doubtState, wlk_doubtChoice) else some (wlk_doubts + (1 : Int32), p0, p1)) else some (wlk_doubts + (1 : Int32), wlk_doubtState, wlk_doubtChoice)))))
def rm_Wlk_noteDoubt : Room := { frames := 0, cells := 0, slots := 0, locals := 0 }
set_option maxHeartbeats 4000000 in
set_option maxRecDepth 100000 in
theorem k_Wlk_noteDoubt (l : Launch) (dC : Nat → ClassId) (dI : Nat → Nat → Nat) (cI cL cZ : ClassId) (t1 t2 : Nat) (h_wlk a_wlk_distances a_wlk_order a_wlk_parents a_wlk_steps a_wlk_settledPairs : Nat) (wlk_distances : Nat → Int32) (wlk_words wlk_reached wlk_doubts wlk_doubtState wlk_doubtChoice : Int32) (sz : Nat) (p0 : Int32) (p1 : Int32) (v : Int32 × Int32 × Int32) (hm : m_Wlk_noteDoubt wlk_distances wlk_doubts wlk_doubtState wlk_doubtChoice p0 p1 = some v) : Met l yWlk_noteDoubt wsWlk_noteDoubt rm_Wlk_noteDoubt (sx_Pc (dC, dI) [(cI, .int), (cL, .long), (cZ, .boolean)] t1 t2 [(h_wlk, .inr (3, [.ref a_wlk_distances, .ref a_wlk_order, .ref a_wlk_parents, .ref a_wlk_steps, .ref a_wlk_settledPairs, .int wlk_words, .int wlk_reached, .int wlk_doubts, .int wlk_doubtState, .int wlk_doubtChoice])), (a_wlk_distances, .inl (cI, 256, .inl wlk_distances))] sz [.ref h_wlk, .int p0, .int p1]) (va_Qv (fun (_ : Unit) => True) (fun _ t => sx_W (dC, dI) [(cI, .int), (cL, .long), (cZ, .boolean)] (va_A [(h_wlk, .inr (3, [.ref a_wlk_distances, .ref a_wlk_order, .ref a_wlk_parents, .ref a_wlk_steps, .ref a_wlk_settledPairs, .int wlk_words, .int wlk_reached, .int wlk_doubts, .int wlk_doubtState, .int wlk_doubtChoice])), (a_wlk_distances, .inl (cI, 256, .inl wlk_distances))] sz) [(h_wlk, .inr (3, [.ref a_wlk_distances, .ref a_wlk_order, .ref a_wlk_parents, .ref a_wlk_steps, .ref a_wlk_settledPairs, .int wlk_words, .int wlk_reached, .int v.1, .int v.2.1, .int v.2.2])), (a_wlk_distances, .inl (cI, 256, .inl wlk_distances))] t) (va_A [(h_wlk, .inr (3, [.ref a_wlk_distances, .ref a_wlk_order, .ref a_wlk_parents, .ref a_wlk_steps, .ref a_wlk_settledPairs, .int wlk_words, .int wlk_reached, .int wlk_doubts, .int wlk_doubtState, .int wlk_doubtChoice])), (a_wlk_distances, .inl (cI, 256, .inl wlk_distances))] sz)) 0 0 (va_A [(h_wlk, .inr (3, [.ref a_wlk_distances, .ref a_wlk_order, .ref a_wlk_parents, .ref a_wlk_steps, .ref a_wlk_settledPairs, .int wlk_words, .int wlk_reached, .int wlk_doubts, .int wlk_doubtState, .int wlk_doubtChoice])), (a_wlk_distances, .inl (cI, 256, .inl wlk_distances))] sz) := by
  refine Met.ofW (cc := cWlk_noteDoubt) (maxL := 3) (ret := none) (by decide) rfl ?_
  intro p e s m args below meth c s₁ B hml hv
  obtain ⟨rfl, hsz, hP, hK, hD0, hX⟩ := hv
  have hx := B.exec
  have hb := B.bytes
  have hr := B.returns
  have hts0 := atoms_spec (ws := wsWlk_noteDoubt) B.pre
  have hts : ∀ w ∈ tb, w.before _ s = true := fun w h => hts0 w (List.mem_cons_of_mem _ h)
  have hown : s.vm.findClass "StateExplorer$Walk" = some m.cls := findClass_of_methodNamed B.named
  have hlocks := B.notSynchronized
  subst hsz
  have hD := hD0.self (sz := s.heap.size)
  generalize hAe : va_A [(h_wlk, .inr (3, [.ref a_wlk_distances, .ref a_wlk_order, .ref a_wlk_parents, .ref a_wlk_steps, .ref a_wlk_settledPairs, .int wlk_words, .int wlk_reached, .int wlk_doubts, .int wlk_doubtState, .int wlk_doubtChoice])), (a_wlk_distances, .inl (cI, 256, .inl wlk_distances))] s.heap.size = A at hD hX ⊢
  have hA : ∀ q : Nat, s.heap.size ≤ q → A q := fun q h => by rw [← hAe]; exact Or.inr h
  have hS : va_S A s.heap s.heap [] := va_S.rf
  have hl := lv_entry ([.ref h_wlk, .int p0, .int p1]) (n := 3) (Nat.le_of_ble_eq_true rfl)
  rw [lg_entry_eq]
  generalize (lg_sl ([.ref h_wlk, .int p0, .int p1]) ++ List.replicate (3 - (lg_sl ([.ref h_wlk, .int p0, .int p1])).length) Slot.unset).toArray = ls at hl ⊢
  have hl : lv_has ls 3 [(0, .ref h_wlk), (1, .int p0), (2, .int p1)] := hl
  have C0 : sx_C p s m _ meth c cWlk_noteDoubt 3 "StateExplorer$Walk" A (dC, dI) [(cI, .int), (cL, .long), (cZ, .boolean)] t1 t2 := ⟨hx, hb, hml, hown, hts, hA, hK, hlocks, hX⟩
  rw [m_Wlk_noteDoubt] at hm
  refine lv_aload_n hx hb dWlk_noteDoubt_0 rfl (lv_at hl 0 rfl) ?_
  refine lv_dup hx hb dWlk_noteDoubt_1 rfl ?_
  refine va_get (D := (dC, dI)) (ci := 3) (v := .int wlk_doubts) (C := RWlk) (T := TWlk) (N := 10) hx hb hts inWlk hown hK hP 0 rfl rfl 7 (by decide) (hts _ tw_145) (fun _ h9 => h9) rfl dWlk_noteDoubt_2 ?_
  refine lv_iconst (v := (1 : Int32)) hx hb dWlk_noteDoubt_5 (by decide) ?_
  refine lv_iadd hx hb dWlk_noteDoubt_6 ?_
  refine va_put (D := (dC, dI)) (ci := 3) (v := .int (wlk_doubts + (1 : Int32))) (ty := .int) (C := RWlk) (T := TWlk) (N := 10) hx hb hts inWlk tyWlk tyWlk_ok nmWlk hown hK hP hD hS 0 rfl rfl 7 (by decide) (hts _ tw_145) (fun _ h9 => h9) rfl (by decide +kernel) rfl rfl (Nat.le_of_ble_eq_true rfl) dWlk_noteDoubt_7 (fun H locs hP hD hS => ?_)
  have hP : va_P (dC, dI) vwCl [(h_wlk, .inr (3, [.ref a_wlk_distances, .ref a_wlk_order, .ref a_wlk_parents, .ref a_wlk_steps, .ref a_wlk_settledPairs, .int wlk_words, .int wlk_reached, .int (wlk_doubts + (1 : Int32)), .int wlk_doubtState, .int wlk_doubtChoice])), (a_wlk_distances, .inl (cI, 256, .inl wlk_distances))] H := hP
  have hD : va_D A [(h_wlk, .inr (3, [.ref a_wlk_distances, .ref a_wlk_order, .ref a_wlk_parents, .ref a_wlk_steps, .ref a_wlk_settledPairs, .int wlk_words, .int wlk_reached, .int (wlk_doubts + (1 : Int32)), .int wlk_doubtState, .int wlk_doubtChoice])), (a_wlk_distances, .inl (cI, 256, .inl wlk_distances))] := hD
  refine lv_aload_n hx hb dWlk_noteDoubt_10 rfl (lv_at hl 0 rfl) ?_
  refine va_get (D := (dC, dI)) (ci := 3) (v := .int wlk_doubtState) (C := RWlk) (T := TWlk) (N := 10) hx hb hts inWlk hown hK hP 0 rfl rfl 8 (by decide) (hts _ tw_147) (fun _ h9 => h9) rfl dWlk_noteDoubt_11 ?_
  refine lv_iconst (v := (-1 : Int32)) hx hb dWlk_noteDoubt_14 (by decide) ?_
  refine lv_icmp_eq (tgt := 44) hx hb dWlk_noteDoubt_15 (by decide) (fun c1 => ?_) (fun c1 => ?_)
  · have hm := sx_pos c1 hm
    refine lv_aload_n hx hb dWlk_noteDoubt_44 rfl (lv_at hl 0 rfl) ?_
    refine lv_iload_n hx hb dWlk_noteDoubt_45 rfl (lv_at hl 1 rfl) ?_
    refine va_put (D := (dC, dI)) (ci := 3) (v := .int p0) (ty := .int) (C := RWlk) (T := TWlk) (N := 10) hx hb hts inWlk tyWlk tyWlk_ok nmWlk hown hK hP hD hS 0 rfl rfl 8 (by decide) (hts _ tw_147) (fun _ h9 => h9) rfl (by decide +kernel) rfl rfl (Nat.le_of_ble_eq_true rfl) dWlk_noteDoubt_46 (fun H locs hP hD hS => ?_)
    have hP : va_P (dC, dI) vwCl [(h_wlk, .inr (3, [.ref a_wlk_distances, .ref a_wlk_order, .ref a_wlk_parents, .ref a_wlk_steps, .ref a_wlk_settledPairs, .int wlk_words, .int wlk_reached, .int (wlk_doubts + (1 : Int32)), .int p0, .int wlk_doubtChoice])), (a_wlk_distances, .inl (cI, 256, .inl wlk_distances))] H := hP
    have hD : va_D A [(h_wlk, .inr (3, [.ref a_wlk_distances, .ref a_wlk_order, .ref a_wlk_parents, .ref a_wlk_steps, .ref a_wlk_settledPairs, .int wlk_words, .int wlk_reached, .int (wlk_doubts + (1 : Int32)), .int p0, .int wlk_doubtChoice])), (a_wlk_distances, .inl (cI, 256, .inl wlk_distances))] := hD
    refine lv_aload_n hx hb dWlk_noteDoubt_49 rfl (lv_at hl 0 rfl) ?_
    refine lv_iload_n hx hb dWlk_noteDoubt_50 rfl (lv_at hl 2 rfl) ?_
    refine va_put (D := (dC, dI)) (ci := 3) (v := .int p1) (ty := .int) (C := RWlk) (T := TWlk) (N := 10) hx hb hts inWlk tyWlk tyWlk_ok nmWlk hown hK hP hD hS 0 rfl rfl 9 (by decide) (hts _ tw_149) (fun _ h9 => h9) rfl (by decide +kernel) rfl rfl (Nat.le_of_ble_eq_true rfl) dWlk_noteDoubt_51 (fun H locs hP hD hS => ?_)
    have hP : va_P (dC, dI) vwCl [(h_wlk, .inr (3, [.ref a_wlk_distances, .ref a_wlk_order, .ref a_wlk_parents, .ref a_wlk_steps, .ref a_wlk_settledPairs, .int wlk_words, .int wlk_reached, .int (wlk_doubts + (1 : Int32)), .int p0, .int p1])), (a_wlk_distances, .inl (cI, 256, .inl wlk_distances))] H := hP
    have hD : va_D A [(h_wlk, .inr (3, [.ref a_wlk_distances, .ref a_wlk_order, .ref a_wlk_parents, .ref a_wlk_steps, .ref a_wlk_settledPairs, .int wlk_words, .int wlk_reached, .int (wlk_doubts + (1 : Int32)), .int p0, .int p1])), (a_wlk_distances, .inl (cI, 256, .inl wlk_distances))] := hD
    obtain rfl := Option.some.inj hm
    exact W.vret hx hb hr (fun t ht hW => ⟨⟨(), rfl, trivial, sx_Wi hP hK hD ht hW.alike⟩, hS.F ht⟩) hS.2.2 dWlk_noteDoubt_54
  · have hm := sx_neg c1 hm
    refine lv_aload_n hx hb dWlk_noteDoubt_18 rfl (lv_at hl 0 rfl) ?_
    refine va_get (D := (dC, dI)) (ci := 3) (v := .ref a_wlk_distances) (C := RWlk) (T := TWlk) (N := 10) hx hb hts inWlk hown hK hP 0 rfl rfl 0 (by decide) (hts _ tw_135) (fun _ h9 => h9) rfl dWlk_noteDoubt_19 ?_
    refine lv_iload_n hx hb dWlk_noteDoubt_22 rfl (lv_at hl 1 rfl) ?_
    obtain ⟨g2, hm⟩ := gd_el hm
    refine va_iald hx hb hK hP 1 0 rfl rfl g2 dWlk_noteDoubt_23 ?_
    refine lv_aload_n hx hb dWlk_noteDoubt_24 rfl (lv_at hl 0 rfl) ?_
    refine va_get (D := (dC, dI)) (ci := 3) (v := .ref a_wlk_distances) (C := RWlk) (T := TWlk) (N := 10) hx hb hts inWlk hown hK hP 0 rfl rfl 0 (by decide) (hts _ tw_135) (fun _ h9 => h9) rfl dWlk_noteDoubt_25 ?_
    refine lv_aload_n hx hb dWlk_noteDoubt_28 rfl (lv_at hl 0 rfl) ?_
    refine va_get (D := (dC, dI)) (ci := 3) (v := .int wlk_doubtState) (C := RWlk) (T := TWlk) (N := 10) hx hb hts inWlk hown hK hP 0 rfl rfl 8 (by decide) (hts _ tw_147) (fun _ h9 => h9) rfl dWlk_noteDoubt_29 ?_
    obtain ⟨g3, hm⟩ := gd_el hm
    refine va_iald hx hb hK hP 1 0 rfl rfl g3 dWlk_noteDoubt_32 ?_
    refine lv_icmp_ne (tgt := 54) hx hb dWlk_noteDoubt_33 (by decide) (fun c4 => ?_) (fun c4 => ?_)
    · have hm := sx_neg c4 hm
      obtain rfl := Option.some.inj hm
      exact W.vret hx hb hr (fun t ht hW => ⟨⟨(), rfl, trivial, sx_Wi hP hK hD ht hW.alike⟩, hS.F ht⟩) hS.2.2 dWlk_noteDoubt_54
    · have hm := sx_pos c4 hm
      refine lv_iload_n hx hb dWlk_noteDoubt_36 rfl (lv_at hl 1 rfl) ?_
      refine lv_aload_n hx hb dWlk_noteDoubt_37 rfl (lv_at hl 0 rfl) ?_
      refine va_get (D := (dC, dI)) (ci := 3) (v := .int wlk_doubtState) (C := RWlk) (T := TWlk) (N := 10) hx hb hts inWlk hown hK hP 0 rfl rfl 8 (by decide) (hts _ tw_147) (fun _ h9 => h9) rfl dWlk_noteDoubt_38 ?_
      refine lv_icmp_ge (tgt := 54) hx hb dWlk_noteDoubt_41 (by decide) (fun c5 => ?_) (fun c5 => ?_)
      · have hm := sx_pos c5 hm
        obtain rfl := Option.some.inj hm
        exact W.vret hx hb hr (fun t ht hW => ⟨⟨(), rfl, trivial, sx_Wi hP hK hD ht hW.alike⟩, hS.F ht⟩) hS.2.2 dWlk_noteDoubt_54
      · have hm := sx_neg c5 hm
        refine lv_aload_n hx hb dWlk_noteDoubt_44 rfl (lv_at hl 0 rfl) ?_
        refine lv_iload_n hx hb dWlk_noteDoubt_45 rfl (lv_at hl 1 rfl) ?_
        refine va_put (D := (dC, dI)) (ci := 3) (v := .int p0) (ty := .int) (C := RWlk) (T := TWlk) (N := 10) hx hb hts inWlk tyWlk tyWlk_ok nmWlk hown hK hP hD hS 0 rfl rfl 8 (by decide) (hts _ tw_147) (fun _ h9 => h9) rfl (by decide +kernel) rfl rfl (Nat.le_of_ble_eq_true rfl) dWlk_noteDoubt_46 (fun H locs hP hD hS => ?_)
        have hP : va_P (dC, dI) vwCl [(h_wlk, .inr (3, [.ref a_wlk_distances, .ref a_wlk_order, .ref a_wlk_parents, .ref a_wlk_steps, .ref a_wlk_settledPairs, .int wlk_words, .int wlk_reached, .int (wlk_doubts + (1 : Int32)), .int p0, .int wlk_doubtChoice])), (a_wlk_distances, .inl (cI, 256, .inl wlk_distances))] H := hP
        have hD : va_D A [(h_wlk, .inr (3, [.ref a_wlk_distances, .ref a_wlk_order, .ref a_wlk_parents, .ref a_wlk_steps, .ref a_wlk_settledPairs, .int wlk_words, .int wlk_reached, .int (wlk_doubts + (1 : Int32)), .int p0, .int wlk_doubtChoice])), (a_wlk_distances, .inl (cI, 256, .inl wlk_distances))] := hD
        refine lv_aload_n hx hb dWlk_noteDoubt_49 rfl (lv_at hl 0 rfl) ?_
        refine lv_iload_n hx hb dWlk_noteDoubt_50 rfl (lv_at hl 2 rfl) ?_
        refine va_put (D := (dC, dI)) (ci := 3) (v := .int p1) (ty := .int) (C := RWlk) (T := TWlk) (N := 10) hx hb hts inWlk tyWlk tyWlk_ok nmWlk hown hK hP hD hS 0 rfl rfl 9 (by decide) (hts _ tw_149) (fun _ h9 => h9) rfl (by decide +kernel) rfl rfl (Nat.le_of_ble_eq_true rfl) dWlk_noteDoubt_51 (fun H locs hP hD hS => ?_)
        have hP : va_P (dC, dI) vwCl [(h_wlk, .inr (3, [.ref a_wlk_distances, .ref a_wlk_order, .ref a_wlk_parents, .ref a_wlk_steps, .ref a_wlk_settledPairs, .int wlk_words, .int wlk_reached, .int (wlk_doubts + (1 : Int32)), .int p0, .int p1])), (a_wlk_distances, .inl (cI, 256, .inl wlk_distances))] H := hP
        have hD : va_D A [(h_wlk, .inr (3, [.ref a_wlk_distances, .ref a_wlk_order, .ref a_wlk_parents, .ref a_wlk_steps, .ref a_wlk_settledPairs, .int wlk_words, .int wlk_reached, .int (wlk_doubts + (1 : Int32)), .int p0, .int p1])), (a_wlk_distances, .inl (cI, 256, .inl wlk_distances))] := hD
        obtain rfl := Option.some.inj hm
        exact W.vret hx hb hr (fun t ht hW => ⟨⟨(), rfl, trivial, sx_Wi hP hK hD ht hW.alike⟩, hS.F ht⟩) hS.2.2 dWlk_noteDoubt_54
noncomputable def L_Wlk_leave_26 (tab_nextStates : Nat → Int32) (x2 : Int32) (x3 : Int32) : Nat → Int32 → (Nat → Int32) → (Nat → Int32) → (Nat → Int32) → (Nat → Int32) → Int32 → Int32 → Int32 → Int32 → Option ((Nat → Int32) × (Nat → Int32) × (Nat → Int32) × (Nat → Int32) × Int32 × Int32 × Int32 × Int32)
  | 0, _, _, _, _, _, _, _, _, _ => none
  | n + 1, x4, wlk_distances, wlk_order, wlk_parents, wlk_steps, wlk_reached, wlk_doubts, wlk_doubtState, wlk_doubtChoice => (if x3 ≤ x4 then some (wlk_distances, wlk_order, wlk_parents, wlk_steps, wlk_reached, wlk_doubts, wlk_doubtState, wlk_doubtChoice) else (m_Tab_nextOf tab_nextStates x2 x4).bind (fun v10 => (if v10 = (-1 : Int32) then (m_Wlk_noteDoubt wlk_distances wlk_doubts wlk_doubtState wlk_doubtChoice x2 x4).bind (fun v18 => (L_Wlk_leave_26 tab_nextStates x2 x3 n (x4 + (1 : Int32)) wlk_distances wlk_order wlk_parents wlk_steps wlk_reached v18.1 v18.2.1 v18.2.2)) else gd (vp_in v10 256) ((if wlk_distances v10.toNatClampNeg = (-1 : Int32) then gd (vp_in x2 256) ((m_Wlk_reach wlk_distances wlk_order wlk_parents wlk_steps wlk_reached v10 ((wlk_distances x2.toNatClampNeg) + (1 : Int32)) x2 x4).bind (fun v16 => (L_Wlk_leave_26 tab_nextStates x2 x3 n (x4 + (1 : Int32)) v16.1 v16.2.1 v16.2.2.1 v16.2.2.2.1 v16.2.2.2.2 wlk_doubts wlk_doubtState wlk_doubtChoice))) else (L_Wlk_leave_26 tab_nextStates x2 x3 n (x4 + (1 : Int32)) wlk_distances wlk_order wlk_parents wlk_steps wlk_reached wlk_doubts wlk_doubtState wlk_doubtChoice))))))
noncomputable def m_Wlk_leave (tab_settled : Nat → Int64) (tab_nextStates wlk_distances wlk_order wlk_parents wlk_steps : Nat → Int32) (wlk_settledPairs : Nat → Int64) (wlk_reached wlk_doubts wlk_doubtState wlk_doubtChoice : Int32) (p1 : Int32) (p2 : Int32) : Option ((Nat → Int32) × (Nat → Int32) × (Nat → Int32) × (Nat → Int32) × (Nat → Int64) × Int32 × Int32 × Int32 × Int32) := (m_Exp_wordOf p1).bind (fun v1 => gd (vp_in v1 64) ((m_Tab_settledIn tab_settled p1).bind (fun v4 => (m_Exp_shiftOf p1).bind (fun v6 => gd (vp_in v1 64) (((L_Wlk_leave_26 tab_nextStates p1 p2 fu (0 : Int32) wlk_distances wlk_order wlk_parents wlk_steps wlk_reached wlk_doubts wlk_doubtState wlk_doubtChoice).bind (fun v20 => some (v20.1, v20.2.1, v20.2.2.1, v20.2.2.2.1, vp_updL wlk_settledPairs v1.toNatClampNeg ((wlk_settledPairs v1.toNatClampNeg) ||| (v4.toInt64 <<< (v6.toInt64 &&& 63))), v20.2.2.2.2.1, v20.2.2.2.2.2.1, v20.2.2.2.2.2.2.1, v20.2.2.2.2.2.2.2))))))))
def rm_Wlk_leave : Room := { frames := 2, cells := 0, slots := 0, locals := 41 }
set_option maxHeartbeats 4000000 in
set_option maxRecDepth 100000 in
theorem w_Wlk_leave_26 {p : Program} {l : Launch} {e : Env} {s : State} {m : MethodId} {args : Array Value} {below : List Frame} {meth : Method} {c : Code} {dC : Nat → ClassId} {dI : Nat → Nat → Nat} {cI cL cZ : ClassId} {A : Nat → Prop} {Q : State → Prop} {t1 t2 : Nat} (C0 : sx_C p s m args meth c cWlk_leave 6 "StateExplorer$Walk" A (dC, dI) [(cI, .int), (cL, .long), (cZ, .boolean)] t1 t2) (h_tab a_tab_known a_tab_settled a_tab_values a_tab_nextStates h_wlk a_wlk_distances a_wlk_order a_wlk_parents a_wlk_steps a_wlk_settledPairs : Nat) (tab_settled : Nat → Int64) (tab_nextStates : Nat → Int32) (wlk_settledPairs : Nat → Int64) (wlk_words : Int32) (x2 : Int32) (x3 : Int32) :
    ∀ (n : Nat) (x4 : Int32) (wlk_distances wlk_order wlk_parents wlk_steps : Nat → Int32) (wlk_reached wlk_doubts wlk_doubtState wlk_doubtChoice : Int32) (r : (Nat → Int32) × (Nat → Int32) × (Nat → Int32) × (Nat → Int32) × Int32 × Int32 × Int32 × Int32), L_Wlk_leave_26 tab_nextStates x2 x3 n x4 wlk_distances wlk_order wlk_parents wlk_steps wlk_reached wlk_doubts wlk_doubtState wlk_doubtChoice = some r → ∀ (H : Heap) (locs : List Loc) (ls : Array Slot), va_P (dC, dI) vwCl [(h_tab, .inr (2, [.ref a_tab_known, .ref a_tab_settled, .ref a_tab_values, .ref a_tab_nextStates])), (h_wlk, .inr (3, [.ref a_wlk_distances, .ref a_wlk_order, .ref a_wlk_parents, .ref a_wlk_steps, .ref a_wlk_settledPairs, .int wlk_words, .int wlk_reached, .int wlk_doubts, .int wlk_doubtState, .int wlk_doubtChoice])), (a_tab_settled, .inl (cL, 64, .inr (.inl tab_settled))), (a_tab_nextStates, .inl (cI, 4096, .inl tab_nextStates)), (a_wlk_distances, .inl (cI, 256, .inl wlk_distances)), (a_wlk_order, .inl (cI, 256, .inl wlk_order)), (a_wlk_parents, .inl (cI, 256, .inl wlk_parents)), (a_wlk_steps, .inl (cI, 256, .inl wlk_steps)), (a_wlk_settledPairs, .inl (cL, 64, .inr (.inl wlk_settledPairs)))] H → va_D A [(h_tab, .inr (2, [.ref a_tab_known, .ref a_tab_settled, .ref a_tab_values, .ref a_tab_nextStates])), (h_wlk, .inr (3, [.ref a_wlk_distances, .ref a_wlk_order, .ref a_wlk_parents, .ref a_wlk_steps, .ref a_wlk_settledPairs, .int wlk_words, .int wlk_reached, .int wlk_doubts, .int wlk_doubtState, .int wlk_doubtChoice])), (a_tab_settled, .inl (cL, 64, .inr (.inl tab_settled))), (a_tab_nextStates, .inl (cI, 4096, .inl tab_nextStates)), (a_wlk_distances, .inl (cI, 256, .inl wlk_distances)), (a_wlk_order, .inl (cI, 256, .inl wlk_order)), (a_wlk_parents, .inl (cI, 256, .inl wlk_parents)), (a_wlk_steps, .inl (cI, 256, .inl wlk_steps)), (a_wlk_settledPairs, .inl (cL, 64, .inr (.inl wlk_settledPairs)))] → va_S A s.heap H locs → lv_has ls 6 [(0, .ref h_wlk), (1, .ref h_tab), (2, .int x2), (3, .int x3), (4, .int x4)] →
    (∀ (H : Heap) (locs : List Loc) (ls : Array Slot), va_P (dC, dI) vwCl [(h_tab, .inr (2, [.ref a_tab_known, .ref a_tab_settled, .ref a_tab_values, .ref a_tab_nextStates])), (h_wlk, .inr (3, [.ref a_wlk_distances, .ref a_wlk_order, .ref a_wlk_parents, .ref a_wlk_steps, .ref a_wlk_settledPairs, .int wlk_words, .int r.2.2.2.2.1, .int r.2.2.2.2.2.1, .int r.2.2.2.2.2.2.1, .int r.2.2.2.2.2.2.2])), (a_tab_settled, .inl (cL, 64, .inr (.inl tab_settled))), (a_tab_nextStates, .inl (cI, 4096, .inl tab_nextStates)), (a_wlk_distances, .inl (cI, 256, .inl r.1)), (a_wlk_order, .inl (cI, 256, .inl r.2.1)), (a_wlk_parents, .inl (cI, 256, .inl r.2.2.1)), (a_wlk_steps, .inl (cI, 256, .inl r.2.2.2.1)), (a_wlk_settledPairs, .inl (cL, 64, .inr (.inl wlk_settledPairs)))] H → va_D A [(h_tab, .inr (2, [.ref a_tab_known, .ref a_tab_settled, .ref a_tab_values, .ref a_tab_nextStates])), (h_wlk, .inr (3, [.ref a_wlk_distances, .ref a_wlk_order, .ref a_wlk_parents, .ref a_wlk_steps, .ref a_wlk_settledPairs, .int wlk_words, .int r.2.2.2.2.1, .int r.2.2.2.2.2.1, .int r.2.2.2.2.2.2.1, .int r.2.2.2.2.2.2.2])), (a_tab_settled, .inl (cL, 64, .inr (.inl tab_settled))), (a_tab_nextStates, .inl (cI, 4096, .inl tab_nextStates)), (a_wlk_distances, .inl (cI, 256, .inl r.1)), (a_wlk_order, .inl (cI, 256, .inl r.2.1)), (a_wlk_parents, .inl (cI, 256, .inl r.2.2.1)), (a_wlk_steps, .inl (cI, 256, .inl r.2.2.2.1)), (a_wlk_settledPairs, .inl (cL, 64, .inr (.inl wlk_settledPairs)))] → va_S A s.heap H locs → lv_has ls 6 [] → W p l e (headSpec wsWlk_leave rm_Wlk_leave).room s m args below meth c H locs 0 0 Q (F0 m 91 ls [])) →
    W p l e (headSpec wsWlk_leave rm_Wlk_leave).room s m args below meth c H locs 0 0 Q (F0 m 26 ls []) := by
  obtain ⟨hx, hb, hml, hown, hts, hA, hK, hlocks, hX⟩ := id C0
  intro n
  induction n with
  | zero => intro x4 wlk_distances wlk_order wlk_parents wlk_steps wlk_reached wlk_doubts wlk_doubtState wlk_doubtChoice r hm; rw [L_Wlk_leave_26] at hm; cases hm
  | succ n ih =>
    intro x4 wlk_distances wlk_order wlk_parents wlk_steps wlk_reached wlk_doubts wlk_doubtState wlk_doubtChoice r hm H locs ls hP hD hS hl k1
    rw [L_Wlk_leave_26] at hm
    refine lv_iload hx hb dWlk_leave_26 (lv_at hl 4 rfl) ?_
    refine lv_iload_n hx hb dWlk_leave_28 rfl (lv_at hl 3 rfl) ?_
    refine lv_icmp_ge (tgt := 91) hx hb dWlk_leave_29 (by decide) (fun c9 => ?_) (fun c9 => ?_)
    · have hm := sx_pos c9 hm
      obtain rfl := Option.some.inj hm
      exact k1 _ _ _ hP hD hS (lv_sub hl [] rfl)
    · have hm := sx_neg c9 hm
      refine lv_aload_n hx hb dWlk_leave_32 rfl (lv_at hl 1 rfl) ?_
      refine lv_iload_n hx hb dWlk_leave_33 rfl (lv_at hl 2 rfl) ?_
      refine lv_iload hx hb dWlk_leave_34 (lv_at hl 4 rfl) ?_
      obtain ⟨v10, hv10, hm⟩ := sx_bind hm
      have hPc := hP.sub (ws' := [(h_tab, .inr (2, [.ref a_tab_known, .ref a_tab_settled, .ref a_tab_values, .ref a_tab_nextStates])), (a_tab_nextStates, .inl (cI, 4096, .inl tab_nextStates))]) [0, 3] rfl
      have hDc := hD.sub (ws' := [(h_tab, .inr (2, [.ref a_tab_known, .ref a_tab_settled, .ref a_tab_values, .ref a_tab_nextStates])), (a_tab_nextStates, .inl (cI, 4096, .inl tab_nextStates))]) [0, 3] (by decide) rfl
      have hFc := va_free (wc := [(h_tab, .inr (2, [.ref a_tab_known, .ref a_tab_settled, .ref a_tab_values, .ref a_tab_nextStates])), (a_tab_nextStates, .inl (cI, 4096, .inl tab_nextStates))]) hD hS hA [0, 3] rfl
      refine sx_stI (va_runV (As := [.int x2, .int x4]) (rest := []) ⟨hx, hb, hml, hown, hts⟩ (k_Tab_nextOf l dC dI cI cL cZ t1 t2 h_tab a_tab_known a_tab_settled a_tab_values a_tab_nextStates tab_nextStates _ x2 x4 v10 hv10) (cwV 2 hts (sx_gV tw_307 tw_308 tw_309 tw_38 tcTab_nextOf) rfl rfl rfl (by decide +kernel) ⟨Nat.le_of_ble_eq_true rfl, Nat.le_of_ble_eq_true rfl⟩) (sx_pV hK hX hS hPc hDc hFc (va_recv hK hPc (ci := 2) (q0 := 0) rfl rfl)) rfl rfl hl.1 rfl (lv_room (Nat.le_of_ble_eq_true rfl)) dWlk_leave_36 ⟨Nat.le_of_ble_eq_true rfl, Nat.le_of_ble_eq_true rfl⟩) ?_
      refine lv_istore (lv' := [(5, .int v10), (0, .ref h_wlk), (1, .ref h_tab), (2, .int x2), (3, .int x3), (4, .int x4)]) hx hb dWlk_leave_39 hl (by decide) rfl (fun ls hl => ?_)
      refine lv_iload hx hb dWlk_leave_41 (lv_at hl 0 rfl) ?_
      refine lv_iconst (v := (-1 : Int32)) hx hb dWlk_leave_43 (by decide) ?_
      refine lv_icmp_ne (tgt := 57) hx hb dWlk_leave_44 (by decide) (fun c12 => ?_) (fun c12 => ?_)
      · have hm := sx_neg c12 hm
        refine lv_aload_n hx hb dWlk_leave_57 rfl (lv_at hl 1 rfl) ?_
        refine va_get (D := (dC, dI)) (ci := 3) (v := .ref a_wlk_distances) (C := RWlk) (T := TWlk) (N := 10) hx hb hts inWlk hown hK hP 1 rfl rfl 0 (by decide) (hts _ tw_135) (fun _ h9 => h9) rfl dWlk_leave_58 ?_
        refine lv_iload hx hb dWlk_leave_61 (lv_at hl 0 rfl) ?_
        obtain ⟨g13, hm⟩ := gd_el hm
        refine va_iald hx hb hK hP 4 0 rfl rfl g13 dWlk_leave_63 ?_
        refine lv_iconst (v := (-1 : Int32)) hx hb dWlk_leave_64 (by decide) ?_
        refine lv_icmp_ne (tgt := 85) hx hb dWlk_leave_65 (by decide) (fun c14 => ?_) (fun c14 => ?_)
        · have hm := sx_neg c14 hm
          refine lv_iinc (v := x4 + (1 : Int32)) (lv' := [(4, .int (x4 + (1 : Int32))), (5, .int v10), (0, .ref h_wlk), (1, .ref h_tab), (2, .int x2), (3, .int x3)]) hx hb dWlk_leave_85 hl (k := 5) rfl rfl (by decide) rfl (fun ls hl => ?_)
          refine lv_goto (tgt := 26) hx hb dWlk_leave_88 (by decide) ?_
          exact ih (x4 + (1 : Int32)) wlk_distances wlk_order wlk_parents wlk_steps wlk_reached wlk_doubts wlk_doubtState wlk_doubtChoice r hm _ _ _ hP hD hS (lv_sub hl [2, 3, 4, 5, 0] rfl) k1
        · have hm := sx_pos c14 hm
          refine lv_aload_n hx hb dWlk_leave_68 rfl (lv_at hl 1 rfl) ?_
          refine lv_iload hx hb dWlk_leave_69 (lv_at hl 0 rfl) ?_
          refine lv_aload_n hx hb dWlk_leave_71 rfl (lv_at hl 1 rfl) ?_
          refine va_get (D := (dC, dI)) (ci := 3) (v := .ref a_wlk_distances) (C := RWlk) (T := TWlk) (N := 10) hx hb hts inWlk hown hK hP 1 rfl rfl 0 (by decide) (hts _ tw_135) (fun _ h9 => h9) rfl dWlk_leave_72 ?_
          refine lv_iload_n hx hb dWlk_leave_75 rfl (lv_at hl 3 rfl) ?_
          obtain ⟨g15, hm⟩ := gd_el hm
          refine va_iald hx hb hK hP 4 0 rfl rfl g15 dWlk_leave_76 ?_
          refine lv_iconst (v := (1 : Int32)) hx hb dWlk_leave_77 (by decide) ?_
          refine lv_iadd hx hb dWlk_leave_78 ?_
          refine lv_iload_n hx hb dWlk_leave_79 rfl (lv_at hl 3 rfl) ?_
          refine lv_iload hx hb dWlk_leave_80 (lv_at hl 5 rfl) ?_
          obtain ⟨v16, hv16, hm⟩ := sx_bind hm
          have hPc := hP.sub (ws' := [(h_wlk, .inr (3, [.ref a_wlk_distances, .ref a_wlk_order, .ref a_wlk_parents, .ref a_wlk_steps, .ref a_wlk_settledPairs, .int wlk_words, .int wlk_reached, .int wlk_doubts, .int wlk_doubtState, .int wlk_doubtChoice])), (a_wlk_distances, .inl (cI, 256, .inl wlk_distances)), (a_wlk_order, .inl (cI, 256, .inl wlk_order)), (a_wlk_parents, .inl (cI, 256, .inl wlk_parents)), (a_wlk_steps, .inl (cI, 256, .inl wlk_steps))]) [1, 4, 5, 6, 7] rfl
          have hDc := hD.sub (ws' := [(h_wlk, .inr (3, [.ref a_wlk_distances, .ref a_wlk_order, .ref a_wlk_parents, .ref a_wlk_steps, .ref a_wlk_settledPairs, .int wlk_words, .int wlk_reached, .int wlk_doubts, .int wlk_doubtState, .int wlk_doubtChoice])), (a_wlk_distances, .inl (cI, 256, .inl wlk_distances)), (a_wlk_order, .inl (cI, 256, .inl wlk_order)), (a_wlk_parents, .inl (cI, 256, .inl wlk_parents)), (a_wlk_steps, .inl (cI, 256, .inl wlk_steps))]) [1, 4, 5, 6, 7] (by decide) rfl
          have hFc := va_free (wc := [(h_wlk, .inr (3, [.ref a_wlk_distances, .ref a_wlk_order, .ref a_wlk_parents, .ref a_wlk_steps, .ref a_wlk_settledPairs, .int wlk_words, .int wlk_reached, .int wlk_doubts, .int wlk_doubtState, .int wlk_doubtChoice])), (a_wlk_distances, .inl (cI, 256, .inl wlk_distances)), (a_wlk_order, .inl (cI, 256, .inl wlk_order)), (a_wlk_parents, .inl (cI, 256, .inl wlk_parents)), (a_wlk_steps, .inl (cI, 256, .inl wlk_steps))]) hD hS hA [1, 4, 5, 6, 7] rfl
          refine va_callv (va_runV (As := [.int v10, .int ((wlk_distances x2.toNatClampNeg) + (1 : Int32)), .int x2, .int x4]) (rest := []) ⟨hx, hb, hml, hown, hts⟩ (k_Wlk_reach l dC dI cI cL cZ t1 t2 h_wlk a_wlk_distances a_wlk_order a_wlk_parents a_wlk_steps a_wlk_settledPairs wlk_distances wlk_order wlk_parents wlk_steps wlk_words wlk_reached wlk_doubts wlk_doubtState wlk_doubtChoice _ v10 ((wlk_distances x2.toNatClampNeg) + (1 : Int32)) x2 x4 v16 hv16) (cwV 4 hts (sx_gV tw_291 tw_293 tw_8 tw_39 tcWlk_reach) rfl rfl rfl (by decide +kernel) ⟨Nat.le_of_ble_eq_true rfl, Nat.le_of_ble_eq_true rfl⟩) (sx_pV hK hX hS hPc hDc hFc (va_recv hK hPc (ci := 3) (q0 := 0) rfl rfl)) rfl rfl hl.1 rfl (lv_room (Nat.le_of_ble_eq_true rfl)) dWlk_leave_82 ⟨Nat.le_of_ble_eq_true rfl, Nat.le_of_ble_eq_true rfl⟩) hS (fun q _ h => hFc q h) hFc (fun u_ t_ H locs ht hvm hw hB hz1 hk1 hS => ?_)
          obtain ⟨hP1, -, hD1⟩ := hB
          rw [ht] at hP1
          obtain ⟨hP, hD⟩ := va_join (wr := [(h_tab, .inr (2, [.ref a_tab_known, .ref a_tab_settled, .ref a_tab_values, .ref a_tab_nextStates])), (a_tab_settled, .inl (cL, 64, .inr (.inl tab_settled))), (a_tab_nextStates, .inl (cI, 4096, .inl tab_nextStates)), (a_wlk_settledPairs, .inl (cL, 64, .inr (.inl wlk_settledPairs)))]) (w1 := [(h_wlk, .inr (3, [.ref a_wlk_distances, .ref a_wlk_order, .ref a_wlk_parents, .ref a_wlk_steps, .ref a_wlk_settledPairs, .int wlk_words, .int v16.2.2.2.2, .int wlk_doubts, .int wlk_doubtState, .int wlk_doubtChoice])), (a_wlk_distances, .inl (cI, 256, .inl v16.1)), (a_wlk_order, .inl (cI, 256, .inl v16.2.1)), (a_wlk_parents, .inl (cI, 256, .inl v16.2.2.1)), (a_wlk_steps, .inl (cI, 256, .inl v16.2.2.2.1))]) hP hD [1, 4, 5, 6, 7] [0, 2, 3, 8] rfl rfl (by decide) (by decide) hk1 hFc hP1 hD1
          have hP : va_P (dC, dI) vwCl [(h_tab, .inr (2, [.ref a_tab_known, .ref a_tab_settled, .ref a_tab_values, .ref a_tab_nextStates])), (a_tab_settled, .inl (cL, 64, .inr (.inl tab_settled))), (a_tab_nextStates, .inl (cI, 4096, .inl tab_nextStates)), (a_wlk_settledPairs, .inl (cL, 64, .inr (.inl wlk_settledPairs))), (h_wlk, .inr (3, [.ref a_wlk_distances, .ref a_wlk_order, .ref a_wlk_parents, .ref a_wlk_steps, .ref a_wlk_settledPairs, .int wlk_words, .int v16.2.2.2.2, .int wlk_doubts, .int wlk_doubtState, .int wlk_doubtChoice])), (a_wlk_distances, .inl (cI, 256, .inl v16.1)), (a_wlk_order, .inl (cI, 256, .inl v16.2.1)), (a_wlk_parents, .inl (cI, 256, .inl v16.2.2.1)), (a_wlk_steps, .inl (cI, 256, .inl v16.2.2.2.1))] H := hP
          have hD : va_D A [(h_tab, .inr (2, [.ref a_tab_known, .ref a_tab_settled, .ref a_tab_values, .ref a_tab_nextStates])), (a_tab_settled, .inl (cL, 64, .inr (.inl tab_settled))), (a_tab_nextStates, .inl (cI, 4096, .inl tab_nextStates)), (a_wlk_settledPairs, .inl (cL, 64, .inr (.inl wlk_settledPairs))), (h_wlk, .inr (3, [.ref a_wlk_distances, .ref a_wlk_order, .ref a_wlk_parents, .ref a_wlk_steps, .ref a_wlk_settledPairs, .int wlk_words, .int v16.2.2.2.2, .int wlk_doubts, .int wlk_doubtState, .int wlk_doubtChoice])), (a_wlk_distances, .inl (cI, 256, .inl v16.1)), (a_wlk_order, .inl (cI, 256, .inl v16.2.1)), (a_wlk_parents, .inl (cI, 256, .inl v16.2.2.1)), (a_wlk_steps, .inl (cI, 256, .inl v16.2.2.2.1))] := hD
          refine lv_iinc (v := x4 + (1 : Int32)) (lv' := [(4, .int (x4 + (1 : Int32))), (5, .int v10), (0, .ref h_wlk), (1, .ref h_tab), (2, .int x2), (3, .int x3)]) hx hb dWlk_leave_85 hl (k := 5) rfl rfl (by decide) rfl (fun ls hl => ?_)
          refine lv_goto (tgt := 26) hx hb dWlk_leave_88 (by decide) ?_
          exact ih (x4 + (1 : Int32)) v16.1 v16.2.1 v16.2.2.1 v16.2.2.2.1 v16.2.2.2.2 wlk_doubts wlk_doubtState wlk_doubtChoice r hm _ _ _ (hP.sub (ws' := [(h_tab, .inr (2, [.ref a_tab_known, .ref a_tab_settled, .ref a_tab_values, .ref a_tab_nextStates])), (h_wlk, .inr (3, [.ref a_wlk_distances, .ref a_wlk_order, .ref a_wlk_parents, .ref a_wlk_steps, .ref a_wlk_settledPairs, .int wlk_words, .int v16.2.2.2.2, .int wlk_doubts, .int wlk_doubtState, .int wlk_doubtChoice])), (a_tab_settled, .inl (cL, 64, .inr (.inl tab_settled))), (a_tab_nextStates, .inl (cI, 4096, .inl tab_nextStates)), (a_wlk_distances, .inl (cI, 256, .inl v16.1)), (a_wlk_order, .inl (cI, 256, .inl v16.2.1)), (a_wlk_parents, .inl (cI, 256, .inl v16.2.2.1)), (a_wlk_steps, .inl (cI, 256, .inl v16.2.2.2.1)), (a_wlk_settledPairs, .inl (cL, 64, .inr (.inl wlk_settledPairs)))]) [0, 4, 1, 2, 5, 6, 7, 8, 3] rfl) (hD.sub (ws' := [(h_tab, .inr (2, [.ref a_tab_known, .ref a_tab_settled, .ref a_tab_values, .ref a_tab_nextStates])), (h_wlk, .inr (3, [.ref a_wlk_distances, .ref a_wlk_order, .ref a_wlk_parents, .ref a_wlk_steps, .ref a_wlk_settledPairs, .int wlk_words, .int v16.2.2.2.2, .int wlk_doubts, .int wlk_doubtState, .int wlk_doubtChoice])), (a_tab_settled, .inl (cL, 64, .inr (.inl tab_settled))), (a_tab_nextStates, .inl (cI, 4096, .inl tab_nextStates)), (a_wlk_distances, .inl (cI, 256, .inl v16.1)), (a_wlk_order, .inl (cI, 256, .inl v16.2.1)), (a_wlk_parents, .inl (cI, 256, .inl v16.2.2.1)), (a_wlk_steps, .inl (cI, 256, .inl v16.2.2.2.1)), (a_wlk_settledPairs, .inl (cL, 64, .inr (.inl wlk_settledPairs)))]) [0, 4, 1, 2, 5, 6, 7, 8, 3] (by decide) rfl) hS (lv_sub hl [2, 3, 4, 5, 0] rfl) k1
      · have hm := sx_pos c12 hm
        refine lv_aload_n hx hb dWlk_leave_47 rfl (lv_at hl 1 rfl) ?_
        refine lv_iload_n hx hb dWlk_leave_48 rfl (lv_at hl 3 rfl) ?_
        refine lv_iload hx hb dWlk_leave_49 (lv_at hl 5 rfl) ?_
        obtain ⟨v18, hv18, hm⟩ := sx_bind hm
        have hPc := hP.sub (ws' := [(h_wlk, .inr (3, [.ref a_wlk_distances, .ref a_wlk_order, .ref a_wlk_parents, .ref a_wlk_steps, .ref a_wlk_settledPairs, .int wlk_words, .int wlk_reached, .int wlk_doubts, .int wlk_doubtState, .int wlk_doubtChoice])), (a_wlk_distances, .inl (cI, 256, .inl wlk_distances))]) [1, 4] rfl
        have hDc := hD.sub (ws' := [(h_wlk, .inr (3, [.ref a_wlk_distances, .ref a_wlk_order, .ref a_wlk_parents, .ref a_wlk_steps, .ref a_wlk_settledPairs, .int wlk_words, .int wlk_reached, .int wlk_doubts, .int wlk_doubtState, .int wlk_doubtChoice])), (a_wlk_distances, .inl (cI, 256, .inl wlk_distances))]) [1, 4] (by decide) rfl
        have hFc := va_free (wc := [(h_wlk, .inr (3, [.ref a_wlk_distances, .ref a_wlk_order, .ref a_wlk_parents, .ref a_wlk_steps, .ref a_wlk_settledPairs, .int wlk_words, .int wlk_reached, .int wlk_doubts, .int wlk_doubtState, .int wlk_doubtChoice])), (a_wlk_distances, .inl (cI, 256, .inl wlk_distances))]) hD hS hA [1, 4] rfl
        refine va_callv (va_runV (As := [.int x2, .int x4]) (rest := []) ⟨hx, hb, hml, hown, hts⟩ (k_Wlk_noteDoubt l dC dI cI cL cZ t1 t2 h_wlk a_wlk_distances a_wlk_order a_wlk_parents a_wlk_steps a_wlk_settledPairs wlk_distances wlk_words wlk_reached wlk_doubts wlk_doubtState wlk_doubtChoice _ x2 x4 v18 hv18) (cwV 2 hts (sx_gV tw_311 tw_313 tw_10 tw_39 tcWlk_noteDoubt) rfl rfl rfl (by decide +kernel) ⟨Nat.le_of_ble_eq_true rfl, Nat.le_of_ble_eq_true rfl⟩) (sx_pV hK hX hS hPc hDc hFc (va_recv hK hPc (ci := 3) (q0 := 0) rfl rfl)) rfl rfl hl.1 rfl (lv_room (Nat.le_of_ble_eq_true rfl)) dWlk_leave_51 ⟨Nat.le_of_ble_eq_true rfl, Nat.le_of_ble_eq_true rfl⟩) hS (fun q _ h => hFc q h) hFc (fun u_ t_ H locs ht hvm hw hB hz1 hk1 hS => ?_)
        obtain ⟨hP1, -, hD1⟩ := hB
        rw [ht] at hP1
        obtain ⟨hP, hD⟩ := va_join (wr := [(h_tab, .inr (2, [.ref a_tab_known, .ref a_tab_settled, .ref a_tab_values, .ref a_tab_nextStates])), (a_tab_settled, .inl (cL, 64, .inr (.inl tab_settled))), (a_tab_nextStates, .inl (cI, 4096, .inl tab_nextStates)), (a_wlk_order, .inl (cI, 256, .inl wlk_order)), (a_wlk_parents, .inl (cI, 256, .inl wlk_parents)), (a_wlk_steps, .inl (cI, 256, .inl wlk_steps)), (a_wlk_settledPairs, .inl (cL, 64, .inr (.inl wlk_settledPairs)))]) (w1 := [(h_wlk, .inr (3, [.ref a_wlk_distances, .ref a_wlk_order, .ref a_wlk_parents, .ref a_wlk_steps, .ref a_wlk_settledPairs, .int wlk_words, .int wlk_reached, .int v18.1, .int v18.2.1, .int v18.2.2])), (a_wlk_distances, .inl (cI, 256, .inl wlk_distances))]) hP hD [1, 4] [0, 2, 3, 5, 6, 7, 8] rfl rfl (by decide) (by decide) hk1 hFc hP1 hD1
        have hP : va_P (dC, dI) vwCl [(h_tab, .inr (2, [.ref a_tab_known, .ref a_tab_settled, .ref a_tab_values, .ref a_tab_nextStates])), (a_tab_settled, .inl (cL, 64, .inr (.inl tab_settled))), (a_tab_nextStates, .inl (cI, 4096, .inl tab_nextStates)), (a_wlk_order, .inl (cI, 256, .inl wlk_order)), (a_wlk_parents, .inl (cI, 256, .inl wlk_parents)), (a_wlk_steps, .inl (cI, 256, .inl wlk_steps)), (a_wlk_settledPairs, .inl (cL, 64, .inr (.inl wlk_settledPairs))), (h_wlk, .inr (3, [.ref a_wlk_distances, .ref a_wlk_order, .ref a_wlk_parents, .ref a_wlk_steps, .ref a_wlk_settledPairs, .int wlk_words, .int wlk_reached, .int v18.1, .int v18.2.1, .int v18.2.2])), (a_wlk_distances, .inl (cI, 256, .inl wlk_distances))] H := hP
        have hD : va_D A [(h_tab, .inr (2, [.ref a_tab_known, .ref a_tab_settled, .ref a_tab_values, .ref a_tab_nextStates])), (a_tab_settled, .inl (cL, 64, .inr (.inl tab_settled))), (a_tab_nextStates, .inl (cI, 4096, .inl tab_nextStates)), (a_wlk_order, .inl (cI, 256, .inl wlk_order)), (a_wlk_parents, .inl (cI, 256, .inl wlk_parents)), (a_wlk_steps, .inl (cI, 256, .inl wlk_steps)), (a_wlk_settledPairs, .inl (cL, 64, .inr (.inl wlk_settledPairs))), (h_wlk, .inr (3, [.ref a_wlk_distances, .ref a_wlk_order, .ref a_wlk_parents, .ref a_wlk_steps, .ref a_wlk_settledPairs, .int wlk_words, .int wlk_reached, .int v18.1, .int v18.2.1, .int v18.2.2])), (a_wlk_distances, .inl (cI, 256, .inl wlk_distances))] := hD
        refine lv_goto (tgt := 85) hx hb dWlk_leave_54 (by decide) ?_
        refine lv_iinc (v := x4 + (1 : Int32)) (lv' := [(4, .int (x4 + (1 : Int32))), (5, .int v10), (0, .ref h_wlk), (1, .ref h_tab), (2, .int x2), (3, .int x3)]) hx hb dWlk_leave_85 hl (k := 5) rfl rfl (by decide) rfl (fun ls hl => ?_)
        refine lv_goto (tgt := 26) hx hb dWlk_leave_88 (by decide) ?_
        exact ih (x4 + (1 : Int32)) wlk_distances wlk_order wlk_parents wlk_steps wlk_reached v18.1 v18.2.1 v18.2.2 r hm _ _ _ (hP.sub (ws' := [(h_tab, .inr (2, [.ref a_tab_known, .ref a_tab_settled, .ref a_tab_values, .ref a_tab_nextStates])), (h_wlk, .inr (3, [.ref a_wlk_distances, .ref a_wlk_order, .ref a_wlk_parents, .ref a_wlk_steps, .ref a_wlk_settledPairs, .int wlk_words, .int wlk_reached, .int v18.1, .int v18.2.1, .int v18.2.2])), (a_tab_settled, .inl (cL, 64, .inr (.inl tab_settled))), (a_tab_nextStates, .inl (cI, 4096, .inl tab_nextStates)), (a_wlk_distances, .inl (cI, 256, .inl wlk_distances)), (a_wlk_order, .inl (cI, 256, .inl wlk_order)), (a_wlk_parents, .inl (cI, 256, .inl wlk_parents)), (a_wlk_steps, .inl (cI, 256, .inl wlk_steps)), (a_wlk_settledPairs, .inl (cL, 64, .inr (.inl wlk_settledPairs)))]) [0, 7, 1, 2, 8, 3, 4, 5, 6] rfl) (hD.sub (ws' := [(h_tab, .inr (2, [.ref a_tab_known, .ref a_tab_settled, .ref a_tab_values, .ref a_tab_nextStates])), (h_wlk, .inr (3, [.ref a_wlk_distances, .ref a_wlk_order, .ref a_wlk_parents, .ref a_wlk_steps, .ref a_wlk_settledPairs, .int wlk_words, .int wlk_reached, .int v18.1, .int v18.2.1, .int v18.2.2])), (a_tab_settled, .inl (cL, 64, .inr (.inl tab_settled))), (a_tab_nextStates, .inl (cI, 4096, .inl tab_nextStates)), (a_wlk_distances, .inl (cI, 256, .inl wlk_distances)), (a_wlk_order, .inl (cI, 256, .inl wlk_order)), (a_wlk_parents, .inl (cI, 256, .inl wlk_parents)), (a_wlk_steps, .inl (cI, 256, .inl wlk_steps)), (a_wlk_settledPairs, .inl (cL, 64, .inr (.inl wlk_settledPairs)))]) [0, 7, 1, 2, 8, 3, 4, 5, 6] (by decide) rfl) hS (lv_sub hl [2, 3, 4, 5, 0] rfl) k1
set_option maxHeartbeats 4000000 in
set_option maxRecDepth 100000 in
theorem k_Wlk_leave (l : Launch) (dC : Nat → ClassId) (dI : Nat → Nat → Nat) (cI cL cZ : ClassId) (t1 t2 : Nat) (h_tab a_tab_known a_tab_settled a_tab_values a_tab_nextStates h_wlk a_wlk_distances a_wlk_order a_wlk_parents a_wlk_steps a_wlk_settledPairs : Nat) (tab_settled : Nat → Int64) (tab_nextStates wlk_distances wlk_order wlk_parents wlk_steps : Nat → Int32) (wlk_settledPairs : Nat → Int64) (wlk_words wlk_reached wlk_doubts wlk_doubtState wlk_doubtChoice : Int32) (sz : Nat) (p1 : Int32) (p2 : Int32) (v : (Nat → Int32) × (Nat → Int32) × (Nat → Int32) × (Nat → Int32) × (Nat → Int64) × Int32 × Int32 × Int32 × Int32) (hm : m_Wlk_leave tab_settled tab_nextStates wlk_distances wlk_order wlk_parents wlk_steps wlk_settledPairs wlk_reached wlk_doubts wlk_doubtState wlk_doubtChoice p1 p2 = some v) : Met l yWlk_leave wsWlk_leave rm_Wlk_leave (sx_Pc (dC, dI) [(cI, .int), (cL, .long), (cZ, .boolean)] t1 t2 [(h_tab, .inr (2, [.ref a_tab_known, .ref a_tab_settled, .ref a_tab_values, .ref a_tab_nextStates])), (h_wlk, .inr (3, [.ref a_wlk_distances, .ref a_wlk_order, .ref a_wlk_parents, .ref a_wlk_steps, .ref a_wlk_settledPairs, .int wlk_words, .int wlk_reached, .int wlk_doubts, .int wlk_doubtState, .int wlk_doubtChoice])), (a_tab_settled, .inl (cL, 64, .inr (.inl tab_settled))), (a_tab_nextStates, .inl (cI, 4096, .inl tab_nextStates)), (a_wlk_distances, .inl (cI, 256, .inl wlk_distances)), (a_wlk_order, .inl (cI, 256, .inl wlk_order)), (a_wlk_parents, .inl (cI, 256, .inl wlk_parents)), (a_wlk_steps, .inl (cI, 256, .inl wlk_steps)), (a_wlk_settledPairs, .inl (cL, 64, .inr (.inl wlk_settledPairs)))] sz [.ref h_wlk, .ref h_tab, .int p1, .int p2]) (va_Qv (fun (_ : Unit) => True) (fun _ t => sx_W (dC, dI) [(cI, .int), (cL, .long), (cZ, .boolean)] (va_A [(h_tab, .inr (2, [.ref a_tab_known, .ref a_tab_settled, .ref a_tab_values, .ref a_tab_nextStates])), (h_wlk, .inr (3, [.ref a_wlk_distances, .ref a_wlk_order, .ref a_wlk_parents, .ref a_wlk_steps, .ref a_wlk_settledPairs, .int wlk_words, .int wlk_reached, .int wlk_doubts, .int wlk_doubtState, .int wlk_doubtChoice])), (a_tab_settled, .inl (cL, 64, .inr (.inl tab_settled))), (a_tab_nextStates, .inl (cI, 4096, .inl tab_nextStates)), (a_wlk_distances, .inl (cI, 256, .inl wlk_distances)), (a_wlk_order, .inl (cI, 256, .inl wlk_order)), (a_wlk_parents, .inl (cI, 256, .inl wlk_parents)), (a_wlk_steps, .inl (cI, 256, .inl wlk_steps)), (a_wlk_settledPairs, .inl (cL, 64, .inr (.inl wlk_settledPairs)))] sz) [(h_tab, .inr (2, [.ref a_tab_known, .ref a_tab_settled, .ref a_tab_values, .ref a_tab_nextStates])), (h_wlk, .inr (3, [.ref a_wlk_distances, .ref a_wlk_order, .ref a_wlk_parents, .ref a_wlk_steps, .ref a_wlk_settledPairs, .int wlk_words, .int v.2.2.2.2.2.1, .int v.2.2.2.2.2.2.1, .int v.2.2.2.2.2.2.2.1, .int v.2.2.2.2.2.2.2.2])), (a_tab_settled, .inl (cL, 64, .inr (.inl tab_settled))), (a_tab_nextStates, .inl (cI, 4096, .inl tab_nextStates)), (a_wlk_distances, .inl (cI, 256, .inl v.1)), (a_wlk_order, .inl (cI, 256, .inl v.2.1)), (a_wlk_parents, .inl (cI, 256, .inl v.2.2.1)), (a_wlk_steps, .inl (cI, 256, .inl v.2.2.2.1)), (a_wlk_settledPairs, .inl (cL, 64, .inr (.inl v.2.2.2.2.1)))] t) (va_A [(h_tab, .inr (2, [.ref a_tab_known, .ref a_tab_settled, .ref a_tab_values, .ref a_tab_nextStates])), (h_wlk, .inr (3, [.ref a_wlk_distances, .ref a_wlk_order, .ref a_wlk_parents, .ref a_wlk_steps, .ref a_wlk_settledPairs, .int wlk_words, .int wlk_reached, .int wlk_doubts, .int wlk_doubtState, .int wlk_doubtChoice])), (a_tab_settled, .inl (cL, 64, .inr (.inl tab_settled))), (a_tab_nextStates, .inl (cI, 4096, .inl tab_nextStates)), (a_wlk_distances, .inl (cI, 256, .inl wlk_distances)), (a_wlk_order, .inl (cI, 256, .inl wlk_order)), (a_wlk_parents, .inl (cI, 256, .inl wlk_parents)), (a_wlk_steps, .inl (cI, 256, .inl wlk_steps)), (a_wlk_settledPairs, .inl (cL, 64, .inr (.inl wlk_settledPairs)))] sz)) 0 0 (va_A [(h_tab, .inr (2, [.ref a_tab_known, .ref a_tab_settled, .ref a_tab_values, .ref a_tab_nextStates])), (h_wlk, .inr (3, [.ref a_wlk_distances, .ref a_wlk_order, .ref a_wlk_parents, .ref a_wlk_steps, .ref a_wlk_settledPairs, .int wlk_words, .int wlk_reached, .int wlk_doubts, .int wlk_doubtState, .int wlk_doubtChoice])), (a_tab_settled, .inl (cL, 64, .inr (.inl tab_settled))), (a_tab_nextStates, .inl (cI, 4096, .inl tab_nextStates)), (a_wlk_distances, .inl (cI, 256, .inl wlk_distances)), (a_wlk_order, .inl (cI, 256, .inl wlk_order)), (a_wlk_parents, .inl (cI, 256, .inl wlk_parents)), (a_wlk_steps, .inl (cI, 256, .inl wlk_steps)), (a_wlk_settledPairs, .inl (cL, 64, .inr (.inl wlk_settledPairs)))] sz) := by
  refine Met.ofW (cc := cWlk_leave) (maxL := 6) (ret := none) (by decide) rfl ?_
  intro p e s m args below meth c s₁ B hml hv
  obtain ⟨rfl, hsz, hP, hK, hD0, hX⟩ := hv
  have hx := B.exec
  have hb := B.bytes
  have hr := B.returns
  have hts0 := atoms_spec (ws := wsWlk_leave) B.pre
  have hts : ∀ w ∈ tb, w.before _ s = true := fun w h => hts0 w (List.mem_cons_of_mem _ h)
  have hown : s.vm.findClass "StateExplorer$Walk" = some m.cls := findClass_of_methodNamed B.named
  have hlocks := B.notSynchronized
  subst hsz
  have hD := hD0.self (sz := s.heap.size)
  generalize hAe : va_A [(h_tab, .inr (2, [.ref a_tab_known, .ref a_tab_settled, .ref a_tab_values, .ref a_tab_nextStates])), (h_wlk, .inr (3, [.ref a_wlk_distances, .ref a_wlk_order, .ref a_wlk_parents, .ref a_wlk_steps, .ref a_wlk_settledPairs, .int wlk_words, .int wlk_reached, .int wlk_doubts, .int wlk_doubtState, .int wlk_doubtChoice])), (a_tab_settled, .inl (cL, 64, .inr (.inl tab_settled))), (a_tab_nextStates, .inl (cI, 4096, .inl tab_nextStates)), (a_wlk_distances, .inl (cI, 256, .inl wlk_distances)), (a_wlk_order, .inl (cI, 256, .inl wlk_order)), (a_wlk_parents, .inl (cI, 256, .inl wlk_parents)), (a_wlk_steps, .inl (cI, 256, .inl wlk_steps)), (a_wlk_settledPairs, .inl (cL, 64, .inr (.inl wlk_settledPairs)))] s.heap.size = A at hD hX ⊢
  have hA : ∀ q : Nat, s.heap.size ≤ q → A q := fun q h => by rw [← hAe]; exact Or.inr h
  have hS : va_S A s.heap s.heap [] := va_S.rf
  have hl := lv_entry ([.ref h_wlk, .ref h_tab, .int p1, .int p2]) (n := 6) (Nat.le_of_ble_eq_true rfl)
  rw [lg_entry_eq]
  generalize (lg_sl ([.ref h_wlk, .ref h_tab, .int p1, .int p2]) ++ List.replicate (6 - (lg_sl ([.ref h_wlk, .ref h_tab, .int p1, .int p2])).length) Slot.unset).toArray = ls at hl ⊢
  have hl : lv_has ls 6 [(0, .ref h_wlk), (1, .ref h_tab), (2, .int p1), (3, .int p2)] := hl
  have C0 : sx_C p s m _ meth c cWlk_leave 6 "StateExplorer$Walk" A (dC, dI) [(cI, .int), (cL, .long), (cZ, .boolean)] t1 t2 := ⟨hx, hb, hml, hown, hts, hA, hK, hlocks, hX⟩
  rw [m_Wlk_leave] at hm
  refine lv_aload_n hx hb dWlk_leave_0 rfl (lv_at hl 0 rfl) ?_
  refine va_get (D := (dC, dI)) (ci := 3) (v := .ref a_wlk_settledPairs) (C := RWlk) (T := TWlk) (N := 10) hx hb hts inWlk hown hK hP 1 rfl rfl 4 (by decide) (hts _ tw_141) (fun _ h9 => h9) rfl dWlk_leave_1 ?_
  refine lv_iload_n hx hb dWlk_leave_4 rfl (lv_at hl 2 rfl) ?_
  obtain ⟨v1, hv1, hm⟩ := sx_bind hm
  have hPc := hP.sub (ws' := []) [] rfl
  have hDc := hD.sub (ws' := []) [] (by decide) rfl
  have hFc := va_free (wc := []) hD hS hA [] rfl
  refine sx_stI (va_runSN (As := [.int p1]) (rest := [.ref a_wlk_settledPairs]) ⟨hx, hb, hml, hown, hts⟩ (k_Exp_wordOf l dC dI cI cL cZ t1 t2  _ p1 v1 hv1) ⟨va_cnB 1 hts (sx_gC tcExp_wordOf) rfl rfl rfl (hX.1 ("StateExplorer$Walk", 68, yExp_wordOf, "StateExplorer") sx_n7) (hts _ tw_36) (by decide +kernel) ⟨Nat.le_of_ble_eq_true rfl, Nat.le_of_ble_eq_true rfl⟩, hts _ tw_234, trivial⟩ (sx_pS hK hX hS hPc hDc hFc) rfl rfl hl.1 rfl (lv_room (Nat.le_of_ble_eq_true rfl)) dWlk_leave_5 ⟨Nat.le_of_ble_eq_true rfl, Nat.le_of_ble_eq_true rfl⟩) ?_
  refine lv_dup2_11 hx hb dWlk_leave_8 rfl rfl ?_
  obtain ⟨g3, hm⟩ := gd_el hm
  refine va_lald hx hb hK hP 8 1 rfl rfl g3 dWlk_leave_9 ?_
  refine lv_aload_n hx hb dWlk_leave_10 rfl (lv_at hl 1 rfl) ?_
  refine lv_iload_n hx hb dWlk_leave_11 rfl (lv_at hl 2 rfl) ?_
  obtain ⟨v4, hv4, hm⟩ := sx_bind hm
  have hPc := hP.sub (ws' := [(h_tab, .inr (2, [.ref a_tab_known, .ref a_tab_settled, .ref a_tab_values, .ref a_tab_nextStates])), (a_tab_settled, .inl (cL, 64, .inr (.inl tab_settled)))]) [0, 2] rfl
  have hDc := hD.sub (ws' := [(h_tab, .inr (2, [.ref a_tab_known, .ref a_tab_settled, .ref a_tab_values, .ref a_tab_nextStates])), (a_tab_settled, .inl (cL, 64, .inr (.inl tab_settled)))]) [0, 2] (by decide) rfl
  have hFc := va_free (wc := [(h_tab, .inr (2, [.ref a_tab_known, .ref a_tab_settled, .ref a_tab_values, .ref a_tab_nextStates])), (a_tab_settled, .inl (cL, 64, .inr (.inl tab_settled)))]) hD hS hA [0, 2] rfl
  refine sx_stI (va_runV (As := [.int p1]) (rest := [.long (wlk_settledPairs v1.toNatClampNeg), .int v1, .ref a_wlk_settledPairs]) ⟨hx, hb, hml, hown, hts⟩ (k_Tab_settledIn l dC dI cI cL cZ t1 t2 h_tab a_tab_known a_tab_settled a_tab_values a_tab_nextStates tab_settled _ p1 v4 hv4) (cwV 1 hts (sx_gV tw_301 tw_302 tw_303 tw_38 tcTab_settledIn) rfl rfl rfl (by decide +kernel) ⟨Nat.le_of_ble_eq_true rfl, Nat.le_of_ble_eq_true rfl⟩) (sx_pV hK hX hS hPc hDc hFc (va_recv hK hPc (ci := 2) (q0 := 0) rfl rfl)) rfl rfl hl.1 rfl (lv_room (Nat.le_of_ble_eq_true rfl)) dWlk_leave_12 ⟨Nat.le_of_ble_eq_true rfl, Nat.le_of_ble_eq_true rfl⟩) ?_
  refine lv_i2l hx hb dWlk_leave_15 rfl ?_
  refine lv_iload_n hx hb dWlk_leave_16 rfl (lv_at hl 2 rfl) ?_
  obtain ⟨v6, hv6, hm⟩ := sx_bind hm
  have hPc := hP.sub (ws' := []) [] rfl
  have hDc := hD.sub (ws' := []) [] (by decide) rfl
  have hFc := va_free (wc := []) hD hS hA [] rfl
  refine sx_stI (va_runSN (As := [.int p1]) (rest := [.long v4.toInt64, .long (wlk_settledPairs v1.toNatClampNeg), .int v1, .ref a_wlk_settledPairs]) ⟨hx, hb, hml, hown, hts⟩ (k_Exp_shiftOf l dC dI cI cL cZ t1 t2  _ p1 v6 hv6) ⟨va_cnB 1 hts (sx_gC tcExp_shiftOf) rfl rfl rfl (hX.1 ("StateExplorer$Walk", 77, yExp_shiftOf, "StateExplorer") sx_n8) (hts _ tw_36) (by decide +kernel) ⟨Nat.le_of_ble_eq_true rfl, Nat.le_of_ble_eq_true rfl⟩, hts _ tw_279, trivial⟩ (sx_pS hK hX hS hPc hDc hFc) rfl rfl hl.1 rfl (lv_room (Nat.le_of_ble_eq_true rfl)) dWlk_leave_17 ⟨Nat.le_of_ble_eq_true rfl, Nat.le_of_ble_eq_true rfl⟩) ?_
  refine lv_lshl hx hb dWlk_leave_20 rfl ?_
  refine lv_lor hx hb dWlk_leave_21 ?_
  obtain ⟨g8, hm⟩ := gd_el hm
  refine va_last hx hb hK hP hD hS 8 1 rfl rfl g8 dWlk_leave_22 (fun H locs hP hD hS => ?_)
  have hP : va_P (dC, dI) vwCl [(h_tab, .inr (2, [.ref a_tab_known, .ref a_tab_settled, .ref a_tab_values, .ref a_tab_nextStates])), (h_wlk, .inr (3, [.ref a_wlk_distances, .ref a_wlk_order, .ref a_wlk_parents, .ref a_wlk_steps, .ref a_wlk_settledPairs, .int wlk_words, .int wlk_reached, .int wlk_doubts, .int wlk_doubtState, .int wlk_doubtChoice])), (a_tab_settled, .inl (cL, 64, .inr (.inl tab_settled))), (a_tab_nextStates, .inl (cI, 4096, .inl tab_nextStates)), (a_wlk_distances, .inl (cI, 256, .inl wlk_distances)), (a_wlk_order, .inl (cI, 256, .inl wlk_order)), (a_wlk_parents, .inl (cI, 256, .inl wlk_parents)), (a_wlk_steps, .inl (cI, 256, .inl wlk_steps)), (a_wlk_settledPairs, .inl (cL, 64, .inr (.inl (vp_updL wlk_settledPairs v1.toNatClampNeg ((wlk_settledPairs v1.toNatClampNeg) ||| (v4.toInt64 <<< (v6.toInt64 &&& 63)))))))] H := hP
  have hD : va_D A [(h_tab, .inr (2, [.ref a_tab_known, .ref a_tab_settled, .ref a_tab_values, .ref a_tab_nextStates])), (h_wlk, .inr (3, [.ref a_wlk_distances, .ref a_wlk_order, .ref a_wlk_parents, .ref a_wlk_steps, .ref a_wlk_settledPairs, .int wlk_words, .int wlk_reached, .int wlk_doubts, .int wlk_doubtState, .int wlk_doubtChoice])), (a_tab_settled, .inl (cL, 64, .inr (.inl tab_settled))), (a_tab_nextStates, .inl (cI, 4096, .inl tab_nextStates)), (a_wlk_distances, .inl (cI, 256, .inl wlk_distances)), (a_wlk_order, .inl (cI, 256, .inl wlk_order)), (a_wlk_parents, .inl (cI, 256, .inl wlk_parents)), (a_wlk_steps, .inl (cI, 256, .inl wlk_steps)), (a_wlk_settledPairs, .inl (cL, 64, .inr (.inl (vp_updL wlk_settledPairs v1.toNatClampNeg ((wlk_settledPairs v1.toNatClampNeg) ||| (v4.toInt64 <<< (v6.toInt64 &&& 63)))))))] := hD
  refine lv_iconst (v := (0 : Int32)) hx hb dWlk_leave_23 (by decide) ?_
  refine lv_istore (lv' := [(4, .int (0 : Int32)), (0, .ref h_wlk), (1, .ref h_tab), (2, .int p1), (3, .int p2)]) hx hb dWlk_leave_24 hl (by decide) rfl (fun ls hl => ?_)
  obtain ⟨v20, hv20, hm⟩ := sx_bind hm
  refine w_Wlk_leave_26 C0 h_tab a_tab_known a_tab_settled a_tab_values a_tab_nextStates h_wlk a_wlk_distances a_wlk_order a_wlk_parents a_wlk_steps a_wlk_settledPairs tab_settled tab_nextStates (vp_updL wlk_settledPairs v1.toNatClampNeg ((wlk_settledPairs v1.toNatClampNeg) ||| (v4.toInt64 <<< (v6.toInt64 &&& 63)))) wlk_words p1 p2 _ (0 : Int32) wlk_distances wlk_order wlk_parents wlk_steps wlk_reached wlk_doubts wlk_doubtState wlk_doubtChoice v20 hv20 _ _ _ hP hD hS (lv_sub hl [1, 2, 3, 4, 0] rfl) ?_
  intro H locs ls hP hD hS hl
  obtain rfl := Option.some.inj hm
  exact W.vret hx hb hr (fun t ht hW => ⟨⟨(), rfl, trivial, sx_Wi hP hK hD ht hW.alike⟩, hS.F ht⟩) hS.2.2 dWlk_leave_91
noncomputable def L_Wlk_run_21 (tab_settled : Nat → Int64) (tab_nextStates : Nat → Int32) (x3 : Int32) : Nat → Int32 → (Nat → Int32) → (Nat → Int32) → (Nat → Int32) → (Nat → Int32) → (Nat → Int64) → Int32 → Int32 → Int32 → Int32 → Option ((Nat → Int32) × (Nat → Int32) × (Nat → Int32) × (Nat → Int32) × (Nat → Int64) × Int32 × Int32 × Int32 × Int32)
  | 0, _, _, _, _, _, _, _, _, _, _ => none
  | n + 1, x4, wlk_distances, wlk_order, wlk_parents, wlk_steps, wlk_settledPairs, wlk_reached, wlk_doubts, wlk_doubtState, wlk_doubtChoice => (if wlk_reached ≤ x4 then some (wlk_distances, wlk_order, wlk_parents, wlk_steps, wlk_settledPairs, wlk_reached, wlk_doubts, wlk_doubtState, wlk_doubtChoice) else (if (256 : Int32) ≤ x4 then some (wlk_distances, wlk_order, wlk_parents, wlk_steps, wlk_settledPairs, wlk_reached, wlk_doubts, wlk_doubtState, wlk_doubtChoice) else gd (vp_in x4 256) ((m_Wlk_leave tab_settled tab_nextStates wlk_distances wlk_order wlk_parents wlk_steps wlk_settledPairs wlk_reached wlk_doubts wlk_doubtState wlk_doubtChoice (wlk_order x4.toNatClampNeg) x3).bind (fun v10 => (L_Wlk_run_21 tab_settled tab_nextStates x3 n (x4 + (1 : Int32)) v10.1 v10.2.1 v10.2.2.1 v10.2.2.2.1 v10.2.2.2.2.1 v10.2.2.2.2.2.1 v10.2.2.2.2.2.2.1 v10.2.2.2.2.2.2.2.1 v10.2.2.2.2.2.2.2.2)))))
noncomputable def m_Wlk_run (net_inputTotal net_latchTotal : Int32) (tab_settled : Nat → Int64) (tab_nextStates wlk_distances wlk_order wlk_parents wlk_steps : Nat → Int32) (wlk_settledPairs : Nat → Int64) (wlk_words wlk_reached wlk_doubts wlk_doubtState wlk_doubtChoice : Int32)  : Option ((Nat → Int32) × (Nat → Int32) × (Nat → Int32) × (Nat → Int32) × (Nat → Int64) × Int32 × Int32 × Int32 × Int32 × Int32) := (m_Wlk_forget net_latchTotal wlk_distances wlk_settledPairs wlk_words wlk_reached wlk_doubts wlk_doubtState wlk_doubtChoice).bind (fun v1 => (m_Wlk_reach v1.1 wlk_order wlk_parents wlk_steps v1.2.2.2.1 (0 : Int32) (0 : Int32) (-1 : Int32) (-1 : Int32)).bind (fun v3 => (m_Net_choiceTotal net_inputTotal).bind (fun v5 => ((L_Wlk_run_21 tab_settled tab_nextStates v5 fu (0 : Int32) v3.1 v3.2.1 v3.2.2.1 v3.2.2.2.1 v1.2.1 v3.2.2.2.2 v1.2.2.2.2.1 v1.2.2.2.2.2.1 v1.2.2.2.2.2.2).bind (fun v12 => some (v12.1, v12.2.1, v12.2.2.1, v12.2.2.2.1, v12.2.2.2.2.1, v1.2.2.1, v12.2.2.2.2.2.1, v12.2.2.2.2.2.2.1, v12.2.2.2.2.2.2.2.1, v12.2.2.2.2.2.2.2.2))))))
def rm_Wlk_run : Room := { frames := 3, cells := 0, slots := 0, locals := 66 }
set_option maxHeartbeats 4000000 in
set_option maxRecDepth 100000 in
theorem w_Wlk_run_21 {p : Program} {l : Launch} {e : Env} {s : State} {m : MethodId} {args : Array Value} {below : List Frame} {meth : Method} {c : Code} {dC : Nat → ClassId} {dI : Nat → Nat → Nat} {cI cL cZ : ClassId} {A : Nat → Prop} {Q : State → Prop} {t1 t2 : Nat} (C0 : sx_C p s m args meth c cWlk_run 5 "StateExplorer$Walk" A (dC, dI) [(cI, .int), (cL, .long), (cZ, .boolean)] t1 t2) (h_net a_net_sorts a_net_ranks a_net_starts a_net_literals a_net_nextLiterals a_net_outputs h_tab a_tab_known a_tab_settled a_tab_values a_tab_nextStates h_wlk a_wlk_distances a_wlk_order a_wlk_parents a_wlk_steps a_wlk_settledPairs : Nat) (net_gateTotal net_inputTotal net_latchTotal net_outputTotal : Int32) (tab_settled : Nat → Int64) (tab_nextStates : Nat → Int32) (wlk_words : Int32) (x3 : Int32) :
    ∀ (n : Nat) (x4 : Int32) (wlk_distances wlk_order wlk_parents wlk_steps : Nat → Int32) (wlk_settledPairs : Nat → Int64) (wlk_reached wlk_doubts wlk_doubtState wlk_doubtChoice : Int32) (r : (Nat → Int32) × (Nat → Int32) × (Nat → Int32) × (Nat → Int32) × (Nat → Int64) × Int32 × Int32 × Int32 × Int32), L_Wlk_run_21 tab_settled tab_nextStates x3 n x4 wlk_distances wlk_order wlk_parents wlk_steps wlk_settledPairs wlk_reached wlk_doubts wlk_doubtState wlk_doubtChoice = some r → ∀ (H : Heap) (locs : List Loc) (ls : Array Slot), va_P (dC, dI) vwCl [(h_net, .inr (0, [.ref a_net_sorts, .ref a_net_ranks, .ref a_net_starts, .ref a_net_literals, .ref a_net_nextLiterals, .ref a_net_outputs, .int net_gateTotal, .int net_inputTotal, .int net_latchTotal, .int net_outputTotal])), (h_tab, .inr (2, [.ref a_tab_known, .ref a_tab_settled, .ref a_tab_values, .ref a_tab_nextStates])), (h_wlk, .inr (3, [.ref a_wlk_distances, .ref a_wlk_order, .ref a_wlk_parents, .ref a_wlk_steps, .ref a_wlk_settledPairs, .int wlk_words, .int wlk_reached, .int wlk_doubts, .int wlk_doubtState, .int wlk_doubtChoice])), (a_tab_settled, .inl (cL, 64, .inr (.inl tab_settled))), (a_tab_nextStates, .inl (cI, 4096, .inl tab_nextStates)), (a_wlk_distances, .inl (cI, 256, .inl wlk_distances)), (a_wlk_order, .inl (cI, 256, .inl wlk_order)), (a_wlk_parents, .inl (cI, 256, .inl wlk_parents)), (a_wlk_steps, .inl (cI, 256, .inl wlk_steps)), (a_wlk_settledPairs, .inl (cL, 64, .inr (.inl wlk_settledPairs)))] H → va_D A [(h_net, .inr (0, [.ref a_net_sorts, .ref a_net_ranks, .ref a_net_starts, .ref a_net_literals, .ref a_net_nextLiterals, .ref a_net_outputs, .int net_gateTotal, .int net_inputTotal, .int net_latchTotal, .int net_outputTotal])), (h_tab, .inr (2, [.ref a_tab_known, .ref a_tab_settled, .ref a_tab_values, .ref a_tab_nextStates])), (h_wlk, .inr (3, [.ref a_wlk_distances, .ref a_wlk_order, .ref a_wlk_parents, .ref a_wlk_steps, .ref a_wlk_settledPairs, .int wlk_words, .int wlk_reached, .int wlk_doubts, .int wlk_doubtState, .int wlk_doubtChoice])), (a_tab_settled, .inl (cL, 64, .inr (.inl tab_settled))), (a_tab_nextStates, .inl (cI, 4096, .inl tab_nextStates)), (a_wlk_distances, .inl (cI, 256, .inl wlk_distances)), (a_wlk_order, .inl (cI, 256, .inl wlk_order)), (a_wlk_parents, .inl (cI, 256, .inl wlk_parents)), (a_wlk_steps, .inl (cI, 256, .inl wlk_steps)), (a_wlk_settledPairs, .inl (cL, 64, .inr (.inl wlk_settledPairs)))] → va_S A s.heap H locs → lv_has ls 5 [(0, .ref h_wlk), (2, .ref h_tab), (3, .int x3), (4, .int x4)] →
    (∀ (H : Heap) (locs : List Loc) (ls : Array Slot), va_P (dC, dI) vwCl [(h_net, .inr (0, [.ref a_net_sorts, .ref a_net_ranks, .ref a_net_starts, .ref a_net_literals, .ref a_net_nextLiterals, .ref a_net_outputs, .int net_gateTotal, .int net_inputTotal, .int net_latchTotal, .int net_outputTotal])), (h_tab, .inr (2, [.ref a_tab_known, .ref a_tab_settled, .ref a_tab_values, .ref a_tab_nextStates])), (h_wlk, .inr (3, [.ref a_wlk_distances, .ref a_wlk_order, .ref a_wlk_parents, .ref a_wlk_steps, .ref a_wlk_settledPairs, .int wlk_words, .int r.2.2.2.2.2.1, .int r.2.2.2.2.2.2.1, .int r.2.2.2.2.2.2.2.1, .int r.2.2.2.2.2.2.2.2])), (a_tab_settled, .inl (cL, 64, .inr (.inl tab_settled))), (a_tab_nextStates, .inl (cI, 4096, .inl tab_nextStates)), (a_wlk_distances, .inl (cI, 256, .inl r.1)), (a_wlk_order, .inl (cI, 256, .inl r.2.1)), (a_wlk_parents, .inl (cI, 256, .inl r.2.2.1)), (a_wlk_steps, .inl (cI, 256, .inl r.2.2.2.1)), (a_wlk_settledPairs, .inl (cL, 64, .inr (.inl r.2.2.2.2.1)))] H → va_D A [(h_net, .inr (0, [.ref a_net_sorts, .ref a_net_ranks, .ref a_net_starts, .ref a_net_literals, .ref a_net_nextLiterals, .ref a_net_outputs, .int net_gateTotal, .int net_inputTotal, .int net_latchTotal, .int net_outputTotal])), (h_tab, .inr (2, [.ref a_tab_known, .ref a_tab_settled, .ref a_tab_values, .ref a_tab_nextStates])), (h_wlk, .inr (3, [.ref a_wlk_distances, .ref a_wlk_order, .ref a_wlk_parents, .ref a_wlk_steps, .ref a_wlk_settledPairs, .int wlk_words, .int r.2.2.2.2.2.1, .int r.2.2.2.2.2.2.1, .int r.2.2.2.2.2.2.2.1, .int r.2.2.2.2.2.2.2.2])), (a_tab_settled, .inl (cL, 64, .inr (.inl tab_settled))), (a_tab_nextStates, .inl (cI, 4096, .inl tab_nextStates)), (a_wlk_distances, .inl (cI, 256, .inl r.1)), (a_wlk_order, .inl (cI, 256, .inl r.2.1)), (a_wlk_parents, .inl (cI, 256, .inl r.2.2.1)), (a_wlk_steps, .inl (cI, 256, .inl r.2.2.2.1)), (a_wlk_settledPairs, .inl (cL, 64, .inr (.inl r.2.2.2.2.1)))] → va_S A s.heap H locs → lv_has ls 5 [] → W p l e (headSpec wsWlk_run rm_Wlk_run).room s m args below meth c H locs 0 0 Q (F0 m 57 ls [])) →
    W p l e (headSpec wsWlk_run rm_Wlk_run).room s m args below meth c H locs 0 0 Q (F0 m 21 ls []) := by
  obtain ⟨hx, hb, hml, hown, hts, hA, hK, hlocks, hX⟩ := id C0
  intro n
  induction n with
  | zero => intro x4 wlk_distances wlk_order wlk_parents wlk_steps wlk_settledPairs wlk_reached wlk_doubts wlk_doubtState wlk_doubtChoice r hm; rw [L_Wlk_run_21] at hm; cases hm
  | succ n ih =>
    intro x4 wlk_distances wlk_order wlk_parents wlk_steps wlk_settledPairs wlk_reached wlk_doubts wlk_doubtState wlk_doubtChoice r hm H locs ls hP hD hS hl k1
    rw [L_Wlk_run_21] at hm
    refine lv_iload hx hb dWlk_run_21 (lv_at hl 3 rfl) ?_
    refine lv_aload_n hx hb dWlk_run_23 rfl (lv_at hl 0 rfl) ?_
    refine va_get (D := (dC, dI)) (ci := 3) (v := .int wlk_reached) (C := RWlk) (T := TWlk) (N := 10) hx hb hts inWlk hown hK hP 2 rfl rfl 6 (by decide) (hts _ tw_143) (fun _ h9 => h9) rfl dWlk_run_24 ?_
    refine lv_icmp_ge (tgt := 57) hx hb dWlk_run_27 (by decide) (fun c7 => ?_) (fun c7 => ?_)
    · have hm := sx_pos c7 hm
      obtain rfl := Option.some.inj hm
      exact k1 _ _ _ hP hD hS (lv_sub hl [] rfl)
    · have hm := sx_neg c7 hm
      refine lv_iload hx hb dWlk_run_30 (lv_at hl 3 rfl) ?_
      refine lv_sipush (v := (256 : Int32)) hx hb dWlk_run_32 (by decide) ?_
      refine lv_icmp_ge (tgt := 57) hx hb dWlk_run_35 (by decide) (fun c8 => ?_) (fun c8 => ?_)
      · have hm := sx_pos c8 hm
        obtain rfl := Option.some.inj hm
        exact k1 _ _ _ hP hD hS (lv_sub hl [] rfl)
      · have hm := sx_neg c8 hm
        refine lv_aload_n hx hb dWlk_run_38 rfl (lv_at hl 0 rfl) ?_
        refine lv_aload_n hx hb dWlk_run_39 rfl (lv_at hl 1 rfl) ?_
        refine lv_aload_n hx hb dWlk_run_40 rfl (lv_at hl 0 rfl) ?_
        refine va_get (D := (dC, dI)) (ci := 3) (v := .ref a_wlk_order) (C := RWlk) (T := TWlk) (N := 10) hx hb hts inWlk hown hK hP 2 rfl rfl 1 (by decide) (hts _ tw_138) (fun _ h9 => h9) rfl dWlk_run_41 ?_
        refine lv_iload hx hb dWlk_run_44 (lv_at hl 3 rfl) ?_
        obtain ⟨g9, hm⟩ := gd_el hm
        refine va_iald hx hb hK hP 6 0 rfl rfl g9 dWlk_run_46 ?_
        refine lv_iload_n hx hb dWlk_run_47 rfl (lv_at hl 2 rfl) ?_
        obtain ⟨v10, hv10, hm⟩ := sx_bind hm
        have hPc := hP.sub (ws' := [(h_tab, .inr (2, [.ref a_tab_known, .ref a_tab_settled, .ref a_tab_values, .ref a_tab_nextStates])), (h_wlk, .inr (3, [.ref a_wlk_distances, .ref a_wlk_order, .ref a_wlk_parents, .ref a_wlk_steps, .ref a_wlk_settledPairs, .int wlk_words, .int wlk_reached, .int wlk_doubts, .int wlk_doubtState, .int wlk_doubtChoice])), (a_tab_settled, .inl (cL, 64, .inr (.inl tab_settled))), (a_tab_nextStates, .inl (cI, 4096, .inl tab_nextStates)), (a_wlk_distances, .inl (cI, 256, .inl wlk_distances)), (a_wlk_order, .inl (cI, 256, .inl wlk_order)), (a_wlk_parents, .inl (cI, 256, .inl wlk_parents)), (a_wlk_steps, .inl (cI, 256, .inl wlk_steps)), (a_wlk_settledPairs, .inl (cL, 64, .inr (.inl wlk_settledPairs)))]) [1, 2, 3, 4, 5, 6, 7, 8, 9] rfl
        have hDc := hD.sub (ws' := [(h_tab, .inr (2, [.ref a_tab_known, .ref a_tab_settled, .ref a_tab_values, .ref a_tab_nextStates])), (h_wlk, .inr (3, [.ref a_wlk_distances, .ref a_wlk_order, .ref a_wlk_parents, .ref a_wlk_steps, .ref a_wlk_settledPairs, .int wlk_words, .int wlk_reached, .int wlk_doubts, .int wlk_doubtState, .int wlk_doubtChoice])), (a_tab_settled, .inl (cL, 64, .inr (.inl tab_settled))), (a_tab_nextStates, .inl (cI, 4096, .inl tab_nextStates)), (a_wlk_distances, .inl (cI, 256, .inl wlk_distances)), (a_wlk_order, .inl (cI, 256, .inl wlk_order)), (a_wlk_parents, .inl (cI, 256, .inl wlk_parents)), (a_wlk_steps, .inl (cI, 256, .inl wlk_steps)), (a_wlk_settledPairs, .inl (cL, 64, .inr (.inl wlk_settledPairs)))]) [1, 2, 3, 4, 5, 6, 7, 8, 9] (by decide) rfl
        have hFc := va_free (wc := [(h_tab, .inr (2, [.ref a_tab_known, .ref a_tab_settled, .ref a_tab_values, .ref a_tab_nextStates])), (h_wlk, .inr (3, [.ref a_wlk_distances, .ref a_wlk_order, .ref a_wlk_parents, .ref a_wlk_steps, .ref a_wlk_settledPairs, .int wlk_words, .int wlk_reached, .int wlk_doubts, .int wlk_doubtState, .int wlk_doubtChoice])), (a_tab_settled, .inl (cL, 64, .inr (.inl tab_settled))), (a_tab_nextStates, .inl (cI, 4096, .inl tab_nextStates)), (a_wlk_distances, .inl (cI, 256, .inl wlk_distances)), (a_wlk_order, .inl (cI, 256, .inl wlk_order)), (a_wlk_parents, .inl (cI, 256, .inl wlk_parents)), (a_wlk_steps, .inl (cI, 256, .inl wlk_steps)), (a_wlk_settledPairs, .inl (cL, 64, .inr (.inl wlk_settledPairs)))]) hD hS hA [1, 2, 3, 4, 5, 6, 7, 8, 9] rfl
        refine va_callv (va_runV (As := [.ref h_tab, .int (wlk_order x4.toNatClampNeg), .int x3]) (rest := []) ⟨hx, hb, hml, hown, hts⟩ (k_Wlk_leave l dC dI cI cL cZ t1 t2 h_tab a_tab_known a_tab_settled a_tab_values a_tab_nextStates h_wlk a_wlk_distances a_wlk_order a_wlk_parents a_wlk_steps a_wlk_settledPairs tab_settled tab_nextStates wlk_distances wlk_order wlk_parents wlk_steps wlk_settledPairs wlk_words wlk_reached wlk_doubts wlk_doubtState wlk_doubtChoice _ (wlk_order x4.toNatClampNeg) x3 v10 hv10) (cwV 3 hts (sx_gV tw_296 tw_298 tw_9 tw_39 tcWlk_leave) rfl rfl rfl (by decide +kernel) ⟨Nat.le_of_ble_eq_true rfl, Nat.le_of_ble_eq_true rfl⟩) (sx_pV hK hX hS hPc hDc hFc (va_recv hK hPc (ci := 3) (q0 := 1) rfl rfl)) rfl rfl hl.1 rfl (lv_room (Nat.le_of_ble_eq_true rfl)) dWlk_run_48 ⟨Nat.le_of_ble_eq_true rfl, Nat.le_of_ble_eq_true rfl⟩) hS (fun q _ h => hFc q h) hFc (fun u_ t_ H locs ht hvm hw hB hz1 hk1 hS => ?_)
        obtain ⟨hP1, -, hD1⟩ := hB
        rw [ht] at hP1
        obtain ⟨hP, hD⟩ := va_join (wr := [(h_net, .inr (0, [.ref a_net_sorts, .ref a_net_ranks, .ref a_net_starts, .ref a_net_literals, .ref a_net_nextLiterals, .ref a_net_outputs, .int net_gateTotal, .int net_inputTotal, .int net_latchTotal, .int net_outputTotal]))]) (w1 := [(h_tab, .inr (2, [.ref a_tab_known, .ref a_tab_settled, .ref a_tab_values, .ref a_tab_nextStates])), (h_wlk, .inr (3, [.ref a_wlk_distances, .ref a_wlk_order, .ref a_wlk_parents, .ref a_wlk_steps, .ref a_wlk_settledPairs, .int wlk_words, .int v10.2.2.2.2.2.1, .int v10.2.2.2.2.2.2.1, .int v10.2.2.2.2.2.2.2.1, .int v10.2.2.2.2.2.2.2.2])), (a_tab_settled, .inl (cL, 64, .inr (.inl tab_settled))), (a_tab_nextStates, .inl (cI, 4096, .inl tab_nextStates)), (a_wlk_distances, .inl (cI, 256, .inl v10.1)), (a_wlk_order, .inl (cI, 256, .inl v10.2.1)), (a_wlk_parents, .inl (cI, 256, .inl v10.2.2.1)), (a_wlk_steps, .inl (cI, 256, .inl v10.2.2.2.1)), (a_wlk_settledPairs, .inl (cL, 64, .inr (.inl v10.2.2.2.2.1)))]) hP hD [1, 2, 3, 4, 5, 6, 7, 8, 9] [0] rfl rfl (by decide) (by decide) hk1 hFc hP1 hD1
        have hP : va_P (dC, dI) vwCl [(h_net, .inr (0, [.ref a_net_sorts, .ref a_net_ranks, .ref a_net_starts, .ref a_net_literals, .ref a_net_nextLiterals, .ref a_net_outputs, .int net_gateTotal, .int net_inputTotal, .int net_latchTotal, .int net_outputTotal])), (h_tab, .inr (2, [.ref a_tab_known, .ref a_tab_settled, .ref a_tab_values, .ref a_tab_nextStates])), (h_wlk, .inr (3, [.ref a_wlk_distances, .ref a_wlk_order, .ref a_wlk_parents, .ref a_wlk_steps, .ref a_wlk_settledPairs, .int wlk_words, .int v10.2.2.2.2.2.1, .int v10.2.2.2.2.2.2.1, .int v10.2.2.2.2.2.2.2.1, .int v10.2.2.2.2.2.2.2.2])), (a_tab_settled, .inl (cL, 64, .inr (.inl tab_settled))), (a_tab_nextStates, .inl (cI, 4096, .inl tab_nextStates)), (a_wlk_distances, .inl (cI, 256, .inl v10.1)), (a_wlk_order, .inl (cI, 256, .inl v10.2.1)), (a_wlk_parents, .inl (cI, 256, .inl v10.2.2.1)), (a_wlk_steps, .inl (cI, 256, .inl v10.2.2.2.1)), (a_wlk_settledPairs, .inl (cL, 64, .inr (.inl v10.2.2.2.2.1)))] H := hP
        have hD : va_D A [(h_net, .inr (0, [.ref a_net_sorts, .ref a_net_ranks, .ref a_net_starts, .ref a_net_literals, .ref a_net_nextLiterals, .ref a_net_outputs, .int net_gateTotal, .int net_inputTotal, .int net_latchTotal, .int net_outputTotal])), (h_tab, .inr (2, [.ref a_tab_known, .ref a_tab_settled, .ref a_tab_values, .ref a_tab_nextStates])), (h_wlk, .inr (3, [.ref a_wlk_distances, .ref a_wlk_order, .ref a_wlk_parents, .ref a_wlk_steps, .ref a_wlk_settledPairs, .int wlk_words, .int v10.2.2.2.2.2.1, .int v10.2.2.2.2.2.2.1, .int v10.2.2.2.2.2.2.2.1, .int v10.2.2.2.2.2.2.2.2])), (a_tab_settled, .inl (cL, 64, .inr (.inl tab_settled))), (a_tab_nextStates, .inl (cI, 4096, .inl tab_nextStates)), (a_wlk_distances, .inl (cI, 256, .inl v10.1)), (a_wlk_order, .inl (cI, 256, .inl v10.2.1)), (a_wlk_parents, .inl (cI, 256, .inl v10.2.2.1)), (a_wlk_steps, .inl (cI, 256, .inl v10.2.2.2.1)), (a_wlk_settledPairs, .inl (cL, 64, .inr (.inl v10.2.2.2.2.1)))] := hD
        refine lv_iinc (v := x4 + (1 : Int32)) (lv' := [(4, .int (x4 + (1 : Int32))), (0, .ref h_wlk), (2, .ref h_tab), (3, .int x3)]) hx hb dWlk_run_51 hl (k := 3) rfl rfl (by decide) rfl (fun ls hl => ?_)
        refine lv_goto (tgt := 21) hx hb dWlk_run_54 (by decide) ?_
        exact ih (x4 + (1 : Int32)) v10.1 v10.2.1 v10.2.2.1 v10.2.2.2.1 v10.2.2.2.2.1 v10.2.2.2.2.2.1 v10.2.2.2.2.2.2.1 v10.2.2.2.2.2.2.2.1 v10.2.2.2.2.2.2.2.2 r hm _ _ _ hP hD hS (lv_sub hl [1, 2, 3, 0] rfl) k1
set_option maxHeartbeats 4000000 in
set_option maxRecDepth 100000 in
theorem k_Wlk_run (l : Launch) (dC : Nat → ClassId) (dI : Nat → Nat → Nat) (cI cL cZ : ClassId) (t1 t2 : Nat) (h_net a_net_sorts a_net_ranks a_net_starts a_net_literals a_net_nextLiterals a_net_outputs h_tab a_tab_known a_tab_settled a_tab_values a_tab_nextStates h_wlk a_wlk_distances a_wlk_order a_wlk_parents a_wlk_steps a_wlk_settledPairs : Nat) (net_gateTotal net_inputTotal net_latchTotal net_outputTotal : Int32) (tab_settled : Nat → Int64) (tab_nextStates wlk_distances wlk_order wlk_parents wlk_steps : Nat → Int32) (wlk_settledPairs : Nat → Int64) (wlk_words wlk_reached wlk_doubts wlk_doubtState wlk_doubtChoice : Int32) (sz : Nat)  (v : (Nat → Int32) × (Nat → Int32) × (Nat → Int32) × (Nat → Int32) × (Nat → Int64) × Int32 × Int32 × Int32 × Int32 × Int32) (hm : m_Wlk_run net_inputTotal net_latchTotal tab_settled tab_nextStates wlk_distances wlk_order wlk_parents wlk_steps wlk_settledPairs wlk_words wlk_reached wlk_doubts wlk_doubtState wlk_doubtChoice = some v) : Met l yWlk_run wsWlk_run rm_Wlk_run (sx_Pc (dC, dI) [(cI, .int), (cL, .long), (cZ, .boolean)] t1 t2 [(h_net, .inr (0, [.ref a_net_sorts, .ref a_net_ranks, .ref a_net_starts, .ref a_net_literals, .ref a_net_nextLiterals, .ref a_net_outputs, .int net_gateTotal, .int net_inputTotal, .int net_latchTotal, .int net_outputTotal])), (h_tab, .inr (2, [.ref a_tab_known, .ref a_tab_settled, .ref a_tab_values, .ref a_tab_nextStates])), (h_wlk, .inr (3, [.ref a_wlk_distances, .ref a_wlk_order, .ref a_wlk_parents, .ref a_wlk_steps, .ref a_wlk_settledPairs, .int wlk_words, .int wlk_reached, .int wlk_doubts, .int wlk_doubtState, .int wlk_doubtChoice])), (a_tab_settled, .inl (cL, 64, .inr (.inl tab_settled))), (a_tab_nextStates, .inl (cI, 4096, .inl tab_nextStates)), (a_wlk_distances, .inl (cI, 256, .inl wlk_distances)), (a_wlk_order, .inl (cI, 256, .inl wlk_order)), (a_wlk_parents, .inl (cI, 256, .inl wlk_parents)), (a_wlk_steps, .inl (cI, 256, .inl wlk_steps)), (a_wlk_settledPairs, .inl (cL, 64, .inr (.inl wlk_settledPairs)))] sz [.ref h_wlk, .ref h_net, .ref h_tab]) (va_Qv (fun (_ : Unit) => True) (fun _ t => sx_W (dC, dI) [(cI, .int), (cL, .long), (cZ, .boolean)] (va_A [(h_net, .inr (0, [.ref a_net_sorts, .ref a_net_ranks, .ref a_net_starts, .ref a_net_literals, .ref a_net_nextLiterals, .ref a_net_outputs, .int net_gateTotal, .int net_inputTotal, .int net_latchTotal, .int net_outputTotal])), (h_tab, .inr (2, [.ref a_tab_known, .ref a_tab_settled, .ref a_tab_values, .ref a_tab_nextStates])), (h_wlk, .inr (3, [.ref a_wlk_distances, .ref a_wlk_order, .ref a_wlk_parents, .ref a_wlk_steps, .ref a_wlk_settledPairs, .int wlk_words, .int wlk_reached, .int wlk_doubts, .int wlk_doubtState, .int wlk_doubtChoice])), (a_tab_settled, .inl (cL, 64, .inr (.inl tab_settled))), (a_tab_nextStates, .inl (cI, 4096, .inl tab_nextStates)), (a_wlk_distances, .inl (cI, 256, .inl wlk_distances)), (a_wlk_order, .inl (cI, 256, .inl wlk_order)), (a_wlk_parents, .inl (cI, 256, .inl wlk_parents)), (a_wlk_steps, .inl (cI, 256, .inl wlk_steps)), (a_wlk_settledPairs, .inl (cL, 64, .inr (.inl wlk_settledPairs)))] sz) [(h_net, .inr (0, [.ref a_net_sorts, .ref a_net_ranks, .ref a_net_starts, .ref a_net_literals, .ref a_net_nextLiterals, .ref a_net_outputs, .int net_gateTotal, .int net_inputTotal, .int net_latchTotal, .int net_outputTotal])), (h_tab, .inr (2, [.ref a_tab_known, .ref a_tab_settled, .ref a_tab_values, .ref a_tab_nextStates])), (h_wlk, .inr (3, [.ref a_wlk_distances, .ref a_wlk_order, .ref a_wlk_parents, .ref a_wlk_steps, .ref a_wlk_settledPairs, .int v.2.2.2.2.2.1, .int v.2.2.2.2.2.2.1, .int v.2.2.2.2.2.2.2.1, .int v.2.2.2.2.2.2.2.2.1, .int v.2.2.2.2.2.2.2.2.2])), (a_tab_settled, .inl (cL, 64, .inr (.inl tab_settled))), (a_tab_nextStates, .inl (cI, 4096, .inl tab_nextStates)), (a_wlk_distances, .inl (cI, 256, .inl v.1)), (a_wlk_order, .inl (cI, 256, .inl v.2.1)), (a_wlk_parents, .inl (cI, 256, .inl v.2.2.1)), (a_wlk_steps, .inl (cI, 256, .inl v.2.2.2.1)), (a_wlk_settledPairs, .inl (cL, 64, .inr (.inl v.2.2.2.2.1)))] t) (va_A [(h_net, .inr (0, [.ref a_net_sorts, .ref a_net_ranks, .ref a_net_starts, .ref a_net_literals, .ref a_net_nextLiterals, .ref a_net_outputs, .int net_gateTotal, .int net_inputTotal, .int net_latchTotal, .int net_outputTotal])), (h_tab, .inr (2, [.ref a_tab_known, .ref a_tab_settled, .ref a_tab_values, .ref a_tab_nextStates])), (h_wlk, .inr (3, [.ref a_wlk_distances, .ref a_wlk_order, .ref a_wlk_parents, .ref a_wlk_steps, .ref a_wlk_settledPairs, .int wlk_words, .int wlk_reached, .int wlk_doubts, .int wlk_doubtState, .int wlk_doubtChoice])), (a_tab_settled, .inl (cL, 64, .inr (.inl tab_settled))), (a_tab_nextStates, .inl (cI, 4096, .inl tab_nextStates)), (a_wlk_distances, .inl (cI, 256, .inl wlk_distances)), (a_wlk_order, .inl (cI, 256, .inl wlk_order)), (a_wlk_parents, .inl (cI, 256, .inl wlk_parents)), (a_wlk_steps, .inl (cI, 256, .inl wlk_steps)), (a_wlk_settledPairs, .inl (cL, 64, .inr (.inl wlk_settledPairs)))] sz)) 0 0 (va_A [(h_net, .inr (0, [.ref a_net_sorts, .ref a_net_ranks, .ref a_net_starts, .ref a_net_literals, .ref a_net_nextLiterals, .ref a_net_outputs, .int net_gateTotal, .int net_inputTotal, .int net_latchTotal, .int net_outputTotal])), (h_tab, .inr (2, [.ref a_tab_known, .ref a_tab_settled, .ref a_tab_values, .ref a_tab_nextStates])), (h_wlk, .inr (3, [.ref a_wlk_distances, .ref a_wlk_order, .ref a_wlk_parents, .ref a_wlk_steps, .ref a_wlk_settledPairs, .int wlk_words, .int wlk_reached, .int wlk_doubts, .int wlk_doubtState, .int wlk_doubtChoice])), (a_tab_settled, .inl (cL, 64, .inr (.inl tab_settled))), (a_tab_nextStates, .inl (cI, 4096, .inl tab_nextStates)), (a_wlk_distances, .inl (cI, 256, .inl wlk_distances)), (a_wlk_order, .inl (cI, 256, .inl wlk_order)), (a_wlk_parents, .inl (cI, 256, .inl wlk_parents)), (a_wlk_steps, .inl (cI, 256, .inl wlk_steps)), (a_wlk_settledPairs, .inl (cL, 64, .inr (.inl wlk_settledPairs)))] sz) := by
  refine Met.ofW (cc := cWlk_run) (maxL := 5) (ret := none) (by decide) rfl ?_
  intro p e s m args below meth c s₁ B hml hv
  obtain ⟨rfl, hsz, hP, hK, hD0, hX⟩ := hv
  have hx := B.exec
  have hb := B.bytes
  have hr := B.returns
  have hts0 := atoms_spec (ws := wsWlk_run) B.pre
  have hts : ∀ w ∈ tb, w.before _ s = true := fun w h => hts0 w (List.mem_cons_of_mem _ h)
  have hown : s.vm.findClass "StateExplorer$Walk" = some m.cls := findClass_of_methodNamed B.named
  have hlocks := B.notSynchronized
  subst hsz
  have hD := hD0.self (sz := s.heap.size)
  generalize hAe : va_A [(h_net, .inr (0, [.ref a_net_sorts, .ref a_net_ranks, .ref a_net_starts, .ref a_net_literals, .ref a_net_nextLiterals, .ref a_net_outputs, .int net_gateTotal, .int net_inputTotal, .int net_latchTotal, .int net_outputTotal])), (h_tab, .inr (2, [.ref a_tab_known, .ref a_tab_settled, .ref a_tab_values, .ref a_tab_nextStates])), (h_wlk, .inr (3, [.ref a_wlk_distances, .ref a_wlk_order, .ref a_wlk_parents, .ref a_wlk_steps, .ref a_wlk_settledPairs, .int wlk_words, .int wlk_reached, .int wlk_doubts, .int wlk_doubtState, .int wlk_doubtChoice])), (a_tab_settled, .inl (cL, 64, .inr (.inl tab_settled))), (a_tab_nextStates, .inl (cI, 4096, .inl tab_nextStates)), (a_wlk_distances, .inl (cI, 256, .inl wlk_distances)), (a_wlk_order, .inl (cI, 256, .inl wlk_order)), (a_wlk_parents, .inl (cI, 256, .inl wlk_parents)), (a_wlk_steps, .inl (cI, 256, .inl wlk_steps)), (a_wlk_settledPairs, .inl (cL, 64, .inr (.inl wlk_settledPairs)))] s.heap.size = A at hD hX ⊢
  have hA : ∀ q : Nat, s.heap.size ≤ q → A q := fun q h => by rw [← hAe]; exact Or.inr h
  have hS : va_S A s.heap s.heap [] := va_S.rf
  have hl := lv_entry ([.ref h_wlk, .ref h_net, .ref h_tab]) (n := 5) (Nat.le_of_ble_eq_true rfl)
  rw [lg_entry_eq]
  generalize (lg_sl ([.ref h_wlk, .ref h_net, .ref h_tab]) ++ List.replicate (5 - (lg_sl ([.ref h_wlk, .ref h_net, .ref h_tab])).length) Slot.unset).toArray = ls at hl ⊢
  have hl : lv_has ls 5 [(0, .ref h_wlk), (1, .ref h_net), (2, .ref h_tab)] := hl
  have C0 : sx_C p s m _ meth c cWlk_run 5 "StateExplorer$Walk" A (dC, dI) [(cI, .int), (cL, .long), (cZ, .boolean)] t1 t2 := ⟨hx, hb, hml, hown, hts, hA, hK, hlocks, hX⟩
  rw [m_Wlk_run] at hm
  refine lv_aload_n hx hb dWlk_run_0 rfl (lv_at hl 0 rfl) ?_
  refine lv_aload_n hx hb dWlk_run_1 rfl (lv_at hl 1 rfl) ?_
  obtain ⟨v1, hv1, hm⟩ := sx_bind hm
  have hPc := hP.sub (ws' := [(h_net, .inr (0, [.ref a_net_sorts, .ref a_net_ranks, .ref a_net_starts, .ref a_net_literals, .ref a_net_nextLiterals, .ref a_net_outputs, .int net_gateTotal, .int net_inputTotal, .int net_latchTotal, .int net_outputTotal])), (h_wlk, .inr (3, [.ref a_wlk_distances, .ref a_wlk_order, .ref a_wlk_parents, .ref a_wlk_steps, .ref a_wlk_settledPairs, .int wlk_words, .int wlk_reached, .int wlk_doubts, .int wlk_doubtState, .int wlk_doubtChoice])), (a_wlk_distances, .inl (cI, 256, .inl wlk_distances)), (a_wlk_settledPairs, .inl (cL, 64, .inr (.inl wlk_settledPairs)))]) [0, 2, 5, 9] rfl
  have hDc := hD.sub (ws' := [(h_net, .inr (0, [.ref a_net_sorts, .ref a_net_ranks, .ref a_net_starts, .ref a_net_literals, .ref a_net_nextLiterals, .ref a_net_outputs, .int net_gateTotal, .int net_inputTotal, .int net_latchTotal, .int net_outputTotal])), (h_wlk, .inr (3, [.ref a_wlk_distances, .ref a_wlk_order, .ref a_wlk_parents, .ref a_wlk_steps, .ref a_wlk_settledPairs, .int wlk_words, .int wlk_reached, .int wlk_doubts, .int wlk_doubtState, .int wlk_doubtChoice])), (a_wlk_distances, .inl (cI, 256, .inl wlk_distances)), (a_wlk_settledPairs, .inl (cL, 64, .inr (.inl wlk_settledPairs)))]) [0, 2, 5, 9] (by decide) rfl
  have hFc := va_free (wc := [(h_net, .inr (0, [.ref a_net_sorts, .ref a_net_ranks, .ref a_net_starts, .ref a_net_literals, .ref a_net_nextLiterals, .ref a_net_outputs, .int net_gateTotal, .int net_inputTotal, .int net_latchTotal, .int net_outputTotal])), (h_wlk, .inr (3, [.ref a_wlk_distances, .ref a_wlk_order, .ref a_wlk_parents, .ref a_wlk_steps, .ref a_wlk_settledPairs, .int wlk_words, .int wlk_reached, .int wlk_doubts, .int wlk_doubtState, .int wlk_doubtChoice])), (a_wlk_distances, .inl (cI, 256, .inl wlk_distances)), (a_wlk_settledPairs, .inl (cL, 64, .inr (.inl wlk_settledPairs)))]) hD hS hA [0, 2, 5, 9] rfl
  refine va_callv (va_runV (As := [.ref h_net]) (rest := []) ⟨hx, hb, hml, hown, hts⟩ (k_Wlk_forget l dC dI cI cL cZ t1 t2 h_net a_net_sorts a_net_ranks a_net_starts a_net_literals a_net_nextLiterals a_net_outputs h_wlk a_wlk_distances a_wlk_order a_wlk_parents a_wlk_steps a_wlk_settledPairs net_gateTotal net_inputTotal net_latchTotal net_outputTotal wlk_distances wlk_settledPairs wlk_words wlk_reached wlk_doubts wlk_doubtState wlk_doubtChoice _ v1 hv1) (cwV 1 hts (sx_gV tw_285 tw_287 tw_7 tw_39 tcWlk_forget) rfl rfl rfl (by decide +kernel) ⟨Nat.le_of_ble_eq_true rfl, Nat.le_of_ble_eq_true rfl⟩) (sx_pV hK hX hS hPc hDc hFc (va_recv hK hPc (ci := 3) (q0 := 1) rfl rfl)) rfl rfl hl.1 rfl (lv_room (Nat.le_of_ble_eq_true rfl)) dWlk_run_2 ⟨Nat.le_of_ble_eq_true rfl, Nat.le_of_ble_eq_true rfl⟩) hS (fun q _ h => hFc q h) hFc (fun u_ t_ H locs ht hvm hw hB hz1 hk1 hS => ?_)
  obtain ⟨hP1, -, hD1⟩ := hB
  rw [ht] at hP1
  obtain ⟨hP, hD⟩ := va_join (wr := [(h_tab, .inr (2, [.ref a_tab_known, .ref a_tab_settled, .ref a_tab_values, .ref a_tab_nextStates])), (a_tab_settled, .inl (cL, 64, .inr (.inl tab_settled))), (a_tab_nextStates, .inl (cI, 4096, .inl tab_nextStates)), (a_wlk_order, .inl (cI, 256, .inl wlk_order)), (a_wlk_parents, .inl (cI, 256, .inl wlk_parents)), (a_wlk_steps, .inl (cI, 256, .inl wlk_steps))]) (w1 := [(h_net, .inr (0, [.ref a_net_sorts, .ref a_net_ranks, .ref a_net_starts, .ref a_net_literals, .ref a_net_nextLiterals, .ref a_net_outputs, .int net_gateTotal, .int net_inputTotal, .int net_latchTotal, .int net_outputTotal])), (h_wlk, .inr (3, [.ref a_wlk_distances, .ref a_wlk_order, .ref a_wlk_parents, .ref a_wlk_steps, .ref a_wlk_settledPairs, .int v1.2.2.1, .int v1.2.2.2.1, .int v1.2.2.2.2.1, .int v1.2.2.2.2.2.1, .int v1.2.2.2.2.2.2])), (a_wlk_distances, .inl (cI, 256, .inl v1.1)), (a_wlk_settledPairs, .inl (cL, 64, .inr (.inl v1.2.1)))]) hP hD [0, 2, 5, 9] [1, 3, 4, 6, 7, 8] rfl rfl (by decide) (by decide) hk1 hFc hP1 hD1
  have hP : va_P (dC, dI) vwCl [(h_tab, .inr (2, [.ref a_tab_known, .ref a_tab_settled, .ref a_tab_values, .ref a_tab_nextStates])), (a_tab_settled, .inl (cL, 64, .inr (.inl tab_settled))), (a_tab_nextStates, .inl (cI, 4096, .inl tab_nextStates)), (a_wlk_order, .inl (cI, 256, .inl wlk_order)), (a_wlk_parents, .inl (cI, 256, .inl wlk_parents)), (a_wlk_steps, .inl (cI, 256, .inl wlk_steps)), (h_net, .inr (0, [.ref a_net_sorts, .ref a_net_ranks, .ref a_net_starts, .ref a_net_literals, .ref a_net_nextLiterals, .ref a_net_outputs, .int net_gateTotal, .int net_inputTotal, .int net_latchTotal, .int net_outputTotal])), (h_wlk, .inr (3, [.ref a_wlk_distances, .ref a_wlk_order, .ref a_wlk_parents, .ref a_wlk_steps, .ref a_wlk_settledPairs, .int v1.2.2.1, .int v1.2.2.2.1, .int v1.2.2.2.2.1, .int v1.2.2.2.2.2.1, .int v1.2.2.2.2.2.2])), (a_wlk_distances, .inl (cI, 256, .inl v1.1)), (a_wlk_settledPairs, .inl (cL, 64, .inr (.inl v1.2.1)))] H := hP
  have hD : va_D A [(h_tab, .inr (2, [.ref a_tab_known, .ref a_tab_settled, .ref a_tab_values, .ref a_tab_nextStates])), (a_tab_settled, .inl (cL, 64, .inr (.inl tab_settled))), (a_tab_nextStates, .inl (cI, 4096, .inl tab_nextStates)), (a_wlk_order, .inl (cI, 256, .inl wlk_order)), (a_wlk_parents, .inl (cI, 256, .inl wlk_parents)), (a_wlk_steps, .inl (cI, 256, .inl wlk_steps)), (h_net, .inr (0, [.ref a_net_sorts, .ref a_net_ranks, .ref a_net_starts, .ref a_net_literals, .ref a_net_nextLiterals, .ref a_net_outputs, .int net_gateTotal, .int net_inputTotal, .int net_latchTotal, .int net_outputTotal])), (h_wlk, .inr (3, [.ref a_wlk_distances, .ref a_wlk_order, .ref a_wlk_parents, .ref a_wlk_steps, .ref a_wlk_settledPairs, .int v1.2.2.1, .int v1.2.2.2.1, .int v1.2.2.2.2.1, .int v1.2.2.2.2.2.1, .int v1.2.2.2.2.2.2])), (a_wlk_distances, .inl (cI, 256, .inl v1.1)), (a_wlk_settledPairs, .inl (cL, 64, .inr (.inl v1.2.1)))] := hD
  refine lv_aload_n hx hb dWlk_run_5 rfl (lv_at hl 0 rfl) ?_
  refine lv_iconst (v := (0 : Int32)) hx hb dWlk_run_6 (by decide) ?_
  refine lv_iconst (v := (0 : Int32)) hx hb dWlk_run_7 (by decide) ?_
  refine lv_iconst (v := (-1 : Int32)) hx hb dWlk_run_8 (by decide) ?_
  refine lv_iconst (v := (-1 : Int32)) hx hb dWlk_run_9 (by decide) ?_
  obtain ⟨v3, hv3, hm⟩ := sx_bind hm
  have hPc := hP.sub (ws' := [(h_wlk, .inr (3, [.ref a_wlk_distances, .ref a_wlk_order, .ref a_wlk_parents, .ref a_wlk_steps, .ref a_wlk_settledPairs, .int v1.2.2.1, .int v1.2.2.2.1, .int v1.2.2.2.2.1, .int v1.2.2.2.2.2.1, .int v1.2.2.2.2.2.2])), (a_wlk_distances, .inl (cI, 256, .inl v1.1)), (a_wlk_order, .inl (cI, 256, .inl wlk_order)), (a_wlk_parents, .inl (cI, 256, .inl wlk_parents)), (a_wlk_steps, .inl (cI, 256, .inl wlk_steps))]) [7, 8, 3, 4, 5] rfl
  have hDc := hD.sub (ws' := [(h_wlk, .inr (3, [.ref a_wlk_distances, .ref a_wlk_order, .ref a_wlk_parents, .ref a_wlk_steps, .ref a_wlk_settledPairs, .int v1.2.2.1, .int v1.2.2.2.1, .int v1.2.2.2.2.1, .int v1.2.2.2.2.2.1, .int v1.2.2.2.2.2.2])), (a_wlk_distances, .inl (cI, 256, .inl v1.1)), (a_wlk_order, .inl (cI, 256, .inl wlk_order)), (a_wlk_parents, .inl (cI, 256, .inl wlk_parents)), (a_wlk_steps, .inl (cI, 256, .inl wlk_steps))]) [7, 8, 3, 4, 5] (by decide) rfl
  have hFc := va_free (wc := [(h_wlk, .inr (3, [.ref a_wlk_distances, .ref a_wlk_order, .ref a_wlk_parents, .ref a_wlk_steps, .ref a_wlk_settledPairs, .int v1.2.2.1, .int v1.2.2.2.1, .int v1.2.2.2.2.1, .int v1.2.2.2.2.2.1, .int v1.2.2.2.2.2.2])), (a_wlk_distances, .inl (cI, 256, .inl v1.1)), (a_wlk_order, .inl (cI, 256, .inl wlk_order)), (a_wlk_parents, .inl (cI, 256, .inl wlk_parents)), (a_wlk_steps, .inl (cI, 256, .inl wlk_steps))]) hD hS hA [7, 8, 3, 4, 5] rfl
  refine va_callv (va_runV (As := [.int (0 : Int32), .int (0 : Int32), .int (-1 : Int32), .int (-1 : Int32)]) (rest := []) ⟨hx, hb, hml, hown, hts⟩ (k_Wlk_reach l dC dI cI cL cZ t1 t2 h_wlk a_wlk_distances a_wlk_order a_wlk_parents a_wlk_steps a_wlk_settledPairs v1.1 wlk_order wlk_parents wlk_steps v1.2.2.1 v1.2.2.2.1 v1.2.2.2.2.1 v1.2.2.2.2.2.1 v1.2.2.2.2.2.2 _ (0 : Int32) (0 : Int32) (-1 : Int32) (-1 : Int32) v3 hv3) (cwV 4 hts (sx_gV tw_291 tw_293 tw_8 tw_39 tcWlk_reach) rfl rfl rfl (by decide +kernel) ⟨Nat.le_of_ble_eq_true rfl, Nat.le_of_ble_eq_true rfl⟩) (sx_pV hK hX hS hPc hDc hFc (va_recv hK hPc (ci := 3) (q0 := 0) rfl rfl)) rfl rfl hl.1 rfl (lv_room (Nat.le_of_ble_eq_true rfl)) dWlk_run_10 ⟨Nat.le_of_ble_eq_true rfl, Nat.le_of_ble_eq_true rfl⟩) hS (fun q _ h => hFc q h) hFc (fun u_ t_ H locs ht hvm hw hB hz1 hk1 hS => ?_)
  obtain ⟨hP1, -, hD1⟩ := hB
  rw [ht] at hP1
  obtain ⟨hP, hD⟩ := va_join (wr := [(h_tab, .inr (2, [.ref a_tab_known, .ref a_tab_settled, .ref a_tab_values, .ref a_tab_nextStates])), (a_tab_settled, .inl (cL, 64, .inr (.inl tab_settled))), (a_tab_nextStates, .inl (cI, 4096, .inl tab_nextStates)), (h_net, .inr (0, [.ref a_net_sorts, .ref a_net_ranks, .ref a_net_starts, .ref a_net_literals, .ref a_net_nextLiterals, .ref a_net_outputs, .int net_gateTotal, .int net_inputTotal, .int net_latchTotal, .int net_outputTotal])), (a_wlk_settledPairs, .inl (cL, 64, .inr (.inl v1.2.1)))]) (w1 := [(h_wlk, .inr (3, [.ref a_wlk_distances, .ref a_wlk_order, .ref a_wlk_parents, .ref a_wlk_steps, .ref a_wlk_settledPairs, .int v1.2.2.1, .int v3.2.2.2.2, .int v1.2.2.2.2.1, .int v1.2.2.2.2.2.1, .int v1.2.2.2.2.2.2])), (a_wlk_distances, .inl (cI, 256, .inl v3.1)), (a_wlk_order, .inl (cI, 256, .inl v3.2.1)), (a_wlk_parents, .inl (cI, 256, .inl v3.2.2.1)), (a_wlk_steps, .inl (cI, 256, .inl v3.2.2.2.1))]) hP hD [7, 8, 3, 4, 5] [0, 1, 2, 6, 9] rfl rfl (by decide) (by decide) hk1 hFc hP1 hD1
  have hP : va_P (dC, dI) vwCl [(h_tab, .inr (2, [.ref a_tab_known, .ref a_tab_settled, .ref a_tab_values, .ref a_tab_nextStates])), (a_tab_settled, .inl (cL, 64, .inr (.inl tab_settled))), (a_tab_nextStates, .inl (cI, 4096, .inl tab_nextStates)), (h_net, .inr (0, [.ref a_net_sorts, .ref a_net_ranks, .ref a_net_starts, .ref a_net_literals, .ref a_net_nextLiterals, .ref a_net_outputs, .int net_gateTotal, .int net_inputTotal, .int net_latchTotal, .int net_outputTotal])), (a_wlk_settledPairs, .inl (cL, 64, .inr (.inl v1.2.1))), (h_wlk, .inr (3, [.ref a_wlk_distances, .ref a_wlk_order, .ref a_wlk_parents, .ref a_wlk_steps, .ref a_wlk_settledPairs, .int v1.2.2.1, .int v3.2.2.2.2, .int v1.2.2.2.2.1, .int v1.2.2.2.2.2.1, .int v1.2.2.2.2.2.2])), (a_wlk_distances, .inl (cI, 256, .inl v3.1)), (a_wlk_order, .inl (cI, 256, .inl v3.2.1)), (a_wlk_parents, .inl (cI, 256, .inl v3.2.2.1)), (a_wlk_steps, .inl (cI, 256, .inl v3.2.2.2.1))] H := hP
  have hD : va_D A [(h_tab, .inr (2, [.ref a_tab_known, .ref a_tab_settled, .ref a_tab_values, .ref a_tab_nextStates])), (a_tab_settled, .inl (cL, 64, .inr (.inl tab_settled))), (a_tab_nextStates, .inl (cI, 4096, .inl tab_nextStates)), (h_net, .inr (0, [.ref a_net_sorts, .ref a_net_ranks, .ref a_net_starts, .ref a_net_literals, .ref a_net_nextLiterals, .ref a_net_outputs, .int net_gateTotal, .int net_inputTotal, .int net_latchTotal, .int net_outputTotal])), (a_wlk_settledPairs, .inl (cL, 64, .inr (.inl v1.2.1))), (h_wlk, .inr (3, [.ref a_wlk_distances, .ref a_wlk_order, .ref a_wlk_parents, .ref a_wlk_steps, .ref a_wlk_settledPairs, .int v1.2.2.1, .int v3.2.2.2.2, .int v1.2.2.2.2.1, .int v1.2.2.2.2.2.1, .int v1.2.2.2.2.2.2])), (a_wlk_distances, .inl (cI, 256, .inl v3.1)), (a_wlk_order, .inl (cI, 256, .inl v3.2.1)), (a_wlk_parents, .inl (cI, 256, .inl v3.2.2.1)), (a_wlk_steps, .inl (cI, 256, .inl v3.2.2.2.1))] := hD
  refine lv_aload_n hx hb dWlk_run_13 rfl (lv_at hl 1 rfl) ?_
  obtain ⟨v5, hv5, hm⟩ := sx_bind hm
  have hPc := hP.sub (ws' := [(h_net, .inr (0, [.ref a_net_sorts, .ref a_net_ranks, .ref a_net_starts, .ref a_net_literals, .ref a_net_nextLiterals, .ref a_net_outputs, .int net_gateTotal, .int net_inputTotal, .int net_latchTotal, .int net_outputTotal]))]) [3] rfl
  have hDc := hD.sub (ws' := [(h_net, .inr (0, [.ref a_net_sorts, .ref a_net_ranks, .ref a_net_starts, .ref a_net_literals, .ref a_net_nextLiterals, .ref a_net_outputs, .int net_gateTotal, .int net_inputTotal, .int net_latchTotal, .int net_outputTotal]))]) [3] (by decide) rfl
  have hFc := va_free (wc := [(h_net, .inr (0, [.ref a_net_sorts, .ref a_net_ranks, .ref a_net_starts, .ref a_net_literals, .ref a_net_nextLiterals, .ref a_net_outputs, .int net_gateTotal, .int net_inputTotal, .int net_latchTotal, .int net_outputTotal]))]) hD hS hA [3] rfl
  refine sx_stI (va_runV (As := []) (rest := []) ⟨hx, hb, hml, hown, hts⟩ (k_Net_choiceTotal l dC dI cI cL cZ t1 t2 h_net a_net_sorts a_net_ranks a_net_starts a_net_literals a_net_nextLiterals a_net_outputs net_gateTotal net_inputTotal net_latchTotal net_outputTotal _ v5 hv5) (cwV 0 hts (sx_gV tw_295 tw_270 tw_271 tw_37 tcNet_choiceTotal) rfl rfl rfl (by decide +kernel) ⟨Nat.le_of_ble_eq_true rfl, Nat.le_of_ble_eq_true rfl⟩) (sx_pV hK hX hS hPc hDc hFc (va_recv hK hPc (ci := 0) (q0 := 0) rfl rfl)) rfl rfl hl.1 rfl (lv_room (Nat.le_of_ble_eq_true rfl)) dWlk_run_14 ⟨Nat.le_of_ble_eq_true rfl, Nat.le_of_ble_eq_true rfl⟩) ?_
  refine lv_istore_n (lv' := [(3, .int v5), (0, .ref h_wlk), (1, .ref h_net), (2, .ref h_tab)]) hx hb dWlk_run_17 rfl hl (by decide) rfl (fun ls hl => ?_)
  refine lv_iconst (v := (0 : Int32)) hx hb dWlk_run_18 (by decide) ?_
  refine lv_istore (lv' := [(4, .int (0 : Int32)), (3, .int v5), (0, .ref h_wlk), (1, .ref h_net), (2, .ref h_tab)]) hx hb dWlk_run_19 hl (by decide) rfl (fun ls hl => ?_)
  obtain ⟨v12, hv12, hm⟩ := sx_bind hm
  refine w_Wlk_run_21 C0 h_net a_net_sorts a_net_ranks a_net_starts a_net_literals a_net_nextLiterals a_net_outputs h_tab a_tab_known a_tab_settled a_tab_values a_tab_nextStates h_wlk a_wlk_distances a_wlk_order a_wlk_parents a_wlk_steps a_wlk_settledPairs net_gateTotal net_inputTotal net_latchTotal net_outputTotal tab_settled tab_nextStates v1.2.2.1 v5 _ (0 : Int32) v3.1 v3.2.1 v3.2.2.1 v3.2.2.2.1 v1.2.1 v3.2.2.2.2 v1.2.2.2.2.1 v1.2.2.2.2.2.1 v1.2.2.2.2.2.2 v12 hv12 _ _ _ (hP.sub (ws' := [(h_net, .inr (0, [.ref a_net_sorts, .ref a_net_ranks, .ref a_net_starts, .ref a_net_literals, .ref a_net_nextLiterals, .ref a_net_outputs, .int net_gateTotal, .int net_inputTotal, .int net_latchTotal, .int net_outputTotal])), (h_tab, .inr (2, [.ref a_tab_known, .ref a_tab_settled, .ref a_tab_values, .ref a_tab_nextStates])), (h_wlk, .inr (3, [.ref a_wlk_distances, .ref a_wlk_order, .ref a_wlk_parents, .ref a_wlk_steps, .ref a_wlk_settledPairs, .int v1.2.2.1, .int v3.2.2.2.2, .int v1.2.2.2.2.1, .int v1.2.2.2.2.2.1, .int v1.2.2.2.2.2.2])), (a_tab_settled, .inl (cL, 64, .inr (.inl tab_settled))), (a_tab_nextStates, .inl (cI, 4096, .inl tab_nextStates)), (a_wlk_distances, .inl (cI, 256, .inl v3.1)), (a_wlk_order, .inl (cI, 256, .inl v3.2.1)), (a_wlk_parents, .inl (cI, 256, .inl v3.2.2.1)), (a_wlk_steps, .inl (cI, 256, .inl v3.2.2.2.1)), (a_wlk_settledPairs, .inl (cL, 64, .inr (.inl v1.2.1)))]) [3, 0, 5, 1, 2, 6, 7, 8, 9, 4] rfl) (hD.sub (ws' := [(h_net, .inr (0, [.ref a_net_sorts, .ref a_net_ranks, .ref a_net_starts, .ref a_net_literals, .ref a_net_nextLiterals, .ref a_net_outputs, .int net_gateTotal, .int net_inputTotal, .int net_latchTotal, .int net_outputTotal])), (h_tab, .inr (2, [.ref a_tab_known, .ref a_tab_settled, .ref a_tab_values, .ref a_tab_nextStates])), (h_wlk, .inr (3, [.ref a_wlk_distances, .ref a_wlk_order, .ref a_wlk_parents, .ref a_wlk_steps, .ref a_wlk_settledPairs, .int v1.2.2.1, .int v3.2.2.2.2, .int v1.2.2.2.2.1, .int v1.2.2.2.2.2.1, .int v1.2.2.2.2.2.2])), (a_tab_settled, .inl (cL, 64, .inr (.inl tab_settled))), (a_tab_nextStates, .inl (cI, 4096, .inl tab_nextStates)), (a_wlk_distances, .inl (cI, 256, .inl v3.1)), (a_wlk_order, .inl (cI, 256, .inl v3.2.1)), (a_wlk_parents, .inl (cI, 256, .inl v3.2.2.1)), (a_wlk_steps, .inl (cI, 256, .inl v3.2.2.2.1)), (a_wlk_settledPairs, .inl (cL, 64, .inr (.inl v1.2.1)))]) [3, 0, 5, 1, 2, 6, 7, 8, 9, 4] (by decide) rfl) hS (lv_sub hl [2, 4, 1, 0] rfl) ?_
  intro H locs ls hP hD hS hl
  obtain rfl := Option.some.inj hm
  exact W.vret hx hb hr (fun t ht hW => ⟨⟨(), rfl, trivial, sx_Wi hP hK hD ht hW.alike⟩, hS.F ht⟩) hS.2.2 dWlk_run_57
noncomputable def L_Wlk_stepOfWay_27 (wlk_parents : Nat → Int32) (x2 : Int32) : Nat → Int32 → Int32 → Option (Int32)
  | 0, _, _ => none
  | n + 1, x4, x5 => (if x5 ≤ x2 then some x4 else gd (vp_in x4 256) ((L_Wlk_stepOfWay_27 wlk_parents x2 n (wlk_parents x4.toNatClampNeg) (x5 + (-1 : Int32)))))
noncomputable def m_Wlk_stepOfWay (wlk_distances wlk_parents wlk_steps : Nat → Int32) (p0 : Int32) (p1 : Int32) : Option (Int32) := gd (vp_in p0 256) ((if wlk_distances p0.toNatClampNeg = (-1 : Int32) then some (-1 : Int32) else (if p1 < wlk_distances p0.toNatClampNeg then ((L_Wlk_stepOfWay_27 wlk_parents p1 fu p0 ((wlk_distances p0.toNatClampNeg) - (1 : Int32))).bind (fun v6 => gd (vp_in v6 256) (some (wlk_steps v6.toNatClampNeg)))) else some (-1 : Int32))))
def rm_Wlk_stepOfWay : Room := { frames := 0, cells := 0, slots := 0, locals := 0 }
set_option maxHeartbeats 4000000 in
set_option maxRecDepth 100000 in
theorem w_Wlk_stepOfWay_27 {p : Program} {l : Launch} {e : Env} {s : State} {m : MethodId} {args : Array Value} {below : List Frame} {meth : Method} {c : Code} {dC : Nat → ClassId} {dI : Nat → Nat → Nat} {cI cL cZ : ClassId} {A : Nat → Prop} {Q : State → Prop} {t1 t2 : Nat} (C0 : sx_C p s m args meth c cWlk_stepOfWay 6 "StateExplorer$Walk" A (dC, dI) [(cI, .int), (cL, .long), (cZ, .boolean)] t1 t2) (h_wlk a_wlk_distances a_wlk_order a_wlk_parents a_wlk_steps a_wlk_settledPairs : Nat) (wlk_distances wlk_parents wlk_steps : Nat → Int32) (wlk_words wlk_reached wlk_doubts wlk_doubtState wlk_doubtChoice : Int32) (x2 : Int32) {H : Heap} {locs : List Loc} (hP : va_P (dC, dI) vwCl [(h_wlk, .inr (3, [.ref a_wlk_distances, .ref a_wlk_order, .ref a_wlk_parents, .ref a_wlk_steps, .ref a_wlk_settledPairs, .int wlk_words, .int wlk_reached, .int wlk_doubts, .int wlk_doubtState, .int wlk_doubtChoice])), (a_wlk_distances, .inl (cI, 256, .inl wlk_distances)), (a_wlk_parents, .inl (cI, 256, .inl wlk_parents)), (a_wlk_steps, .inl (cI, 256, .inl wlk_steps))] H) (hD : va_D A [(h_wlk, .inr (3, [.ref a_wlk_distances, .ref a_wlk_order, .ref a_wlk_parents, .ref a_wlk_steps, .ref a_wlk_settledPairs, .int wlk_words, .int wlk_reached, .int wlk_doubts, .int wlk_doubtState, .int wlk_doubtChoice])), (a_wlk_distances, .inl (cI, 256, .inl wlk_distances)), (a_wlk_parents, .inl (cI, 256, .inl wlk_parents)), (a_wlk_steps, .inl (cI, 256, .inl wlk_steps))]) (hS : va_S A s.heap H locs) :
    ∀ (n : Nat) (x4 : Int32) (x5 : Int32)  (r : Int32), L_Wlk_stepOfWay_27 wlk_parents x2 n x4 x5 = some r → ∀ (ls : Array Slot), lv_has ls 6 [(0, .ref h_wlk), (2, .int x2), (4, .int x4), (5, .int x5)] →
    (∀ (ls : Array Slot), lv_has ls 6 [(0, .ref h_wlk), (4, .int r)] → W p l e (headSpec wsWlk_stepOfWay rm_Wlk_stepOfWay).room s m args below meth c H locs 0 0 Q (F0 m 48 ls [])) →
    W p l e (headSpec wsWlk_stepOfWay rm_Wlk_stepOfWay).room s m args below meth c H locs 0 0 Q (F0 m 27 ls []) := by
  obtain ⟨hx, hb, hml, hown, hts, hA, hK, hlocks, hX⟩ := id C0
  intro n
  induction n with
  | zero => intro x4 x5 r hm; rw [L_Wlk_stepOfWay_27] at hm; cases hm
  | succ n ih =>
    intro x4 x5 r hm ls hl k1
    rw [L_Wlk_stepOfWay_27] at hm
    refine lv_iload hx hb dWlk_stepOfWay_27 (lv_at hl 3 rfl) ?_
    refine lv_iload_n hx hb dWlk_stepOfWay_29 rfl (lv_at hl 1 rfl) ?_
    refine lv_icmp_le (tgt := 48) hx hb dWlk_stepOfWay_30 (by decide) (fun c4 => ?_) (fun c4 => ?_)
    · have hm := sx_pos c4 hm
      obtain rfl := Option.some.inj hm
      exact k1 _ (lv_sub hl [0, 2] rfl)
    · have hm := sx_neg c4 hm
      refine lv_aload_n hx hb dWlk_stepOfWay_33 rfl (lv_at hl 0 rfl) ?_
      refine va_get (D := (dC, dI)) (ci := 3) (v := .ref a_wlk_parents) (C := RWlk) (T := TWlk) (N := 10) hx hb hts inWlk hown hK hP 0 rfl rfl 2 (by decide) (hts _ tw_139) (fun _ h9 => h9) rfl dWlk_stepOfWay_34 ?_
      refine lv_iload hx hb dWlk_stepOfWay_37 (lv_at hl 2 rfl) ?_
      obtain ⟨g5, hm⟩ := gd_el hm
      refine va_iald hx hb hK hP 2 0 rfl rfl g5 dWlk_stepOfWay_39 ?_
      refine lv_istore (lv' := [(4, .int (wlk_parents x4.toNatClampNeg)), (0, .ref h_wlk), (2, .int x2), (5, .int x5)]) hx hb dWlk_stepOfWay_40 hl (by decide) rfl (fun ls hl => ?_)
      refine lv_iinc (v := x5 + (-1 : Int32)) (lv' := [(5, .int (x5 + (-1 : Int32))), (4, .int (wlk_parents x4.toNatClampNeg)), (0, .ref h_wlk), (2, .int x2)]) hx hb dWlk_stepOfWay_42 hl (k := 3) rfl rfl (by decide) rfl (fun ls hl => ?_)
      refine lv_goto (tgt := 27) hx hb dWlk_stepOfWay_45 (by decide) ?_
      exact ih (wlk_parents x4.toNatClampNeg) (x5 + (-1 : Int32)) r hm _ (lv_sub hl [2, 3, 1, 0] rfl) k1
set_option maxHeartbeats 4000000 in
set_option maxRecDepth 100000 in
theorem k_Wlk_stepOfWay (l : Launch) (dC : Nat → ClassId) (dI : Nat → Nat → Nat) (cI cL cZ : ClassId) (t1 t2 : Nat) (h_wlk a_wlk_distances a_wlk_order a_wlk_parents a_wlk_steps a_wlk_settledPairs : Nat) (wlk_distances wlk_parents wlk_steps : Nat → Int32) (wlk_words wlk_reached wlk_doubts wlk_doubtState wlk_doubtChoice : Int32) (sz : Nat) (p0 : Int32) (p1 : Int32) (v : Int32) (hm : m_Wlk_stepOfWay wlk_distances wlk_parents wlk_steps p0 p1 = some v) : Met l yWlk_stepOfWay wsWlk_stepOfWay rm_Wlk_stepOfWay (sx_Pc (dC, dI) [(cI, .int), (cL, .long), (cZ, .boolean)] t1 t2 [(h_wlk, .inr (3, [.ref a_wlk_distances, .ref a_wlk_order, .ref a_wlk_parents, .ref a_wlk_steps, .ref a_wlk_settledPairs, .int wlk_words, .int wlk_reached, .int wlk_doubts, .int wlk_doubtState, .int wlk_doubtChoice])), (a_wlk_distances, .inl (cI, 256, .inl wlk_distances)), (a_wlk_parents, .inl (cI, 256, .inl wlk_parents)), (a_wlk_steps, .inl (cI, 256, .inl wlk_steps))] sz [.ref h_wlk, .int p0, .int p1]) (sx_Si v) 0 0 (fun _ => False) := by
  refine Met.ofW (cc := cWlk_stepOfWay) (maxL := 6) (ret := (some .int)) (by decide) rfl ?_
  intro p e s m args below meth c s₁ B hml hv
  obtain ⟨rfl, hsz, hP, hK, hD0, hX⟩ := hv
  have hx := B.exec
  have hb := B.bytes
  have hr := B.returns
  have hts0 := atoms_spec (ws := wsWlk_stepOfWay) B.pre
  have hts : ∀ w ∈ tb, w.before _ s = true := fun w h => hts0 w (List.mem_cons_of_mem _ h)
  have hown : s.vm.findClass "StateExplorer$Walk" = some m.cls := findClass_of_methodNamed B.named
  have hlocks := B.notSynchronized
  subst hsz
  have hD := hD0.self (sz := s.heap.size)
  generalize hAe : va_A [(h_wlk, .inr (3, [.ref a_wlk_distances, .ref a_wlk_order, .ref a_wlk_parents, .ref a_wlk_steps, .ref a_wlk_settledPairs, .int wlk_words, .int wlk_reached, .int wlk_doubts, .int wlk_doubtState, .int wlk_doubtChoice])), (a_wlk_distances, .inl (cI, 256, .inl wlk_distances)), (a_wlk_parents, .inl (cI, 256, .inl wlk_parents)), (a_wlk_steps, .inl (cI, 256, .inl wlk_steps))] s.heap.size = A at hD hX 
  have hA : ∀ q : Nat, s.heap.size ≤ q → A q := fun q h => by rw [← hAe]; exact Or.inr h
  have hS : va_S A s.heap s.heap [] := va_S.rf
  have hl := lv_entry ([.ref h_wlk, .int p0, .int p1]) (n := 6) (Nat.le_of_ble_eq_true rfl)
  rw [lg_entry_eq]
  generalize (lg_sl ([.ref h_wlk, .int p0, .int p1]) ++ List.replicate (6 - (lg_sl ([.ref h_wlk, .int p0, .int p1])).length) Slot.unset).toArray = ls at hl ⊢
  have hl : lv_has ls 6 [(0, .ref h_wlk), (1, .int p0), (2, .int p1)] := hl
  have C0 : sx_C p s m _ meth c cWlk_stepOfWay 6 "StateExplorer$Walk" A (dC, dI) [(cI, .int), (cL, .long), (cZ, .boolean)] t1 t2 := ⟨hx, hb, hml, hown, hts, hA, hK, hlocks, hX⟩
  rw [m_Wlk_stepOfWay] at hm
  refine lv_aload_n hx hb dWlk_stepOfWay_0 rfl (lv_at hl 0 rfl) ?_
  refine va_get (D := (dC, dI)) (ci := 3) (v := .ref a_wlk_distances) (C := RWlk) (T := TWlk) (N := 10) hx hb hts inWlk hown hK hP 0 rfl rfl 0 (by decide) (hts _ tw_135) (fun _ h9 => h9) rfl dWlk_stepOfWay_1 ?_
  refine lv_iload_n hx hb dWlk_stepOfWay_4 rfl (lv_at hl 1 rfl) ?_
  obtain ⟨g1, hm⟩ := gd_el hm
  refine va_iald hx hb hK hP 1 0 rfl rfl g1 dWlk_stepOfWay_5 ?_
  refine lv_istore_n (lv' := [(3, .int (wlk_distances p0.toNatClampNeg)), (0, .ref h_wlk), (1, .int p0), (2, .int p1)]) hx hb dWlk_stepOfWay_6 rfl hl (by decide) rfl (fun ls hl => ?_)
  refine lv_iload_n hx hb dWlk_stepOfWay_7 rfl (lv_at hl 0 rfl) ?_
  refine lv_iconst (v := (-1 : Int32)) hx hb dWlk_stepOfWay_8 (by decide) ?_
  refine lv_icmp_eq (tgt := 17) hx hb dWlk_stepOfWay_9 (by decide) (fun c2 => ?_) (fun c2 => ?_)
  · have hm := sx_pos c2 hm
    refine lv_iconst (v := (-1 : Int32)) hx hb dWlk_stepOfWay_17 (by decide) ?_
    obtain rfl := Option.some.inj hm
    exact W.iret (v := (-1 : Int32)) hx hb hr (fun t ht hW => ⟨rfl, ht⟩) (fun q hq => nomatch hq) dWlk_stepOfWay_18
  · have hm := sx_neg c2 hm
    refine lv_iload_n hx hb dWlk_stepOfWay_12 rfl (lv_at hl 3 rfl) ?_
    refine lv_iload_n hx hb dWlk_stepOfWay_13 rfl (lv_at hl 0 rfl) ?_
    refine lv_icmp_lt (tgt := 19) hx hb dWlk_stepOfWay_14 (by decide) (fun c3 => ?_) (fun c3 => ?_)
    · have hm := sx_pos c3 hm
      refine lv_iload_n hx hb dWlk_stepOfWay_19 rfl (lv_at hl 2 rfl) ?_
      refine lv_istore (lv' := [(4, .int p0), (3, .int (wlk_distances p0.toNatClampNeg)), (0, .ref h_wlk), (1, .int p0), (2, .int p1)]) hx hb dWlk_stepOfWay_20 hl (by decide) rfl (fun ls hl => ?_)
      refine lv_iload_n hx hb dWlk_stepOfWay_22 rfl (lv_at hl 1 rfl) ?_
      refine lv_iconst (v := (1 : Int32)) hx hb dWlk_stepOfWay_23 (by decide) ?_
      refine lv_isub hx hb dWlk_stepOfWay_24 ?_
      refine lv_istore (lv' := [(5, .int ((wlk_distances p0.toNatClampNeg) - (1 : Int32))), (4, .int p0), (3, .int (wlk_distances p0.toNatClampNeg)), (0, .ref h_wlk), (1, .int p0), (2, .int p1)]) hx hb dWlk_stepOfWay_25 hl (by decide) rfl (fun ls hl => ?_)
      obtain ⟨v6, hv6, hm⟩ := sx_bind hm
      refine w_Wlk_stepOfWay_27 C0 h_wlk a_wlk_distances a_wlk_order a_wlk_parents a_wlk_steps a_wlk_settledPairs wlk_distances wlk_parents wlk_steps wlk_words wlk_reached wlk_doubts wlk_doubtState wlk_doubtChoice p1 hP hD hS _ p0 ((wlk_distances p0.toNatClampNeg) - (1 : Int32)) v6 hv6 _ (lv_sub hl [3, 5, 1, 0] rfl) ?_
      intro ls hl
      refine lv_aload_n hx hb dWlk_stepOfWay_48 rfl (lv_at hl 0 rfl) ?_
      refine va_get (D := (dC, dI)) (ci := 3) (v := .ref a_wlk_steps) (C := RWlk) (T := TWlk) (N := 10) hx hb hts inWlk hown hK hP 0 rfl rfl 3 (by decide) (hts _ tw_140) (fun _ h9 => h9) rfl dWlk_stepOfWay_49 ?_
      refine lv_iload hx hb dWlk_stepOfWay_52 (lv_at hl 1 rfl) ?_
      obtain ⟨g7, hm⟩ := gd_el hm
      refine va_iald hx hb hK hP 3 0 rfl rfl g7 dWlk_stepOfWay_54 ?_
      obtain rfl := Option.some.inj hm
      exact W.iret (v := wlk_steps v6.toNatClampNeg) hx hb hr (fun t ht hW => ⟨rfl, ht⟩) (fun q hq => nomatch hq) dWlk_stepOfWay_55
    · have hm := sx_neg c3 hm
      refine lv_iconst (v := (-1 : Int32)) hx hb dWlk_stepOfWay_17 (by decide) ?_
      obtain rfl := Option.some.inj hm
      exact W.iret (v := (-1 : Int32)) hx hb hr (fun t ht hW => ⟨rfl, ht⟩) (fun q hq => nomatch hq) dWlk_stepOfWay_18
noncomputable def L_Wlk_reachedAt_4 (wlk_distances wlk_order : Nat → Int32) (wlk_reached : Int32) (x1 : Int32) : Nat → Int32 → Int32 → Option (Int32)
  | 0, _, _ => none
  | n + 1, x2, x3 => (if wlk_reached ≤ x3 then some x2 else gd (vp_in x3 256) (gd (vp_in (wlk_order x3.toNatClampNeg) 256) ((if wlk_distances (wlk_order x3.toNatClampNeg).toNatClampNeg = x1 then (L_Wlk_reachedAt_4 wlk_distances wlk_order wlk_reached x1 n (x2 + (1 : Int32)) (x3 + (1 : Int32))) else (L_Wlk_reachedAt_4 wlk_distances wlk_order wlk_reached x1 n x2 (x3 + (1 : Int32)))))))
noncomputable def m_Wlk_reachedAt (wlk_distances wlk_order : Nat → Int32) (wlk_reached : Int32) (p0 : Int32) : Option (Int32) := ((L_Wlk_reachedAt_4 wlk_distances wlk_order wlk_reached p0 fu (0 : Int32) (0 : Int32)).bind (fun v5 => some v5))
def rm_Wlk_reachedAt : Room := { frames := 0, cells := 0, slots := 0, locals := 0 }
set_option maxHeartbeats 4000000 in
set_option maxRecDepth 100000 in
theorem w_Wlk_reachedAt_4 {p : Program} {l : Launch} {e : Env} {s : State} {m : MethodId} {args : Array Value} {below : List Frame} {meth : Method} {c : Code} {dC : Nat → ClassId} {dI : Nat → Nat → Nat} {cI cL cZ : ClassId} {A : Nat → Prop} {Q : State → Prop} {t1 t2 : Nat} (C0 : sx_C p s m args meth c cWlk_reachedAt 4 "StateExplorer$Walk" A (dC, dI) [(cI, .int), (cL, .long), (cZ, .boolean)] t1 t2) (h_wlk a_wlk_distances a_wlk_order a_wlk_parents a_wlk_steps a_wlk_settledPairs : Nat) (wlk_distances wlk_order : Nat → Int32) (wlk_words wlk_reached wlk_doubts wlk_doubtState wlk_doubtChoice : Int32) (x1 : Int32) {H : Heap} {locs : List Loc} (hP : va_P (dC, dI) vwCl [(h_wlk, .inr (3, [.ref a_wlk_distances, .ref a_wlk_order, .ref a_wlk_parents, .ref a_wlk_steps, .ref a_wlk_settledPairs, .int wlk_words, .int wlk_reached, .int wlk_doubts, .int wlk_doubtState, .int wlk_doubtChoice])), (a_wlk_distances, .inl (cI, 256, .inl wlk_distances)), (a_wlk_order, .inl (cI, 256, .inl wlk_order))] H) (hD : va_D A [(h_wlk, .inr (3, [.ref a_wlk_distances, .ref a_wlk_order, .ref a_wlk_parents, .ref a_wlk_steps, .ref a_wlk_settledPairs, .int wlk_words, .int wlk_reached, .int wlk_doubts, .int wlk_doubtState, .int wlk_doubtChoice])), (a_wlk_distances, .inl (cI, 256, .inl wlk_distances)), (a_wlk_order, .inl (cI, 256, .inl wlk_order))]) (hS : va_S A s.heap H locs) :
    ∀ (n : Nat) (x2 : Int32) (x3 : Int32)  (r : Int32), L_Wlk_reachedAt_4 wlk_distances wlk_order wlk_reached x1 n x2 x3 = some r → ∀ (ls : Array Slot), lv_has ls 4 [(0, .ref h_wlk), (1, .int x1), (2, .int x2), (3, .int x3)] →
    (∀ (ls : Array Slot), lv_has ls 4 [(2, .int r)] → W p l e (headSpec wsWlk_reachedAt rm_Wlk_reachedAt).room s m args below meth c H locs 0 0 Q (F0 m 36 ls [])) →
    W p l e (headSpec wsWlk_reachedAt rm_Wlk_reachedAt).room s m args below meth c H locs 0 0 Q (F0 m 4 ls []) := by
  obtain ⟨hx, hb, hml, hown, hts, hA, hK, hlocks, hX⟩ := id C0
  intro n
  induction n with
  | zero => intro x2 x3 r hm; rw [L_Wlk_reachedAt_4] at hm; cases hm
  | succ n ih =>
    intro x2 x3 r hm ls hl k1
    rw [L_Wlk_reachedAt_4] at hm
    refine lv_iload_n hx hb dWlk_reachedAt_4 rfl (lv_at hl 3 rfl) ?_
    refine lv_aload_n hx hb dWlk_reachedAt_5 rfl (lv_at hl 0 rfl) ?_
    refine va_get (D := (dC, dI)) (ci := 3) (v := .int wlk_reached) (C := RWlk) (T := TWlk) (N := 10) hx hb hts inWlk hown hK hP 0 rfl rfl 6 (by decide) (hts _ tw_143) (fun _ h9 => h9) rfl dWlk_reachedAt_6 ?_
    refine lv_icmp_ge (tgt := 36) hx hb dWlk_reachedAt_9 (by decide) (fun c1 => ?_) (fun c1 => ?_)
    · have hm := sx_pos c1 hm
      obtain rfl := Option.some.inj hm
      exact k1 _ (lv_sub hl [2] rfl)
    · have hm := sx_neg c1 hm
      refine lv_aload_n hx hb dWlk_reachedAt_12 rfl (lv_at hl 0 rfl) ?_
      refine va_get (D := (dC, dI)) (ci := 3) (v := .ref a_wlk_distances) (C := RWlk) (T := TWlk) (N := 10) hx hb hts inWlk hown hK hP 0 rfl rfl 0 (by decide) (hts _ tw_135) (fun _ h9 => h9) rfl dWlk_reachedAt_13 ?_
      refine lv_aload_n hx hb dWlk_reachedAt_16 rfl (lv_at hl 0 rfl) ?_
      refine va_get (D := (dC, dI)) (ci := 3) (v := .ref a_wlk_order) (C := RWlk) (T := TWlk) (N := 10) hx hb hts inWlk hown hK hP 0 rfl rfl 1 (by decide) (hts _ tw_138) (fun _ h9 => h9) rfl dWlk_reachedAt_17 ?_
      refine lv_iload_n hx hb dWlk_reachedAt_20 rfl (lv_at hl 3 rfl) ?_
      obtain ⟨g2, hm⟩ := gd_el hm
      refine va_iald hx hb hK hP 2 0 rfl rfl g2 dWlk_reachedAt_21 ?_
      obtain ⟨g3, hm⟩ := gd_el hm
      refine va_iald hx hb hK hP 1 0 rfl rfl g3 dWlk_reachedAt_22 ?_
      refine lv_iload_n hx hb dWlk_reachedAt_23 rfl (lv_at hl 1 rfl) ?_
      refine lv_icmp_ne (tgt := 30) hx hb dWlk_reachedAt_24 (by decide) (fun c4 => ?_) (fun c4 => ?_)
      · have hm := sx_neg c4 hm
        refine lv_iinc (v := x3 + (1 : Int32)) (lv' := [(3, .int (x3 + (1 : Int32))), (0, .ref h_wlk), (1, .int x1), (2, .int x2)]) hx hb dWlk_reachedAt_30 hl (k := 3) rfl rfl (by decide) rfl (fun ls hl => ?_)
        refine lv_goto (tgt := 4) hx hb dWlk_reachedAt_33 (by decide) ?_
        exact ih x2 (x3 + (1 : Int32)) r hm _ (lv_sub hl [1, 2, 3, 0] rfl) k1
      · have hm := sx_pos c4 hm
        refine lv_iinc (v := x2 + (1 : Int32)) (lv' := [(2, .int (x2 + (1 : Int32))), (0, .ref h_wlk), (1, .int x1), (3, .int x3)]) hx hb dWlk_reachedAt_27 hl (k := 2) rfl rfl (by decide) rfl (fun ls hl => ?_)
        refine lv_iinc (v := x3 + (1 : Int32)) (lv' := [(3, .int (x3 + (1 : Int32))), (2, .int (x2 + (1 : Int32))), (0, .ref h_wlk), (1, .int x1)]) hx hb dWlk_reachedAt_30 hl (k := 3) rfl rfl (by decide) rfl (fun ls hl => ?_)
        refine lv_goto (tgt := 4) hx hb dWlk_reachedAt_33 (by decide) ?_
        exact ih (x2 + (1 : Int32)) (x3 + (1 : Int32)) r hm _ (lv_sub hl [2, 3, 1, 0] rfl) k1
set_option maxHeartbeats 4000000 in
set_option maxRecDepth 100000 in
theorem k_Wlk_reachedAt (l : Launch) (dC : Nat → ClassId) (dI : Nat → Nat → Nat) (cI cL cZ : ClassId) (t1 t2 : Nat) (h_wlk a_wlk_distances a_wlk_order a_wlk_parents a_wlk_steps a_wlk_settledPairs : Nat) (wlk_distances wlk_order : Nat → Int32) (wlk_words wlk_reached wlk_doubts wlk_doubtState wlk_doubtChoice : Int32) (sz : Nat) (p0 : Int32) (v : Int32) (hm : m_Wlk_reachedAt wlk_distances wlk_order wlk_reached p0 = some v) : Met l yWlk_reachedAt wsWlk_reachedAt rm_Wlk_reachedAt (sx_Pc (dC, dI) [(cI, .int), (cL, .long), (cZ, .boolean)] t1 t2 [(h_wlk, .inr (3, [.ref a_wlk_distances, .ref a_wlk_order, .ref a_wlk_parents, .ref a_wlk_steps, .ref a_wlk_settledPairs, .int wlk_words, .int wlk_reached, .int wlk_doubts, .int wlk_doubtState, .int wlk_doubtChoice])), (a_wlk_distances, .inl (cI, 256, .inl wlk_distances)), (a_wlk_order, .inl (cI, 256, .inl wlk_order))] sz [.ref h_wlk, .int p0]) (sx_Si v) 0 0 (fun _ => False) := by
  refine Met.ofW (cc := cWlk_reachedAt) (maxL := 4) (ret := (some .int)) (by decide) rfl ?_
  intro p e s m args below meth c s₁ B hml hv
  obtain ⟨rfl, hsz, hP, hK, hD0, hX⟩ := hv
  have hx := B.exec
  have hb := B.bytes
  have hr := B.returns
  have hts0 := atoms_spec (ws := wsWlk_reachedAt) B.pre
  have hts : ∀ w ∈ tb, w.before _ s = true := fun w h => hts0 w (List.mem_cons_of_mem _ h)
  have hown : s.vm.findClass "StateExplorer$Walk" = some m.cls := findClass_of_methodNamed B.named
  have hlocks := B.notSynchronized
  subst hsz
  have hD := hD0.self (sz := s.heap.size)
  generalize hAe : va_A [(h_wlk, .inr (3, [.ref a_wlk_distances, .ref a_wlk_order, .ref a_wlk_parents, .ref a_wlk_steps, .ref a_wlk_settledPairs, .int wlk_words, .int wlk_reached, .int wlk_doubts, .int wlk_doubtState, .int wlk_doubtChoice])), (a_wlk_distances, .inl (cI, 256, .inl wlk_distances)), (a_wlk_order, .inl (cI, 256, .inl wlk_order))] s.heap.size = A at hD hX 
  have hA : ∀ q : Nat, s.heap.size ≤ q → A q := fun q h => by rw [← hAe]; exact Or.inr h
  have hS : va_S A s.heap s.heap [] := va_S.rf
  have hl := lv_entry ([.ref h_wlk, .int p0]) (n := 4) (Nat.le_of_ble_eq_true rfl)
  rw [lg_entry_eq]
  generalize (lg_sl ([.ref h_wlk, .int p0]) ++ List.replicate (4 - (lg_sl ([.ref h_wlk, .int p0])).length) Slot.unset).toArray = ls at hl ⊢
  have hl : lv_has ls 4 [(0, .ref h_wlk), (1, .int p0)] := hl
  have C0 : sx_C p s m _ meth c cWlk_reachedAt 4 "StateExplorer$Walk" A (dC, dI) [(cI, .int), (cL, .long), (cZ, .boolean)] t1 t2 := ⟨hx, hb, hml, hown, hts, hA, hK, hlocks, hX⟩
  rw [m_Wlk_reachedAt] at hm
  refine lv_iconst (v := (0 : Int32)) hx hb dWlk_reachedAt_0 (by decide) ?_
  refine lv_istore_n (lv' := [(2, .int (0 : Int32)), (0, .ref h_wlk), (1, .int p0)]) hx hb dWlk_reachedAt_1 rfl hl (by decide) rfl (fun ls hl => ?_)
  refine lv_iconst (v := (0 : Int32)) hx hb dWlk_reachedAt_2 (by decide) ?_
  refine lv_istore_n (lv' := [(3, .int (0 : Int32)), (2, .int (0 : Int32)), (0, .ref h_wlk), (1, .int p0)]) hx hb dWlk_reachedAt_3 rfl hl (by decide) rfl (fun ls hl => ?_)
  obtain ⟨v5, hv5, hm⟩ := sx_bind hm
  refine w_Wlk_reachedAt_4 C0 h_wlk a_wlk_distances a_wlk_order a_wlk_parents a_wlk_steps a_wlk_settledPairs wlk_distances wlk_order wlk_words wlk_reached wlk_doubts wlk_doubtState wlk_doubtChoice p0 hP hD hS _ (0 : Int32) (0 : Int32) v5 hv5 _ (lv_sub hl [2, 3, 1, 0] rfl) ?_
  intro ls hl
  refine lv_iload_n hx hb dWlk_reachedAt_36 rfl (lv_at hl 0 rfl) ?_
  obtain rfl := Option.some.inj hm
  exact W.iret (v := v5) hx hb hr (fun t ht hW => ⟨rfl, ht⟩) (fun q hq => nomatch hq) dWlk_reachedAt_37
noncomputable def m_Wlk_greatestDistance (wlk_distances wlk_order : Nat → Int32) (wlk_reached : Int32)  : Option (Int32) := gd (vp_in (wlk_reached - (1 : Int32)) 256) (gd (vp_in (wlk_order (wlk_reached - (1 : Int32)).toNatClampNeg) 256) (some (wlk_distances (wlk_order (wlk_reached - (1 : Int32)).toNatClampNeg).toNatClampNeg)))
def rm_Wlk_greatestDistance : Room := { frames := 0, cells := 0, slots := 0, locals := 0 }
set_option maxHeartbeats 4000000 in
set_option maxRecDepth 100000 in
theorem k_Wlk_greatestDistance (l : Launch) (dC : Nat → ClassId) (dI : Nat → Nat → Nat) (cI cL cZ : ClassId) (t1 t2 : Nat) (h_wlk a_wlk_distances a_wlk_order a_wlk_parents a_wlk_steps a_wlk_settledPairs : Nat) (wlk_distances wlk_order : Nat → Int32) (wlk_words wlk_reached wlk_doubts wlk_doubtState wlk_doubtChoice : Int32) (sz : Nat)  (v : Int32) (hm : m_Wlk_greatestDistance wlk_distances wlk_order wlk_reached = some v) : Met l yWlk_greatestDistance wsWlk_greatestDistance rm_Wlk_greatestDistance (sx_Pc (dC, dI) [(cI, .int), (cL, .long), (cZ, .boolean)] t1 t2 [(h_wlk, .inr (3, [.ref a_wlk_distances, .ref a_wlk_order, .ref a_wlk_parents, .ref a_wlk_steps, .ref a_wlk_settledPairs, .int wlk_words, .int wlk_reached, .int wlk_doubts, .int wlk_doubtState, .int wlk_doubtChoice])), (a_wlk_distances, .inl (cI, 256, .inl wlk_distances)), (a_wlk_order, .inl (cI, 256, .inl wlk_order))] sz [.ref h_wlk]) (sx_Si v) 0 0 (fun _ => False) := by
  refine Met.ofW (cc := cWlk_greatestDistance) (maxL := 1) (ret := (some .int)) (by decide) rfl ?_
  intro p e s m args below meth c s₁ B hml hv
  obtain ⟨rfl, hsz, hP, hK, hD0, hX⟩ := hv
  have hx := B.exec
  have hb := B.bytes
  have hr := B.returns
  have hts0 := atoms_spec (ws := wsWlk_greatestDistance) B.pre
  have hts : ∀ w ∈ tb, w.before _ s = true := fun w h => hts0 w (List.mem_cons_of_mem _ h)
  have hown : s.vm.findClass "StateExplorer$Walk" = some m.cls := findClass_of_methodNamed B.named
  have hlocks := B.notSynchronized
  subst hsz
  have hD := hD0.self (sz := s.heap.size)
  generalize hAe : va_A [(h_wlk, .inr (3, [.ref a_wlk_distances, .ref a_wlk_order, .ref a_wlk_parents, .ref a_wlk_steps, .ref a_wlk_settledPairs, .int wlk_words, .int wlk_reached, .int wlk_doubts, .int wlk_doubtState, .int wlk_doubtChoice])), (a_wlk_distances, .inl (cI, 256, .inl wlk_distances)), (a_wlk_order, .inl (cI, 256, .inl wlk_order))] s.heap.size = A at hD hX 
  have hA : ∀ q : Nat, s.heap.size ≤ q → A q := fun q h => by rw [← hAe]; exact Or.inr h
  have hS : va_S A s.heap s.heap [] := va_S.rf
  have hl := lv_entry ([.ref h_wlk]) (n := 1) (Nat.le_of_ble_eq_true rfl)
  rw [lg_entry_eq]
  generalize (lg_sl ([.ref h_wlk]) ++ List.replicate (1 - (lg_sl ([.ref h_wlk])).length) Slot.unset).toArray = ls at hl ⊢
  have hl : lv_has ls 1 [(0, .ref h_wlk)] := hl
  have C0 : sx_C p s m _ meth c cWlk_greatestDistance 1 "StateExplorer$Walk" A (dC, dI) [(cI, .int), (cL, .long), (cZ, .boolean)] t1 t2 := ⟨hx, hb, hml, hown, hts, hA, hK, hlocks, hX⟩
  rw [m_Wlk_greatestDistance] at hm
  refine lv_aload_n hx hb dWlk_greatestDistance_0 rfl (lv_at hl 0 rfl) ?_
  refine va_get (D := (dC, dI)) (ci := 3) (v := .ref a_wlk_distances) (C := RWlk) (T := TWlk) (N := 10) hx hb hts inWlk hown hK hP 0 rfl rfl 0 (by decide) (hts _ tw_135) (fun _ h9 => h9) rfl dWlk_greatestDistance_1 ?_
  refine lv_aload_n hx hb dWlk_greatestDistance_4 rfl (lv_at hl 0 rfl) ?_
  refine va_get (D := (dC, dI)) (ci := 3) (v := .ref a_wlk_order) (C := RWlk) (T := TWlk) (N := 10) hx hb hts inWlk hown hK hP 0 rfl rfl 1 (by decide) (hts _ tw_138) (fun _ h9 => h9) rfl dWlk_greatestDistance_5 ?_
  refine lv_aload_n hx hb dWlk_greatestDistance_8 rfl (lv_at hl 0 rfl) ?_
  refine va_get (D := (dC, dI)) (ci := 3) (v := .int wlk_reached) (C := RWlk) (T := TWlk) (N := 10) hx hb hts inWlk hown hK hP 0 rfl rfl 6 (by decide) (hts _ tw_143) (fun _ h9 => h9) rfl dWlk_greatestDistance_9 ?_
  refine lv_iconst (v := (1 : Int32)) hx hb dWlk_greatestDistance_12 (by decide) ?_
  refine lv_isub hx hb dWlk_greatestDistance_13 ?_
  obtain ⟨g1, hm⟩ := gd_el hm
  refine va_iald hx hb hK hP 2 0 rfl rfl g1 dWlk_greatestDistance_14 ?_
  obtain ⟨g2, hm⟩ := gd_el hm
  refine va_iald hx hb hK hP 1 0 rfl rfl g2 dWlk_greatestDistance_15 ?_
  obtain rfl := Option.some.inj hm
  exact W.iret (v := wlk_distances (wlk_order (wlk_reached - (1 : Int32)).toNatClampNeg).toNatClampNeg) hx hb hr (fun t ht hW => ⟨rfl, ht⟩) (fun q hq => nomatch hq) dWlk_greatestDistance_16
noncomputable def L_Wlk_isEver_17 (tab_values wlk_settledPairs : Nat → Int64) (wlk_words : Int32) (x2 : Int32) (x4 : Int64) : Nat → Int32 → Option ((Unit) ⊕ (Unit))
  | 0, _ => none
  | n + 1, x6 => (if wlk_words ≤ x6 then some (.inr ()) else gd (vp_in ((x2 * (64 : Int32)) + x6) 3840) (gd (vp_in x6 64) ((if lg_cmp (((tab_values ((x2 * (64 : Int32)) + x6).toNatClampNeg) ^^^ x4) &&& (wlk_settledPairs x6.toNatClampNeg)) (0 : Int64) = (0 : Int32) then (L_Wlk_isEver_17 tab_values wlk_settledPairs wlk_words x2 x4 n (x6 + (1 : Int32))) else some (.inl ())))))
noncomputable def m_Wlk_isEver (tab_values wlk_settledPairs : Nat → Int64) (wlk_words : Int32) (p1 : Int32) (p2 : Int32) : Option (Int32) := (sx_let (fun (z0J1 : Int64) => ((L_Wlk_isEver_17 tab_values wlk_settledPairs wlk_words p1 z0J1 fu (0 : Int32)).bind (Sum.elim (fun v7 => some (1 : Int32)) (fun v8 => some (0 : Int32))))) (fun J1 => (if p2 = (1 : Int32) then (J1 (0 : Int64)) else (J1 (-1 : Int64)))))
def rm_Wlk_isEver : Room := { frames := 0, cells := 0, slots := 0, locals := 0 }
set_option maxHeartbeats 4000000 in
set_option maxRecDepth 100000 in
theorem w_Wlk_isEver_17 {p : Program} {l : Launch} {e : Env} {s : State} {m : MethodId} {args : Array Value} {below : List Frame} {meth : Method} {c : Code} {dC : Nat → ClassId} {dI : Nat → Nat → Nat} {cI cL cZ : ClassId} {A : Nat → Prop} {Q : State → Prop} {t1 t2 : Nat} (C0 : sx_C p s m args meth c cWlk_isEver 9 "StateExplorer$Walk" A (dC, dI) [(cI, .int), (cL, .long), (cZ, .boolean)] t1 t2) (h_tab a_tab_known a_tab_settled a_tab_values a_tab_nextStates h_wlk a_wlk_distances a_wlk_order a_wlk_parents a_wlk_steps a_wlk_settledPairs : Nat) (tab_values wlk_settledPairs : Nat → Int64) (wlk_words wlk_reached wlk_doubts wlk_doubtState wlk_doubtChoice : Int32) (x2 : Int32) (x4 : Int64) {H : Heap} {locs : List Loc} (hP : va_P (dC, dI) vwCl [(h_tab, .inr (2, [.ref a_tab_known, .ref a_tab_settled, .ref a_tab_values, .ref a_tab_nextStates])), (h_wlk, .inr (3, [.ref a_wlk_distances, .ref a_wlk_order, .ref a_wlk_parents, .ref a_wlk_steps, .ref a_wlk_settledPairs, .int wlk_words, .int wlk_reached, .int wlk_doubts, .int wlk_doubtState, .int wlk_doubtChoice])), (a_tab_values, .inl (cL, 3840, .inr (.inl tab_values))), (a_wlk_settledPairs, .inl (cL, 64, .inr (.inl wlk_settledPairs)))] H) (hD : va_D A [(h_tab, .inr (2, [.ref a_tab_known, .ref a_tab_settled, .ref a_tab_values, .ref a_tab_nextStates])), (h_wlk, .inr (3, [.ref a_wlk_distances, .ref a_wlk_order, .ref a_wlk_parents, .ref a_wlk_steps, .ref a_wlk_settledPairs, .int wlk_words, .int wlk_reached, .int wlk_doubts, .int wlk_doubtState, .int wlk_doubtChoice])), (a_tab_values, .inl (cL, 3840, .inr (.inl tab_values))), (a_wlk_settledPairs, .inl (cL, 64, .inr (.inl wlk_settledPairs)))]) (hS : va_S A s.heap H locs) :
    ∀ (n : Nat) (x6 : Int32)  (r : (Unit) ⊕ (Unit)), L_Wlk_isEver_17 tab_values wlk_settledPairs wlk_words x2 x4 n x6 = some r → ∀ (ls : Array Slot), lv_has ls 9 [(0, .ref h_wlk), (1, .ref h_tab), (2, .int x2), (4, .long x4), (6, .int x6)] →
    (∀ (y : Unit), r = .inl y → ∀ (ls : Array Slot), lv_has ls 9 [] → W p l e (headSpec wsWlk_isEver rm_Wlk_isEver).room s m args below meth c H locs 0 0 Q (F0 m 58 ls [])) →
    (∀ (y : Unit), r = .inr y → ∀ (ls : Array Slot), lv_has ls 9 [] → W p l e (headSpec wsWlk_isEver rm_Wlk_isEver).room s m args below meth c H locs 0 0 Q (F0 m 66 ls [])) →
    W p l e (headSpec wsWlk_isEver rm_Wlk_isEver).room s m args below meth c H locs 0 0 Q (F0 m 17 ls []) := by
  obtain ⟨hx, hb, hml, hown, hts, hA, hK, hlocks, hX⟩ := id C0
  intro n
  induction n with
  | zero => intro x6 r hm; rw [L_Wlk_isEver_17] at hm; cases hm
  | succ n ih =>
    intro x6 r hm ls hl k1 k2
    rw [L_Wlk_isEver_17] at hm
    refine lv_iload hx hb dWlk_isEver_17 (lv_at hl 4 rfl) ?_
    refine lv_aload_n hx hb dWlk_isEver_19 rfl (lv_at hl 0 rfl) ?_
    refine va_get (D := (dC, dI)) (ci := 3) (v := .int wlk_words) (C := RWlk) (T := TWlk) (N := 10) hx hb hts inWlk hown hK hP 1 rfl rfl 5 (by decide) (hts _ tw_142) (fun _ h9 => h9) rfl dWlk_isEver_20 ?_
    refine lv_icmp_ge (tgt := 66) hx hb dWlk_isEver_23 (by decide) (fun c2 => ?_) (fun c2 => ?_)
    · have hm := sx_pos c2 hm
      obtain rfl := Option.some.inj hm
      exact k2 _ rfl _ (lv_sub hl [] rfl)
    · have hm := sx_neg c2 hm
      refine lv_aload_n hx hb dWlk_isEver_26 rfl (lv_at hl 1 rfl) ?_
      refine va_get (D := (dC, dI)) (ci := 2) (v := .ref a_tab_values) (C := RTab) (T := TTab) (N := 4) hx hb hts inTab hown hK hP 0 rfl rfl 2 (by decide) (hts _ tw_117) (fun _ h9 => h9) rfl dWlk_isEver_27 ?_
      refine lv_iload_n hx hb dWlk_isEver_30 rfl (lv_at hl 2 rfl) ?_
      refine lv_bipush (v := (64 : Int32)) hx hb dWlk_isEver_31 (by decide) ?_
      refine lv_imul hx hb dWlk_isEver_33 ?_
      refine lv_iload hx hb dWlk_isEver_34 (lv_at hl 4 rfl) ?_
      refine lv_iadd hx hb dWlk_isEver_36 ?_
      obtain ⟨g3, hm⟩ := gd_el hm
      refine va_lald hx hb hK hP 2 1 rfl rfl g3 dWlk_isEver_37 ?_
      refine lv_lload hx hb dWlk_isEver_38 (lv_at hl 3 rfl) ?_
      refine lv_lxor hx hb dWlk_isEver_40 ?_
      refine lv_lstore (lv' := [(7, .long ((tab_values ((x2 * (64 : Int32)) + x6).toNatClampNeg) ^^^ x4)), (0, .ref h_wlk), (1, .ref h_tab), (2, .int x2), (4, .long x4), (6, .int x6)]) hx hb dWlk_isEver_41 hl (by decide) rfl (fun ls hl => ?_)
      refine lv_lload hx hb dWlk_isEver_43 (lv_at hl 0 rfl) ?_
      refine lv_aload_n hx hb dWlk_isEver_45 rfl (lv_at hl 1 rfl) ?_
      refine va_get (D := (dC, dI)) (ci := 3) (v := .ref a_wlk_settledPairs) (C := RWlk) (T := TWlk) (N := 10) hx hb hts inWlk hown hK hP 1 rfl rfl 4 (by decide) (hts _ tw_141) (fun _ h9 => h9) rfl dWlk_isEver_46 ?_
      refine lv_iload hx hb dWlk_isEver_49 (lv_at hl 5 rfl) ?_
      obtain ⟨g4, hm⟩ := gd_el hm
      refine va_lald hx hb hK hP 3 1 rfl rfl g4 dWlk_isEver_51 ?_
      refine lv_land hx hb dWlk_isEver_52 ?_
      refine lv_lconst (v := (0 : Int64)) hx hb dWlk_isEver_53 (by decide) ?_
      refine W.lcmp hx hb dWlk_isEver_54 ?_
      refine lv_if_eq (tgt := 60) hx hb dWlk_isEver_55 (by decide) (fun c5 => ?_) (fun c5 => ?_)
      · have hm := sx_pos c5 hm
        refine lv_iinc (v := x6 + (1 : Int32)) (lv' := [(6, .int (x6 + (1 : Int32))), (7, .long ((tab_values ((x2 * (64 : Int32)) + x6).toNatClampNeg) ^^^ x4)), (0, .ref h_wlk), (1, .ref h_tab), (2, .int x2), (4, .long x4)]) hx hb dWlk_isEver_60 hl (k := 5) rfl rfl (by decide) rfl (fun ls hl => ?_)
        refine lv_goto (tgt := 17) hx hb dWlk_isEver_63 (by decide) ?_
        exact ih (x6 + (1 : Int32)) r hm _ (lv_sub hl [2, 3, 4, 5, 0] rfl) k1 k2
      · have hm := sx_neg c5 hm
        obtain rfl := Option.some.inj hm
        exact k1 _ rfl _ (lv_sub hl [] rfl)
set_option maxHeartbeats 4000000 in
set_option maxRecDepth 100000 in
theorem k_Wlk_isEver (l : Launch) (dC : Nat → ClassId) (dI : Nat → Nat → Nat) (cI cL cZ : ClassId) (t1 t2 : Nat) (h_tab a_tab_known a_tab_settled a_tab_values a_tab_nextStates h_wlk a_wlk_distances a_wlk_order a_wlk_parents a_wlk_steps a_wlk_settledPairs : Nat) (tab_values wlk_settledPairs : Nat → Int64) (wlk_words wlk_reached wlk_doubts wlk_doubtState wlk_doubtChoice : Int32) (sz : Nat) (p1 : Int32) (p2 : Int32) (v : Int32) (hm : m_Wlk_isEver tab_values wlk_settledPairs wlk_words p1 p2 = some v) : Met l yWlk_isEver wsWlk_isEver rm_Wlk_isEver (sx_Pc (dC, dI) [(cI, .int), (cL, .long), (cZ, .boolean)] t1 t2 [(h_tab, .inr (2, [.ref a_tab_known, .ref a_tab_settled, .ref a_tab_values, .ref a_tab_nextStates])), (h_wlk, .inr (3, [.ref a_wlk_distances, .ref a_wlk_order, .ref a_wlk_parents, .ref a_wlk_steps, .ref a_wlk_settledPairs, .int wlk_words, .int wlk_reached, .int wlk_doubts, .int wlk_doubtState, .int wlk_doubtChoice])), (a_tab_values, .inl (cL, 3840, .inr (.inl tab_values))), (a_wlk_settledPairs, .inl (cL, 64, .inr (.inl wlk_settledPairs)))] sz [.ref h_wlk, .ref h_tab, .int p1, .int p2]) (sx_Si v) 0 0 (fun _ => False) := by
  refine Met.ofW (cc := cWlk_isEver) (maxL := 9) (ret := (some .boolean)) (by decide) rfl ?_
  intro p e s m args below meth c s₁ B hml hv
  obtain ⟨rfl, hsz, hP, hK, hD0, hX⟩ := hv
  have hx := B.exec
  have hb := B.bytes
  have hr := B.returns
  have hts0 := atoms_spec (ws := wsWlk_isEver) B.pre
  have hts : ∀ w ∈ tb, w.before _ s = true := fun w h => hts0 w (List.mem_cons_of_mem _ h)
  have hown : s.vm.findClass "StateExplorer$Walk" = some m.cls := findClass_of_methodNamed B.named
  have hlocks := B.notSynchronized
  subst hsz
  have hD := hD0.self (sz := s.heap.size)
  generalize hAe : va_A [(h_tab, .inr (2, [.ref a_tab_known, .ref a_tab_settled, .ref a_tab_values, .ref a_tab_nextStates])), (h_wlk, .inr (3, [.ref a_wlk_distances, .ref a_wlk_order, .ref a_wlk_parents, .ref a_wlk_steps, .ref a_wlk_settledPairs, .int wlk_words, .int wlk_reached, .int wlk_doubts, .int wlk_doubtState, .int wlk_doubtChoice])), (a_tab_values, .inl (cL, 3840, .inr (.inl tab_values))), (a_wlk_settledPairs, .inl (cL, 64, .inr (.inl wlk_settledPairs)))] s.heap.size = A at hD hX 
  have hA : ∀ q : Nat, s.heap.size ≤ q → A q := fun q h => by rw [← hAe]; exact Or.inr h
  have hS : va_S A s.heap s.heap [] := va_S.rf
  have hl := lv_entry ([.ref h_wlk, .ref h_tab, .int p1, .int p2]) (n := 9) (Nat.le_of_ble_eq_true rfl)
  rw [lg_entry_eq]
  generalize (lg_sl ([.ref h_wlk, .ref h_tab, .int p1, .int p2]) ++ List.replicate (9 - (lg_sl ([.ref h_wlk, .ref h_tab, .int p1, .int p2])).length) Slot.unset).toArray = ls at hl ⊢
  have hl : lv_has ls 9 [(0, .ref h_wlk), (1, .ref h_tab), (2, .int p1), (3, .int p2)] := hl
  have C0 : sx_C p s m _ meth c cWlk_isEver 9 "StateExplorer$Walk" A (dC, dI) [(cI, .int), (cL, .long), (cZ, .boolean)] t1 t2 := ⟨hx, hb, hml, hown, hts, hA, hK, hlocks, hX⟩
  rw [m_Wlk_isEver] at hm
  refine lv_iload_n hx hb dWlk_isEver_0 rfl (lv_at hl 3 rfl) ?_
  refine lv_iconst (v := (1 : Int32)) hx hb dWlk_isEver_1 (by decide) ?_
  obtain ⟨J1, hJ1, hm⟩ := sx_lj hm
  have jJ1 : ∀ (z0J1 : Int64), J1 z0J1 = some v → ∀ (ls : Array Slot), lv_has ls 9 [(0, .ref h_wlk), (1, .ref h_tab), (2, .int p1)] → W p l e (headSpec wsWlk_isEver rm_Wlk_isEver).room s m ([.ref h_wlk, .ref h_tab, .int p1, .int p2]).toArray below meth c s.heap [] 0 0 (MQ below (sx_Si v) ([.ref h_wlk, .ref h_tab, .int p1, .int p2]).toArray s 0 0 (fun _ => False)) (F0 m 12 ls [.long z0J1]) := by
    intro z0J1 hm ls hl
    rw [hJ1] at hm
    dsimp only at hm
    refine lv_lstore (lv' := [(4, .long z0J1), (0, .ref h_wlk), (1, .ref h_tab), (2, .int p1)]) hx hb dWlk_isEver_12 hl (by decide) rfl (fun ls hl => ?_)
    refine lv_iconst (v := (0 : Int32)) hx hb dWlk_isEver_14 (by decide) ?_
    refine lv_istore (lv' := [(6, .int (0 : Int32)), (4, .long z0J1), (0, .ref h_wlk), (1, .ref h_tab), (2, .int p1)]) hx hb dWlk_isEver_15 hl (by decide) rfl (fun ls hl => ?_)
    obtain ⟨v6, hv6, hm⟩ := sx_bind hm
    refine w_Wlk_isEver_17 C0 h_tab a_tab_known a_tab_settled a_tab_values a_tab_nextStates h_wlk a_wlk_distances a_wlk_order a_wlk_parents a_wlk_steps a_wlk_settledPairs tab_values wlk_settledPairs wlk_words wlk_reached wlk_doubts wlk_doubtState wlk_doubtChoice p1 z0J1 hP hD hS _ (0 : Int32) v6 hv6 _ (lv_sub hl [2, 3, 4, 1, 0] rfl) ?_ ?_
    · intro v7 he ls hl
      subst he
      refine lv_iconst (v := (1 : Int32)) hx hb dWlk_isEver_58 (by decide) ?_
      obtain rfl := Option.some.inj hm
      exact W.zret (v := (1 : Int32)) hx hb hr sx_z1 (fun t ht hW => ⟨rfl, ht⟩) (fun q hq => nomatch hq) dWlk_isEver_59
    · intro v8 he ls hl
      subst he
      refine lv_iconst (v := (0 : Int32)) hx hb dWlk_isEver_66 (by decide) ?_
      obtain rfl := Option.some.inj hm
      exact W.zret (v := (0 : Int32)) hx hb hr sx_z0 (fun t ht hW => ⟨rfl, ht⟩) (fun q hq => nomatch hq) dWlk_isEver_67
  refine lv_icmp_ne (tgt := 9) hx hb dWlk_isEver_2 (by decide) (fun c9 => ?_) (fun c9 => ?_)
  · have hm := sx_neg c9 hm
    refine lv_ldc2 (v := (-1 : Int64)) hx hb hown (hts _ tw_585) dWlk_isEver_9 ?_
    exact jJ1 (-1 : Int64) hm _ (lv_sub hl [0, 1, 2] rfl)
  · have hm := sx_pos c9 hm
    refine lv_lconst (v := (0 : Int64)) hx hb dWlk_isEver_5 (by decide) ?_
    refine lv_goto (tgt := 12) hx hb dWlk_isEver_6 (by decide) ?_
    exact jJ1 (0 : Int64) hm _ (lv_sub hl [0, 1, 2] rfl)
noncomputable def L_Wlk_everDiffer_3 (tab_values wlk_settledPairs : Nat → Int64) (wlk_words : Int32) (x2 : Int32) (x3 : Int32) : Nat → Int32 → Option ((Unit) ⊕ (Unit))
  | 0, _ => none
  | n + 1, x4 => (if wlk_words ≤ x4 then some (.inr ()) else gd (vp_in ((x2 * (64 : Int32)) + x4) 3840) (gd (vp_in ((x3 * (64 : Int32)) + x4) 3840) (gd (vp_in x4 64) ((if lg_cmp (((tab_values ((x2 * (64 : Int32)) + x4).toNatClampNeg) ^^^ (tab_values ((x3 * (64 : Int32)) + x4).toNatClampNeg)) &&& (wlk_settledPairs x4.toNatClampNeg)) (0 : Int64) = (0 : Int32) then (L_Wlk_everDiffer_3 tab_values wlk_settledPairs wlk_words x2 x3 n (x4 + (1 : Int32))) else some (.inl ()))))))
noncomputable def m_Wlk_everDiffer (tab_values wlk_settledPairs : Nat → Int64) (wlk_words : Int32) (p1 : Int32) (p2 : Int32) : Option (Int32) := ((L_Wlk_everDiffer_3 tab_values wlk_settledPairs wlk_words p1 p2 fu (0 : Int32)).bind (Sum.elim (fun v7 => some (1 : Int32)) (fun v8 => some (0 : Int32))))
def rm_Wlk_everDiffer : Room := { frames := 0, cells := 0, slots := 0, locals := 0 }
set_option maxHeartbeats 4000000 in
set_option maxRecDepth 100000 in
theorem w_Wlk_everDiffer_3 {p : Program} {l : Launch} {e : Env} {s : State} {m : MethodId} {args : Array Value} {below : List Frame} {meth : Method} {c : Code} {dC : Nat → ClassId} {dI : Nat → Nat → Nat} {cI cL cZ : ClassId} {A : Nat → Prop} {Q : State → Prop} {t1 t2 : Nat} (C0 : sx_C p s m args meth c cWlk_everDiffer 7 "StateExplorer$Walk" A (dC, dI) [(cI, .int), (cL, .long), (cZ, .boolean)] t1 t2) (h_tab a_tab_known a_tab_settled a_tab_values a_tab_nextStates h_wlk a_wlk_distances a_wlk_order a_wlk_parents a_wlk_steps a_wlk_settledPairs : Nat) (tab_values wlk_settledPairs : Nat → Int64) (wlk_words wlk_reached wlk_doubts wlk_doubtState wlk_doubtChoice : Int32) (x2 : Int32) (x3 : Int32) {H : Heap} {locs : List Loc} (hP : va_P (dC, dI) vwCl [(h_tab, .inr (2, [.ref a_tab_known, .ref a_tab_settled, .ref a_tab_values, .ref a_tab_nextStates])), (h_wlk, .inr (3, [.ref a_wlk_distances, .ref a_wlk_order, .ref a_wlk_parents, .ref a_wlk_steps, .ref a_wlk_settledPairs, .int wlk_words, .int wlk_reached, .int wlk_doubts, .int wlk_doubtState, .int wlk_doubtChoice])), (a_tab_values, .inl (cL, 3840, .inr (.inl tab_values))), (a_wlk_settledPairs, .inl (cL, 64, .inr (.inl wlk_settledPairs)))] H) (hD : va_D A [(h_tab, .inr (2, [.ref a_tab_known, .ref a_tab_settled, .ref a_tab_values, .ref a_tab_nextStates])), (h_wlk, .inr (3, [.ref a_wlk_distances, .ref a_wlk_order, .ref a_wlk_parents, .ref a_wlk_steps, .ref a_wlk_settledPairs, .int wlk_words, .int wlk_reached, .int wlk_doubts, .int wlk_doubtState, .int wlk_doubtChoice])), (a_tab_values, .inl (cL, 3840, .inr (.inl tab_values))), (a_wlk_settledPairs, .inl (cL, 64, .inr (.inl wlk_settledPairs)))]) (hS : va_S A s.heap H locs) :
    ∀ (n : Nat) (x4 : Int32)  (r : (Unit) ⊕ (Unit)), L_Wlk_everDiffer_3 tab_values wlk_settledPairs wlk_words x2 x3 n x4 = some r → ∀ (ls : Array Slot), lv_has ls 7 [(0, .ref h_wlk), (1, .ref h_tab), (2, .int x2), (3, .int x3), (4, .int x4)] →
    (∀ (y : Unit), r = .inl y → ∀ (ls : Array Slot), lv_has ls 7 [] → W p l e (headSpec wsWlk_everDiffer rm_Wlk_everDiffer).room s m args below meth c H locs 0 0 Q (F0 m 54 ls [])) →
    (∀ (y : Unit), r = .inr y → ∀ (ls : Array Slot), lv_has ls 7 [] → W p l e (headSpec wsWlk_everDiffer rm_Wlk_everDiffer).room s m args below meth c H locs 0 0 Q (F0 m 62 ls [])) →
    W p l e (headSpec wsWlk_everDiffer rm_Wlk_everDiffer).room s m args below meth c H locs 0 0 Q (F0 m 3 ls []) := by
  obtain ⟨hx, hb, hml, hown, hts, hA, hK, hlocks, hX⟩ := id C0
  intro n
  induction n with
  | zero => intro x4 r hm; rw [L_Wlk_everDiffer_3] at hm; cases hm
  | succ n ih =>
    intro x4 r hm ls hl k1 k2
    rw [L_Wlk_everDiffer_3] at hm
    refine lv_iload hx hb dWlk_everDiffer_3 (lv_at hl 4 rfl) ?_
    refine lv_aload_n hx hb dWlk_everDiffer_5 rfl (lv_at hl 0 rfl) ?_
    refine va_get (D := (dC, dI)) (ci := 3) (v := .int wlk_words) (C := RWlk) (T := TWlk) (N := 10) hx hb hts inWlk hown hK hP 1 rfl rfl 5 (by decide) (hts _ tw_142) (fun _ h9 => h9) rfl dWlk_everDiffer_6 ?_
    refine lv_icmp_ge (tgt := 62) hx hb dWlk_everDiffer_9 (by decide) (fun c1 => ?_) (fun c1 => ?_)
    · have hm := sx_pos c1 hm
      obtain rfl := Option.some.inj hm
      exact k2 _ rfl _ (lv_sub hl [] rfl)
    · have hm := sx_neg c1 hm
      refine lv_aload_n hx hb dWlk_everDiffer_12 rfl (lv_at hl 1 rfl) ?_
      refine va_get (D := (dC, dI)) (ci := 2) (v := .ref a_tab_values) (C := RTab) (T := TTab) (N := 4) hx hb hts inTab hown hK hP 0 rfl rfl 2 (by decide) (hts _ tw_117) (fun _ h9 => h9) rfl dWlk_everDiffer_13 ?_
      refine lv_iload_n hx hb dWlk_everDiffer_16 rfl (lv_at hl 2 rfl) ?_
      refine lv_bipush (v := (64 : Int32)) hx hb dWlk_everDiffer_17 (by decide) ?_
      refine lv_imul hx hb dWlk_everDiffer_19 ?_
      refine lv_iload hx hb dWlk_everDiffer_20 (lv_at hl 4 rfl) ?_
      refine lv_iadd hx hb dWlk_everDiffer_22 ?_
      obtain ⟨g2, hm⟩ := gd_el hm
      refine va_lald hx hb hK hP 2 1 rfl rfl g2 dWlk_everDiffer_23 ?_
      refine lv_aload_n hx hb dWlk_everDiffer_24 rfl (lv_at hl 1 rfl) ?_
      refine va_get (D := (dC, dI)) (ci := 2) (v := .ref a_tab_values) (C := RTab) (T := TTab) (N := 4) hx hb hts inTab hown hK hP 0 rfl rfl 2 (by decide) (hts _ tw_117) (fun _ h9 => h9) rfl dWlk_everDiffer_25 ?_
      refine lv_iload_n hx hb dWlk_everDiffer_28 rfl (lv_at hl 3 rfl) ?_
      refine lv_bipush (v := (64 : Int32)) hx hb dWlk_everDiffer_29 (by decide) ?_
      refine lv_imul hx hb dWlk_everDiffer_31 ?_
      refine lv_iload hx hb dWlk_everDiffer_32 (lv_at hl 4 rfl) ?_
      refine lv_iadd hx hb dWlk_everDiffer_34 ?_
      obtain ⟨g3, hm⟩ := gd_el hm
      refine va_lald hx hb hK hP 2 1 rfl rfl g3 dWlk_everDiffer_35 ?_
      refine lv_lxor hx hb dWlk_everDiffer_36 ?_
      refine lv_lstore (lv' := [(5, .long ((tab_values ((x2 * (64 : Int32)) + x4).toNatClampNeg) ^^^ (tab_values ((x3 * (64 : Int32)) + x4).toNatClampNeg))), (0, .ref h_wlk), (1, .ref h_tab), (2, .int x2), (3, .int x3), (4, .int x4)]) hx hb dWlk_everDiffer_37 hl (by decide) rfl (fun ls hl => ?_)
      refine lv_lload hx hb dWlk_everDiffer_39 (lv_at hl 0 rfl) ?_
      refine lv_aload_n hx hb dWlk_everDiffer_41 rfl (lv_at hl 1 rfl) ?_
      refine va_get (D := (dC, dI)) (ci := 3) (v := .ref a_wlk_settledPairs) (C := RWlk) (T := TWlk) (N := 10) hx hb hts inWlk hown hK hP 1 rfl rfl 4 (by decide) (hts _ tw_141) (fun _ h9 => h9) rfl dWlk_everDiffer_42 ?_
      refine lv_iload hx hb dWlk_everDiffer_45 (lv_at hl 5 rfl) ?_
      obtain ⟨g4, hm⟩ := gd_el hm
      refine va_lald hx hb hK hP 3 1 rfl rfl g4 dWlk_everDiffer_47 ?_
      refine lv_land hx hb dWlk_everDiffer_48 ?_
      refine lv_lconst (v := (0 : Int64)) hx hb dWlk_everDiffer_49 (by decide) ?_
      refine W.lcmp hx hb dWlk_everDiffer_50 ?_
      refine lv_if_eq (tgt := 56) hx hb dWlk_everDiffer_51 (by decide) (fun c5 => ?_) (fun c5 => ?_)
      · have hm := sx_pos c5 hm
        refine lv_iinc (v := x4 + (1 : Int32)) (lv' := [(4, .int (x4 + (1 : Int32))), (5, .long ((tab_values ((x2 * (64 : Int32)) + x4).toNatClampNeg) ^^^ (tab_values ((x3 * (64 : Int32)) + x4).toNatClampNeg))), (0, .ref h_wlk), (1, .ref h_tab), (2, .int x2), (3, .int x3)]) hx hb dWlk_everDiffer_56 hl (k := 5) rfl rfl (by decide) rfl (fun ls hl => ?_)
        refine lv_goto (tgt := 3) hx hb dWlk_everDiffer_59 (by decide) ?_
        exact ih (x4 + (1 : Int32)) r hm _ (lv_sub hl [2, 3, 4, 5, 0] rfl) k1 k2
      · have hm := sx_neg c5 hm
        obtain rfl := Option.some.inj hm
        exact k1 _ rfl _ (lv_sub hl [] rfl)
set_option maxHeartbeats 4000000 in
set_option maxRecDepth 100000 in
theorem k_Wlk_everDiffer (l : Launch) (dC : Nat → ClassId) (dI : Nat → Nat → Nat) (cI cL cZ : ClassId) (t1 t2 : Nat) (h_tab a_tab_known a_tab_settled a_tab_values a_tab_nextStates h_wlk a_wlk_distances a_wlk_order a_wlk_parents a_wlk_steps a_wlk_settledPairs : Nat) (tab_values wlk_settledPairs : Nat → Int64) (wlk_words wlk_reached wlk_doubts wlk_doubtState wlk_doubtChoice : Int32) (sz : Nat) (p1 : Int32) (p2 : Int32) (v : Int32) (hm : m_Wlk_everDiffer tab_values wlk_settledPairs wlk_words p1 p2 = some v) : Met l yWlk_everDiffer wsWlk_everDiffer rm_Wlk_everDiffer (sx_Pc (dC, dI) [(cI, .int), (cL, .long), (cZ, .boolean)] t1 t2 [(h_tab, .inr (2, [.ref a_tab_known, .ref a_tab_settled, .ref a_tab_values, .ref a_tab_nextStates])), (h_wlk, .inr (3, [.ref a_wlk_distances, .ref a_wlk_order, .ref a_wlk_parents, .ref a_wlk_steps, .ref a_wlk_settledPairs, .int wlk_words, .int wlk_reached, .int wlk_doubts, .int wlk_doubtState, .int wlk_doubtChoice])), (a_tab_values, .inl (cL, 3840, .inr (.inl tab_values))), (a_wlk_settledPairs, .inl (cL, 64, .inr (.inl wlk_settledPairs)))] sz [.ref h_wlk, .ref h_tab, .int p1, .int p2]) (sx_Si v) 0 0 (fun _ => False) := by
  refine Met.ofW (cc := cWlk_everDiffer) (maxL := 7) (ret := (some .boolean)) (by decide) rfl ?_
  intro p e s m args below meth c s₁ B hml hv
  obtain ⟨rfl, hsz, hP, hK, hD0, hX⟩ := hv
  have hx := B.exec
  have hb := B.bytes
  have hr := B.returns
  have hts0 := atoms_spec (ws := wsWlk_everDiffer) B.pre
  have hts : ∀ w ∈ tb, w.before _ s = true := fun w h => hts0 w (List.mem_cons_of_mem _ h)
  have hown : s.vm.findClass "StateExplorer$Walk" = some m.cls := findClass_of_methodNamed B.named
  have hlocks := B.notSynchronized
  subst hsz
  have hD := hD0.self (sz := s.heap.size)
  generalize hAe : va_A [(h_tab, .inr (2, [.ref a_tab_known, .ref a_tab_settled, .ref a_tab_values, .ref a_tab_nextStates])), (h_wlk, .inr (3, [.ref a_wlk_distances, .ref a_wlk_order, .ref a_wlk_parents, .ref a_wlk_steps, .ref a_wlk_settledPairs, .int wlk_words, .int wlk_reached, .int wlk_doubts, .int wlk_doubtState, .int wlk_doubtChoice])), (a_tab_values, .inl (cL, 3840, .inr (.inl tab_values))), (a_wlk_settledPairs, .inl (cL, 64, .inr (.inl wlk_settledPairs)))] s.heap.size = A at hD hX 
  have hA : ∀ q : Nat, s.heap.size ≤ q → A q := fun q h => by rw [← hAe]; exact Or.inr h
  have hS : va_S A s.heap s.heap [] := va_S.rf
  have hl := lv_entry ([.ref h_wlk, .ref h_tab, .int p1, .int p2]) (n := 7) (Nat.le_of_ble_eq_true rfl)
  rw [lg_entry_eq]
  generalize (lg_sl ([.ref h_wlk, .ref h_tab, .int p1, .int p2]) ++ List.replicate (7 - (lg_sl ([.ref h_wlk, .ref h_tab, .int p1, .int p2])).length) Slot.unset).toArray = ls at hl ⊢
  have hl : lv_has ls 7 [(0, .ref h_wlk), (1, .ref h_tab), (2, .int p1), (3, .int p2)] := hl
  have C0 : sx_C p s m _ meth c cWlk_everDiffer 7 "StateExplorer$Walk" A (dC, dI) [(cI, .int), (cL, .long), (cZ, .boolean)] t1 t2 := ⟨hx, hb, hml, hown, hts, hA, hK, hlocks, hX⟩
  rw [m_Wlk_everDiffer] at hm
  refine lv_iconst (v := (0 : Int32)) hx hb dWlk_everDiffer_0 (by decide) ?_
  refine lv_istore (lv' := [(4, .int (0 : Int32)), (0, .ref h_wlk), (1, .ref h_tab), (2, .int p1), (3, .int p2)]) hx hb dWlk_everDiffer_1 hl (by decide) rfl (fun ls hl => ?_)
  obtain ⟨v6, hv6, hm⟩ := sx_bind hm
  refine w_Wlk_everDiffer_3 C0 h_tab a_tab_known a_tab_settled a_tab_values a_tab_nextStates h_wlk a_wlk_distances a_wlk_order a_wlk_parents a_wlk_steps a_wlk_settledPairs tab_values wlk_settledPairs wlk_words wlk_reached wlk_doubts wlk_doubtState wlk_doubtChoice p1 p2 hP hD hS _ (0 : Int32) v6 hv6 _ (lv_sub hl [1, 2, 3, 4, 0] rfl) ?_ ?_
  · intro v7 he ls hl
    subst he
    refine lv_iconst (v := (1 : Int32)) hx hb dWlk_everDiffer_54 (by decide) ?_
    obtain rfl := Option.some.inj hm
    exact W.zret (v := (1 : Int32)) hx hb hr sx_z1 (fun t ht hW => ⟨rfl, ht⟩) (fun q hq => nomatch hq) dWlk_everDiffer_55
  · intro v8 he ls hl
    subst he
    refine lv_iconst (v := (0 : Int32)) hx hb dWlk_everDiffer_62 (by decide) ?_
    obtain rfl := Option.some.inj hm
    exact W.zret (v := (0 : Int32)) hx hb hr sx_z0 (fun t ht hW => ⟨rfl, ht⟩) (fun q hq => nomatch hq) dWlk_everDiffer_63
