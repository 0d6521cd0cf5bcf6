noncomputable def L_Mod_explore_32 (mod_gates mod_feeds mod_inputs : Int32) (mod_sort mod_number mod_to mod_from mod_negated : Nat → Int32) (x1 : Int32) : Nat → Int32 → (Nat → Int32) → (Nat → Int32) → (Nat → Int32) → (Nat → Int32) → (Nat → Int64) → Option ((Nat → Int32) × (Nat → Int32) × (Nat → Int32) × (Nat → Int32) × (Nat → Int64))
  | 0, _, _, _, _, _, _ => none
  | n + 1, x2, mod_value, mod_made, mod_settles, mod_next, mod_ones => (m_Mod_choices mod_inputs).bind (fun v6 => (if v6 ≤ x2 then some (mod_value, mod_made, mod_settles, mod_next, mod_ones) else (m_Mod_work mod_gates mod_feeds mod_sort mod_number mod_value mod_made mod_to mod_from mod_negated mod_settles mod_next mod_ones x1 x2).bind (fun v9 => (L_Mod_explore_32 mod_gates mod_feeds mod_inputs mod_sort mod_number mod_to mod_from mod_negated x1 n (x2 + (1 : Int32)) v9.1 v9.2.1 v9.2.2.1 v9.2.2.2.1 v9.2.2.2.2))))
noncomputable def L_Mod_explore_7 (mod_gates mod_feeds mod_inputs mod_latches : Int32) (mod_sort mod_number mod_to mod_from mod_negated : Nat → Int32) : Nat → Int32 → (Nat → Int32) → (Nat → Int32) → (Nat → Int32) → (Nat → Int32) → (Nat → Int64) → (Nat → Int32) → Option ((Nat → Int32) × (Nat → Int32) × (Nat → Int32) × (Nat → Int32) × (Nat → Int64) × (Nat → Int32))
  | 0, _, _, _, _, _, _, _ => none
  | n + 1, x1, mod_value, mod_made, mod_settles, mod_next, mod_ones, mod_distance => (m_Mod_states mod_latches).bind (fun v1 => (if v1 ≤ x1 then some (mod_value, mod_made, mod_settles, mod_next, mod_ones, mod_distance) else (sx_let (fun (z0J4 : Int32) (z1J4 : Int32) => gd (vp_in z1J4 256) (((L_Mod_explore_32 mod_gates mod_feeds mod_inputs mod_sort mod_number mod_to mod_from mod_negated x1 fu (0 : Int32) mod_value mod_made mod_settles mod_next mod_ones).bind (fun v11 => (L_Mod_explore_7 mod_gates mod_feeds mod_inputs mod_latches mod_sort mod_number mod_to mod_from mod_negated n (x1 + (1 : Int32)) v11.1 v11.2.1 v11.2.2.1 v11.2.2.2.1 v11.2.2.2.2 (upd mod_distance z1J4.toNatClampNeg z0J4)))))) (fun J4 => (if x1 = (0 : Int32) then (J4 (0 : Int32) x1) else (J4 (-1 : Int32) x1))))))
noncomputable def L_Mod_explore_81 (mod_inputs : Int32) (mod_settles mod_next : Nat → Int32) (x2 : Int32) (x3 : Int32) : Nat → Int32 → Int32 → (Nat → Int32) → Option (Int32 × (Nat → Int32))
  | 0, _, _, _ => none
  | n + 1, x1, x4, mod_distance => (m_Mod_choices mod_inputs).bind (fun v18 => (if v18 ≤ x4 then some (x1, mod_distance) else gd (vp_in x3 256) ((if mod_distance x3.toNatClampNeg = x2 then gd (vp_in (((16 : Int32) * x3) + x4) 4096) (gd (vp_in (((16 : Int32) * x3) + x4) 4096) ((if mod_settles (((16 : Int32) * x3) + x4).toNatClampNeg = (0 : Int32) then (L_Mod_explore_81 mod_inputs mod_settles mod_next x2 x3 n x1 (x4 + (1 : Int32)) mod_distance) else gd (vp_in (mod_next (((16 : Int32) * x3) + x4).toNatClampNeg) 256) ((if mod_distance (mod_next (((16 : Int32) * x3) + x4).toNatClampNeg).toNatClampNeg = (-1 : Int32) then gd (vp_in (mod_next (((16 : Int32) * x3) + x4).toNatClampNeg) 256) ((L_Mod_explore_81 mod_inputs mod_settles mod_next x2 x3 n (1 : Int32) (x4 + (1 : Int32)) (upd mod_distance (mod_next (((16 : Int32) * x3) + x4).toNatClampNeg).toNatClampNeg (x2 + (1 : Int32))))) else (L_Mod_explore_81 mod_inputs mod_settles mod_next x2 x3 n x1 (x4 + (1 : Int32)) mod_distance)))))) else some (x1, mod_distance)))))
noncomputable def L_Mod_explore_70 (mod_inputs mod_latches : Int32) (mod_settles mod_next : Nat → Int32) (x2 : Int32) : Nat → Int32 → Int32 → (Nat → Int32) → Option (Int32 × (Nat → Int32))
  | 0, _, _, _ => none
  | n + 1, x1, x3, mod_distance => (m_Mod_states mod_latches).bind (fun v15 => (if v15 ≤ x3 then some (x1, mod_distance) else ((L_Mod_explore_81 mod_inputs mod_settles mod_next x2 x3 fu x1 (0 : Int32) mod_distance).bind (fun v29 => (L_Mod_explore_70 mod_inputs mod_latches mod_settles mod_next x2 n v29.1 (x3 + (1 : Int32)) v29.2)))))
noncomputable def L_Mod_explore_62 (mod_inputs mod_latches : Int32) (mod_settles mod_next : Nat → Int32) : Nat → Int32 → Int32 → (Nat → Int32) → Option ((Nat → Int32))
  | 0, _, _, _ => none
  | n + 1, x1, x2, mod_distance => (if x1 = (0 : Int32) then some mod_distance else ((L_Mod_explore_70 mod_inputs mod_latches mod_settles mod_next x2 fu (0 : Int32) (0 : Int32) mod_distance).bind (fun v30 => (L_Mod_explore_62 mod_inputs mod_latches mod_settles mod_next n v30.1 (x2 + (1 : Int32)) v30.2))))
noncomputable def m_Mod_explore (mod_code mod_gates mod_feeds mod_inputs mod_latches mod_outputs : Int32) (mod_sort mod_number mod_value mod_made mod_to mod_from mod_outputOf mod_negated : Nat → Int32) (mod_explored : Int32) (mod_settles mod_next : Nat → Int32) (mod_ones : Nat → Int64) (mod_distance mod_apart : Nat → Int32)  : Option (Int32 × Int32 × (Nat → Int32) × (Nat → Int32) × Int32 × (Nat → Int32) × (Nat → Int32) × (Nat → Int64) × (Nat → Int32) × (Nat → Int32)) := ((L_Mod_explore_7 mod_gates mod_feeds mod_inputs mod_latches mod_sort mod_number mod_to mod_from mod_negated fu (0 : Int32) mod_value mod_made mod_settles mod_next mod_ones mod_distance).bind (fun v13 => ((L_Mod_explore_62 mod_inputs mod_latches v13.2.2.1 v13.2.2.2.1 fu (1 : Int32) (0 : Int32) v13.2.2.2.2.2).bind (fun v31 => (m_Mod_tell mod_inputs mod_latches mod_outputs mod_outputOf v13.2.2.1 v13.2.2.2.1 v13.2.2.2.2.1 v31 mod_apart).bind (fun v32 => (m_Mod_reached mod_latches v31).bind (fun v34 => some (v34, (0 : Int32), v13.1, v13.2.1, (1 : Int32), v13.2.2.1, v13.2.2.2.1, v13.2.2.2.2.1, v31, v32)))))))
def rm_Mod_explore : Room := { frames := 3, cells := 0, slots := 0, locals := 74 }
set_option maxHeartbeats 4000000 in
set_option maxRecDepth 100000 in
theorem w_Mod_explore_32 {p : Program} {l : Launch} {e : Env} {s : State} {m : MethodId} {args : Array Value} {below : List Frame} {meth : Method} {c : Code} {dC : Nat → ClassId} {dI : Nat → Nat → Nat} {cI cL cZ : ClassId} {A : Nat → Prop} {Q : State → Prop} {t1 t2 : Nat} (C0 : sx_C p s m args meth c cMod_explore 6 "StateExplorerModel" A (dC, dI) [(cI, .int), (cL, .long), (cZ, .boolean)] t1 t2) (h_mod a_mod_sort a_mod_number a_mod_value a_mod_made a_mod_to a_mod_from a_mod_outputOf a_mod_negated a_mod_settles a_mod_next a_mod_ones a_mod_distance a_mod_apart a_mod_leads : Nat) (mod_code mod_gates mod_feeds mod_inputs mod_latches mod_outputs : Int32) (mod_sort mod_number mod_to mod_from mod_outputOf mod_negated : Nat → Int32) (mod_explored : Int32) (mod_distance mod_apart : Nat → Int32) (x1 : Int32) :
    ∀ (n : Nat) (x2 : Int32) (mod_value mod_made mod_settles mod_next : Nat → Int32) (mod_ones : Nat → Int64) (r : (Nat → Int32) × (Nat → Int32) × (Nat → Int32) × (Nat → Int32) × (Nat → Int64)), L_Mod_explore_32 mod_gates mod_feeds mod_inputs mod_sort mod_number mod_to mod_from mod_negated x1 n x2 mod_value mod_made mod_settles mod_next mod_ones = some r → ∀ (H : Heap) (locs : List Loc) (ls : Array Slot), va_P (dC, dI) vwCl [(h_mod, .inr (5, [.int mod_code, .int mod_gates, .int mod_feeds, .int mod_inputs, .int mod_latches, .int mod_outputs, .ref a_mod_sort, .ref a_mod_number, .ref a_mod_value, .ref a_mod_made, .ref a_mod_to, .ref a_mod_from, .ref a_mod_outputOf, .ref a_mod_negated, .int mod_explored, .ref a_mod_settles, .ref a_mod_next, .ref a_mod_ones, .ref a_mod_distance, .ref a_mod_apart, .ref a_mod_leads])), (a_mod_sort, .inl (cI, 60, .inl mod_sort)), (a_mod_number, .inl (cI, 60, .inl mod_number)), (a_mod_value, .inl (cI, 60, .inl mod_value)), (a_mod_made, .inl (cI, 60, .inl mod_made)), (a_mod_to, .inl (cI, 240, .inl mod_to)), (a_mod_from, .inl (cI, 240, .inl mod_from)), (a_mod_outputOf, .inl (cI, 6, .inl mod_outputOf)), (a_mod_negated, .inl (cZ, 240, .inl mod_negated)), (a_mod_settles, .inl (cZ, 4096, .inl mod_settles)), (a_mod_next, .inl (cI, 4096, .inl mod_next)), (a_mod_ones, .inl (cL, 4096, .inr (.inl mod_ones))), (a_mod_distance, .inl (cI, 256, .inl mod_distance)), (a_mod_apart, .inl (cZ, 65536, .inl mod_apart))] H → va_D A [(h_mod, .inr (5, [.int mod_code, .int mod_gates, .int mod_feeds, .int mod_inputs, .int mod_latches, .int mod_outputs, .ref a_mod_sort, .ref a_mod_number, .ref a_mod_value, .ref a_mod_made, .ref a_mod_to, .ref a_mod_from, .ref a_mod_outputOf, .ref a_mod_negated, .int mod_explored, .ref a_mod_settles, .ref a_mod_next, .ref a_mod_ones, .ref a_mod_distance, .ref a_mod_apart, .ref a_mod_leads])), (a_mod_sort, .inl (cI, 60, .inl mod_sort)), (a_mod_number, .inl (cI, 60, .inl mod_number)), (a_mod_value, .inl (cI, 60, .inl mod_value)), (a_mod_made, .inl (cI, 60, .inl mod_made)), (a_mod_to, .inl (cI, 240, .inl mod_to)), (a_mod_from, .inl (cI, 240, .inl mod_from)), (a_mod_outputOf, .inl (cI, 6, .inl mod_outputOf)), (a_mod_negated, .inl (cZ, 240, .inl mod_negated)), (a_mod_settles, .inl (cZ, 4096, .inl mod_settles)), (a_mod_next, .inl (cI, 4096, .inl mod_next)), (a_mod_ones, .inl (cL, 4096, .inr (.inl mod_ones))), (a_mod_distance, .inl (cI, 256, .inl mod_distance)), (a_mod_apart, .inl (cZ, 65536, .inl mod_apart))] → va_S A s.heap H locs → lv_has ls 6 [(0, .ref h_mod), (1, .int x1), (2, .int x2)] →
    (∀ (H : Heap) (locs : List Loc) (ls : Array Slot), va_P (dC, dI) vwCl [(h_mod, .inr (5, [.int mod_code, .int mod_gates, .int mod_feeds, .int mod_inputs, .int mod_latches, .int mod_outputs, .ref a_mod_sort, .ref a_mod_number, .ref a_mod_value, .ref a_mod_made, .ref a_mod_to, .ref a_mod_from, .ref a_mod_outputOf, .ref a_mod_negated, .int mod_explored, .ref a_mod_settles, .ref a_mod_next, .ref a_mod_ones, .ref a_mod_distance, .ref a_mod_apart, .ref a_mod_leads])), (a_mod_sort, .inl (cI, 60, .inl mod_sort)), (a_mod_number, .inl (cI, 60, .inl mod_number)), (a_mod_value, .inl (cI, 60, .inl r.1)), (a_mod_made, .inl (cI, 60, .inl r.2.1)), (a_mod_to, .inl (cI, 240, .inl mod_to)), (a_mod_from, .inl (cI, 240, .inl mod_from)), (a_mod_outputOf, .inl (cI, 6, .inl mod_outputOf)), (a_mod_negated, .inl (cZ, 240, .inl mod_negated)), (a_mod_settles, .inl (cZ, 4096, .inl r.2.2.1)), (a_mod_next, .inl (cI, 4096, .inl r.2.2.2.1)), (a_mod_ones, .inl (cL, 4096, .inr (.inl r.2.2.2.2))), (a_mod_distance, .inl (cI, 256, .inl mod_distance)), (a_mod_apart, .inl (cZ, 65536, .inl mod_apart))] H → va_D A [(h_mod, .inr (5, [.int mod_code, .int mod_gates, .int mod_feeds, .int mod_inputs, .int mod_latches, .int mod_outputs, .ref a_mod_sort, .ref a_mod_number, .ref a_mod_value, .ref a_mod_made, .ref a_mod_to, .ref a_mod_from, .ref a_mod_outputOf, .ref a_mod_negated, .int mod_explored, .ref a_mod_settles, .ref a_mod_next, .ref a_mod_ones, .ref a_mod_distance, .ref a_mod_apart, .ref a_mod_leads])), (a_mod_sort, .inl (cI, 60, .inl mod_sort)), (a_mod_number, .inl (cI, 60, .inl mod_number)), (a_mod_value, .inl (cI, 60, .inl r.1)), (a_mod_made, .inl (cI, 60, .inl r.2.1)), (a_mod_to, .inl (cI, 240, .inl mod_to)), (a_mod_from, .inl (cI, 240, .inl mod_from)), (a_mod_outputOf, .inl (cI, 6, .inl mod_outputOf)), (a_mod_negated, .inl (cZ, 240, .inl mod_negated)), (a_mod_settles, .inl (cZ, 4096, .inl r.2.2.1)), (a_mod_next, .inl (cI, 4096, .inl r.2.2.2.1)), (a_mod_ones, .inl (cL, 4096, .inr (.inl r.2.2.2.2))), (a_mod_distance, .inl (cI, 256, .inl mod_distance)), (a_mod_apart, .inl (cZ, 65536, .inl mod_apart))] → va_S A s.heap H locs → lv_has ls 6 [(0, .ref h_mod), (1, .int x1)] → W p l e (headSpec wsMod_explore rm_Mod_explore).room s m args below meth c H locs 0 0 Q (F0 m 52 ls [])) →
    W p l e (headSpec wsMod_explore rm_Mod_explore).room s m args below meth c H locs 0 0 Q (F0 m 32 ls []) := by
  obtain ⟨hx, hb, hml, hown, hts, hA, hK, hlocks, hX⟩ := id C0
  intro n
  induction n with
  | zero => intro x2 mod_value mod_made mod_settles mod_next mod_ones r hm; rw [L_Mod_explore_32] at hm; cases hm
  | succ n ih =>
    intro x2 mod_value mod_made mod_settles mod_next mod_ones r hm H locs ls hP hD hS hl k1
    rw [L_Mod_explore_32] at hm
    refine lv_iload_n hx hb dMod_explore_32 rfl (lv_at hl 2 rfl) ?_
    refine lv_aload_n hx hb dMod_explore_33 rfl (lv_at hl 0 rfl) ?_
    obtain ⟨v6, hv6, hm⟩ := sx_bind hm
    have hPc := hP.sub (ws' := [(h_mod, .inr (5, [.int mod_code, .int mod_gates, .int mod_feeds, .int mod_inputs, .int mod_latches, .int mod_outputs, .ref a_mod_sort, .ref a_mod_number, .ref a_mod_value, .ref a_mod_made, .ref a_mod_to, .ref a_mod_from, .ref a_mod_outputOf, .ref a_mod_negated, .int mod_explored, .ref a_mod_settles, .ref a_mod_next, .ref a_mod_ones, .ref a_mod_distance, .ref a_mod_apart, .ref a_mod_leads]))]) [0] rfl
    have hDc := hD.sub (ws' := [(h_mod, .inr (5, [.int mod_code, .int mod_gates, .int mod_feeds, .int mod_inputs, .int mod_latches, .int mod_outputs, .ref a_mod_sort, .ref a_mod_number, .ref a_mod_value, .ref a_mod_made, .ref a_mod_to, .ref a_mod_from, .ref a_mod_outputOf, .ref a_mod_negated, .int mod_explored, .ref a_mod_settles, .ref a_mod_next, .ref a_mod_ones, .ref a_mod_distance, .ref a_mod_apart, .ref a_mod_leads]))]) [0] (by decide) rfl
    have hFc := va_free (wc := [(h_mod, .inr (5, [.int mod_code, .int mod_gates, .int mod_feeds, .int mod_inputs, .int mod_latches, .int mod_outputs, .ref a_mod_sort, .ref a_mod_number, .ref a_mod_value, .ref a_mod_made, .ref a_mod_to, .ref a_mod_from, .ref a_mod_outputOf, .ref a_mod_negated, .int mod_explored, .ref a_mod_settles, .ref a_mod_next, .ref a_mod_ones, .ref a_mod_distance, .ref a_mod_apart, .ref a_mod_leads]))]) hD hS hA [0] rfl
    refine sx_stI (va_runV (As := []) (rest := [.int x2]) ⟨hx, hb, hml, hown, hts⟩ (k_Mod_choices l dC dI cI cL cZ t1 t2 h_mod a_mod_sort a_mod_number a_mod_value a_mod_made a_mod_to a_mod_from a_mod_outputOf a_mod_negated a_mod_settles a_mod_next a_mod_ones a_mod_distance a_mod_apart a_mod_leads mod_code mod_gates mod_feeds mod_inputs mod_latches mod_outputs mod_explored _ v6 hv6) (cwV 0 hts (sx_gV tw_712 tw_714 tw_23 tw_41 tcMod_choices) rfl rfl rfl (by decide +kernel) ⟨Nat.le_of_ble_eq_true rfl, Nat.le_of_ble_eq_true rfl⟩) (sx_pV hK hX hS hPc hDc hFc (va_recv hK hPc (ci := 5) (q0 := 0) rfl rfl)) rfl rfl hl.1 rfl (lv_room (Nat.le_of_ble_eq_true rfl)) dMod_explore_34 ⟨Nat.le_of_ble_eq_true rfl, Nat.le_of_ble_eq_true rfl⟩) ?_
    refine lv_icmp_ge (tgt := 52) hx hb dMod_explore_37 (by decide) (fun c8 => ?_) (fun c8 => ?_)
    · have hm := sx_pos c8 hm
      obtain rfl := Option.some.inj hm
      exact k1 _ _ _ hP hD hS (lv_sub hl [0, 1] rfl)
    · have hm := sx_neg c8 hm
      refine lv_aload_n hx hb dMod_explore_40 rfl (lv_at hl 0 rfl) ?_
      refine lv_iload_n hx hb dMod_explore_41 rfl (lv_at hl 1 rfl) ?_
      refine lv_iload_n hx hb dMod_explore_42 rfl (lv_at hl 2 rfl) ?_
      obtain ⟨v9, hv9, hm⟩ := sx_bind hm
      have hPc := hP.sub (ws' := [(h_mod, .inr (5, [.int mod_code, .int mod_gates, .int mod_feeds, .int mod_inputs, .int mod_latches, .int mod_outputs, .ref a_mod_sort, .ref a_mod_number, .ref a_mod_value, .ref a_mod_made, .ref a_mod_to, .ref a_mod_from, .ref a_mod_outputOf, .ref a_mod_negated, .int mod_explored, .ref a_mod_settles, .ref a_mod_next, .ref a_mod_ones, .ref a_mod_distance, .ref a_mod_apart, .ref a_mod_leads])), (a_mod_sort, .inl (cI, 60, .inl mod_sort)), (a_mod_number, .inl (cI, 60, .inl mod_number)), (a_mod_value, .inl (cI, 60, .inl mod_value)), (a_mod_made, .inl (cI, 60, .inl mod_made)), (a_mod_to, .inl (cI, 240, .inl mod_to)), (a_mod_from, .inl (cI, 240, .inl mod_from)), (a_mod_negated, .inl (cZ, 240, .inl mod_negated)), (a_mod_settles, .inl (cZ, 4096, .inl mod_settles)), (a_mod_next, .inl (cI, 4096, .inl mod_next)), (a_mod_ones, .inl (cL, 4096, .inr (.inl mod_ones)))]) [0, 1, 2, 3, 4, 5, 6, 8, 9, 10, 11] rfl
      have hDc := hD.sub (ws' := [(h_mod, .inr (5, [.int mod_code, .int mod_gates, .int mod_feeds, .int mod_inputs, .int mod_latches, .int mod_outputs, .ref a_mod_sort, .ref a_mod_number, .ref a_mod_value, .ref a_mod_made, .ref a_mod_to, .ref a_mod_from, .ref a_mod_outputOf, .ref a_mod_negated, .int mod_explored, .ref a_mod_settles, .ref a_mod_next, .ref a_mod_ones, .ref a_mod_distance, .ref a_mod_apart, .ref a_mod_leads])), (a_mod_sort, .inl (cI, 60, .inl mod_sort)), (a_mod_number, .inl (cI, 60, .inl mod_number)), (a_mod_value, .inl (cI, 60, .inl mod_value)), (a_mod_made, .inl (cI, 60, .inl mod_made)), (a_mod_to, .inl (cI, 240, .inl mod_to)), (a_mod_from, .inl (cI, 240, .inl mod_from)), (a_mod_negated, .inl (cZ, 240, .inl mod_negated)), (a_mod_settles, .inl (cZ, 4096, .inl mod_settles)), (a_mod_next, .inl (cI, 4096, .inl mod_next)), (a_mod_ones, .inl (cL, 4096, .inr (.inl mod_ones)))]) [0, 1, 2, 3, 4, 5, 6, 8, 9, 10, 11] (by decide) rfl
      have hFc := va_free (wc := [(h_mod, .inr (5, [.int mod_code, .int mod_gates, .int mod_feeds, .int mod_inputs, .int mod_latches, .int mod_outputs, .ref a_mod_sort, .ref a_mod_number, .ref a_mod_value, .ref a_mod_made, .ref a_mod_to, .ref a_mod_from, .ref a_mod_outputOf, .ref a_mod_negated, .int mod_explored, .ref a_mod_settles, .ref a_mod_next, .ref a_mod_ones, .ref a_mod_distance, .ref a_mod_apart, .ref a_mod_leads])), (a_mod_sort, .inl (cI, 60, .inl mod_sort)), (a_mod_number, .inl (cI, 60, .inl mod_number)), (a_mod_value, .inl (cI, 60, .inl mod_value)), (a_mod_made, .inl (cI, 60, .inl mod_made)), (a_mod_to, .inl (cI, 240, .inl mod_to)), (a_mod_from, .inl (cI, 240, .inl mod_from)), (a_mod_negated, .inl (cZ, 240, .inl mod_negated)), (a_mod_settles, .inl (cZ, 4096, .inl mod_settles)), (a_mod_next, .inl (cI, 4096, .inl mod_next)), (a_mod_ones, .inl (cL, 4096, .inr (.inl mod_ones)))]) hD hS hA [0, 1, 2, 3, 4, 5, 6, 8, 9, 10, 11] rfl
      refine va_callv (va_runV (As := [.int x1, .int x2]) (rest := []) ⟨hx, hb, hml, hown, hts⟩ (k_Mod_work l dC dI cI cL cZ t1 t2 h_mod a_mod_sort a_mod_number a_mod_value a_mod_made a_mod_to a_mod_from a_mod_outputOf a_mod_negated a_mod_settles a_mod_next a_mod_ones a_mod_distance a_mod_apart a_mod_leads mod_code mod_gates mod_feeds mod_inputs mod_latches mod_outputs mod_sort mod_number mod_value mod_made mod_to mod_from mod_negated mod_explored mod_settles mod_next mod_ones _ x1 x2 v9 hv9) (cwV 2 hts (sx_gV tw_716 tw_718 tw_24 tw_41 tcMod_work) rfl rfl rfl (by decide +kernel) ⟨Nat.le_of_ble_eq_true rfl, Nat.le_of_ble_eq_true rfl⟩) (sx_pV hK hX hS hPc hDc hFc (va_recv hK hPc (ci := 5) (q0 := 0) rfl rfl)) rfl rfl hl.1 rfl (lv_room (Nat.le_of_ble_eq_true rfl)) dMod_explore_43 ⟨Nat.le_of_ble_eq_true rfl, Nat.le_of_ble_eq_true rfl⟩) hS (fun q _ h => hFc q h) hFc (fun u_ t_ H locs ht hvm hw hB hz1 hk1 hS => ?_)
      obtain ⟨hP1, -, hD1⟩ := hB
      rw [ht] at hP1
      obtain ⟨hP, hD⟩ := va_join (wr := [(a_mod_outputOf, .inl (cI, 6, .inl mod_outputOf)), (a_mod_distance, .inl (cI, 256, .inl mod_distance)), (a_mod_apart, .inl (cZ, 65536, .inl mod_apart))]) (w1 := [(h_mod, .inr (5, [.int mod_code, .int mod_gates, .int mod_feeds, .int mod_inputs, .int mod_latches, .int mod_outputs, .ref a_mod_sort, .ref a_mod_number, .ref a_mod_value, .ref a_mod_made, .ref a_mod_to, .ref a_mod_from, .ref a_mod_outputOf, .ref a_mod_negated, .int mod_explored, .ref a_mod_settles, .ref a_mod_next, .ref a_mod_ones, .ref a_mod_distance, .ref a_mod_apart, .ref a_mod_leads])), (a_mod_sort, .inl (cI, 60, .inl mod_sort)), (a_mod_number, .inl (cI, 60, .inl mod_number)), (a_mod_value, .inl (cI, 60, .inl v9.1)), (a_mod_made, .inl (cI, 60, .inl v9.2.1)), (a_mod_to, .inl (cI, 240, .inl mod_to)), (a_mod_from, .inl (cI, 240, .inl mod_from)), (a_mod_negated, .inl (cZ, 240, .inl mod_negated)), (a_mod_settles, .inl (cZ, 4096, .inl v9.2.2.1)), (a_mod_next, .inl (cI, 4096, .inl v9.2.2.2.1)), (a_mod_ones, .inl (cL, 4096, .inr (.inl v9.2.2.2.2)))]) hP hD [0, 1, 2, 3, 4, 5, 6, 8, 9, 10, 11] [7, 12, 13] rfl rfl (by decide) (by decide) hk1 hFc hP1 hD1
      have hP : va_P (dC, dI) vwCl [(a_mod_outputOf, .inl (cI, 6, .inl mod_outputOf)), (a_mod_distance, .inl (cI, 256, .inl mod_distance)), (a_mod_apart, .inl (cZ, 65536, .inl mod_apart)), (h_mod, .inr (5, [.int mod_code, .int mod_gates, .int mod_feeds, .int mod_inputs, .int mod_latches, .int mod_outputs, .ref a_mod_sort, .ref a_mod_number, .ref a_mod_value, .ref a_mod_made, .ref a_mod_to, .ref a_mod_from, .ref a_mod_outputOf, .ref a_mod_negated, .int mod_explored, .ref a_mod_settles, .ref a_mod_next, .ref a_mod_ones, .ref a_mod_distance, .ref a_mod_apart, .ref a_mod_leads])), (a_mod_sort, .inl (cI, 60, .inl mod_sort)), (a_mod_number, .inl (cI, 60, .inl mod_number)), (a_mod_value, .inl (cI, 60, .inl v9.1)), (a_mod_made, .inl (cI, 60, .inl v9.2.1)), (a_mod_to, .inl (cI, 240, .inl mod_to)), (a_mod_from, .inl (cI, 240, .inl mod_from)), (a_mod_negated, .inl (cZ, 240, .inl mod_negated)), (a_mod_settles, .inl (cZ, 4096, .inl v9.2.2.1)), (a_mod_next, .inl (cI, 4096, .inl v9.2.2.2.1)), (a_mod_ones, .inl (cL, 4096, .inr (.inl v9.2.2.2.2)))] H := hP
      have hD : va_D A [(a_mod_outputOf, .inl (cI, 6, .inl mod_outputOf)), (a_mod_distance, .inl (cI, 256, .inl mod_distance)), (a_mod_apart, .inl (cZ, 65536, .inl mod_apart)), (h_mod, .inr (5, [.int mod_code, .int mod_gates, .int mod_feeds, .int mod_inputs, .int mod_latches, .int mod_outputs, .ref a_mod_sort, .ref a_mod_number, .ref a_mod_value, .ref a_mod_made, .ref a_mod_to, .ref a_mod_from, .ref a_mod_outputOf, .ref a_mod_negated, .int mod_explored, .ref a_mod_settles, .ref a_mod_next, .ref a_mod_ones, .ref a_mod_distance, .ref a_mod_apart, .ref a_mod_leads])), (a_mod_sort, .inl (cI, 60, .inl mod_sort)), (a_mod_number, .inl (cI, 60, .inl mod_number)), (a_mod_value, .inl (cI, 60, .inl v9.1)), (a_mod_made, .inl (cI, 60, .inl v9.2.1)), (a_mod_to, .inl (cI, 240, .inl mod_to)), (a_mod_from, .inl (cI, 240, .inl mod_from)), (a_mod_negated, .inl (cZ, 240, .inl mod_negated)), (a_mod_settles, .inl (cZ, 4096, .inl v9.2.2.1)), (a_mod_next, .inl (cI, 4096, .inl v9.2.2.2.1)), (a_mod_ones, .inl (cL, 4096, .inr (.inl v9.2.2.2.2)))] := hD
      refine lv_iinc (v := x2 + (1 : Int32)) (lv' := [(2, .int (x2 + (1 : Int32))), (0, .ref h_mod), (1, .int x1)]) hx hb dMod_explore_46 hl (k := 2) rfl rfl (by decide) rfl (fun ls hl => ?_)
      refine lv_goto (tgt := 32) hx hb dMod_explore_49 (by decide) ?_
      exact ih (x2 + (1 : Int32)) v9.1 v9.2.1 v9.2.2.1 v9.2.2.2.1 v9.2.2.2.2 r hm _ _ _ (hP.sub (ws' := [(h_mod, .inr (5, [.int mod_code, .int mod_gates, .int mod_feeds, .int mod_inputs, .int mod_latches, .int mod_outputs, .ref a_mod_sort, .ref a_mod_number, .ref a_mod_value, .ref a_mod_made, .ref a_mod_to, .ref a_mod_from, .ref a_mod_outputOf, .ref a_mod_negated, .int mod_explored, .ref a_mod_settles, .ref a_mod_next, .ref a_mod_ones, .ref a_mod_distance, .ref a_mod_apart, .ref a_mod_leads])), (a_mod_sort, .inl (cI, 60, .inl mod_sort)), (a_mod_number, .inl (cI, 60, .inl mod_number)), (a_mod_value, .inl (cI, 60, .inl v9.1)), (a_mod_made, .inl (cI, 60, .inl v9.2.1)), (a_mod_to, .inl (cI, 240, .inl mod_to)), (a_mod_from, .inl (cI, 240, .inl mod_from)), (a_mod_outputOf, .inl (cI, 6, .inl mod_outputOf)), (a_mod_negated, .inl (cZ, 240, .inl mod_negated)), (a_mod_settles, .inl (cZ, 4096, .inl v9.2.2.1)), (a_mod_next, .inl (cI, 4096, .inl v9.2.2.2.1)), (a_mod_ones, .inl (cL, 4096, .inr (.inl v9.2.2.2.2))), (a_mod_distance, .inl (cI, 256, .inl mod_distance)), (a_mod_apart, .inl (cZ, 65536, .inl mod_apart))]) [3, 4, 5, 6, 7, 8, 9, 0, 10, 11, 12, 13, 1, 2] rfl) (hD.sub (ws' := [(h_mod, .inr (5, [.int mod_code, .int mod_gates, .int mod_feeds, .int mod_inputs, .int mod_latches, .int mod_outputs, .ref a_mod_sort, .ref a_mod_number, .ref a_mod_value, .ref a_mod_made, .ref a_mod_to, .ref a_mod_from, .ref a_mod_outputOf, .ref a_mod_negated, .int mod_explored, .ref a_mod_settles, .ref a_mod_next, .ref a_mod_ones, .ref a_mod_distance, .ref a_mod_apart, .ref a_mod_leads])), (a_mod_sort, .inl (cI, 60, .inl mod_sort)), (a_mod_number, .inl (cI, 60, .inl mod_number)), (a_mod_value, .inl (cI, 60, .inl v9.1)), (a_mod_made, .inl (cI, 60, .inl v9.2.1)), (a_mod_to, .inl (cI, 240, .inl mod_to)), (a_mod_from, .inl (cI, 240, .inl mod_from)), (a_mod_outputOf, .inl (cI, 6, .inl mod_outputOf)), (a_mod_negated, .inl (cZ, 240, .inl mod_negated)), (a_mod_settles, .inl (cZ, 4096, .inl v9.2.2.1)), (a_mod_next, .inl (cI, 4096, .inl v9.2.2.2.1)), (a_mod_ones, .inl (cL, 4096, .inr (.inl v9.2.2.2.2))), (a_mod_distance, .inl (cI, 256, .inl mod_distance)), (a_mod_apart, .inl (cZ, 65536, .inl mod_apart))]) [3, 4, 5, 6, 7, 8, 9, 0, 10, 11, 12, 13, 1, 2] (by decide) rfl) hS (lv_sub hl [1, 2, 0] rfl) k1
set_option maxHeartbeats 4000000 in
set_option maxRecDepth 100000 in
theorem w_Mod_explore_7 {p : Program} {l : Launch} {e : Env} {s : State} {m : MethodId} {args : Array Value} {below : List Frame} {meth : Method} {c : Code} {dC : Nat → ClassId} {dI : Nat → Nat → Nat} {cI cL cZ : ClassId} {A : Nat → Prop} {Q : State → Prop} {t1 t2 : Nat} (C0 : sx_C p s m args meth c cMod_explore 6 "StateExplorerModel" A (dC, dI) [(cI, .int), (cL, .long), (cZ, .boolean)] t1 t2) (h_mod a_mod_sort a_mod_number a_mod_value a_mod_made a_mod_to a_mod_from a_mod_outputOf a_mod_negated a_mod_settles a_mod_next a_mod_ones a_mod_distance a_mod_apart a_mod_leads : Nat) (mod_code mod_gates mod_feeds mod_inputs mod_latches mod_outputs : Int32) (mod_sort mod_number mod_to mod_from mod_outputOf mod_negated : Nat → Int32) (mod_explored : Int32) (mod_apart : Nat → Int32)  :
    ∀ (n : Nat) (x1 : Int32) (mod_value mod_made mod_settles mod_next : Nat → Int32) (mod_ones : Nat → Int64) (mod_distance : Nat → Int32) (r : (Nat → Int32) × (Nat → Int32) × (Nat → Int32) × (Nat → Int32) × (Nat → Int64) × (Nat → Int32)), L_Mod_explore_7 mod_gates mod_feeds mod_inputs mod_latches mod_sort mod_number mod_to mod_from mod_negated n x1 mod_value mod_made mod_settles mod_next mod_ones mod_distance = some r → ∀ (H : Heap) (locs : List Loc) (ls : Array Slot), va_P (dC, dI) vwCl [(h_mod, .inr (5, [.int mod_code, .int mod_gates, .int mod_feeds, .int mod_inputs, .int mod_latches, .int mod_outputs, .ref a_mod_sort, .ref a_mod_number, .ref a_mod_value, .ref a_mod_made, .ref a_mod_to, .ref a_mod_from, .ref a_mod_outputOf, .ref a_mod_negated, .int mod_explored, .ref a_mod_settles, .ref a_mod_next, .ref a_mod_ones, .ref a_mod_distance, .ref a_mod_apart, .ref a_mod_leads])), (a_mod_sort, .inl (cI, 60, .inl mod_sort)), (a_mod_number, .inl (cI, 60, .inl mod_number)), (a_mod_value, .inl (cI, 60, .inl mod_value)), (a_mod_made, .inl (cI, 60, .inl mod_made)), (a_mod_to, .inl (cI, 240, .inl mod_to)), (a_mod_from, .inl (cI, 240, .inl mod_from)), (a_mod_outputOf, .inl (cI, 6, .inl mod_outputOf)), (a_mod_negated, .inl (cZ, 240, .inl mod_negated)), (a_mod_settles, .inl (cZ, 4096, .inl mod_settles)), (a_mod_next, .inl (cI, 4096, .inl mod_next)), (a_mod_ones, .inl (cL, 4096, .inr (.inl mod_ones))), (a_mod_distance, .inl (cI, 256, .inl mod_distance)), (a_mod_apart, .inl (cZ, 65536, .inl mod_apart))] H → va_D A [(h_mod, .inr (5, [.int mod_code, .int mod_gates, .int mod_feeds, .int mod_inputs, .int mod_latches, .int mod_outputs, .ref a_mod_sort, .ref a_mod_number, .ref a_mod_value, .ref a_mod_made, .ref a_mod_to, .ref a_mod_from, .ref a_mod_outputOf, .ref a_mod_negated, .int mod_explored, .ref a_mod_settles, .ref a_mod_next, .ref a_mod_ones, .ref a_mod_distance, .ref a_mod_apart, .ref a_mod_leads])), (a_mod_sort, .inl (cI, 60, .inl mod_sort)), (a_mod_number, .inl (cI, 60, .inl mod_number)), (a_mod_value, .inl (cI, 60, .inl mod_value)), (a_mod_made, .inl (cI, 60, .inl mod_made)), (a_mod_to, .inl (cI, 240, .inl mod_to)), (a_mod_from, .inl (cI, 240, .inl mod_from)), (a_mod_outputOf, .inl (cI, 6, .inl mod_outputOf)), (a_mod_negated, .inl (cZ, 240, .inl mod_negated)), (a_mod_settles, .inl (cZ, 4096, .inl mod_settles)), (a_mod_next, .inl (cI, 4096, .inl mod_next)), (a_mod_ones, .inl (cL, 4096, .inr (.inl mod_ones))), (a_mod_distance, .inl (cI, 256, .inl mod_distance)), (a_mod_apart, .inl (cZ, 65536, .inl mod_apart))] → va_S A s.heap H locs → lv_has ls 6 [(0, .ref h_mod), (1, .int x1)] →
    (∀ (H : Heap) (locs : List Loc) (ls : Array Slot), va_P (dC, dI) vwCl [(h_mod, .inr (5, [.int mod_code, .int mod_gates, .int mod_feeds, .int mod_inputs, .int mod_latches, .int mod_outputs, .ref a_mod_sort, .ref a_mod_number, .ref a_mod_value, .ref a_mod_made, .ref a_mod_to, .ref a_mod_from, .ref a_mod_outputOf, .ref a_mod_negated, .int mod_explored, .ref a_mod_settles, .ref a_mod_next, .ref a_mod_ones, .ref a_mod_distance, .ref a_mod_apart, .ref a_mod_leads])), (a_mod_sort, .inl (cI, 60, .inl mod_sort)), (a_mod_number, .inl (cI, 60, .inl mod_number)), (a_mod_value, .inl (cI, 60, .inl r.1)), (a_mod_made, .inl (cI, 60, .inl r.2.1)), (a_mod_to, .inl (cI, 240, .inl mod_to)), (a_mod_from, .inl (cI, 240, .inl mod_from)), (a_mod_outputOf, .inl (cI, 6, .inl mod_outputOf)), (a_mod_negated, .inl (cZ, 240, .inl mod_negated)), (a_mod_settles, .inl (cZ, 4096, .inl r.2.2.1)), (a_mod_next, .inl (cI, 4096, .inl r.2.2.2.1)), (a_mod_ones, .inl (cL, 4096, .inr (.inl r.2.2.2.2.1))), (a_mod_distance, .inl (cI, 256, .inl r.2.2.2.2.2)), (a_mod_apart, .inl (cZ, 65536, .inl mod_apart))] H → va_D A [(h_mod, .inr (5, [.int mod_code, .int mod_gates, .int mod_feeds, .int mod_inputs, .int mod_latches, .int mod_outputs, .ref a_mod_sort, .ref a_mod_number, .ref a_mod_value, .ref a_mod_made, .ref a_mod_to, .ref a_mod_from, .ref a_mod_outputOf, .ref a_mod_negated, .int mod_explored, .ref a_mod_settles, .ref a_mod_next, .ref a_mod_ones, .ref a_mod_distance, .ref a_mod_apart, .ref a_mod_leads])), (a_mod_sort, .inl (cI, 60, .inl mod_sort)), (a_mod_number, .inl (cI, 60, .inl mod_number)), (a_mod_value, .inl (cI, 60, .inl r.1)), (a_mod_made, .inl (cI, 60, .inl r.2.1)), (a_mod_to, .inl (cI, 240, .inl mod_to)), (a_mod_from, .inl (cI, 240, .inl mod_from)), (a_mod_outputOf, .inl (cI, 6, .inl mod_outputOf)), (a_mod_negated, .inl (cZ, 240, .inl mod_negated)), (a_mod_settles, .inl (cZ, 4096, .inl r.2.2.1)), (a_mod_next, .inl (cI, 4096, .inl r.2.2.2.1)), (a_mod_ones, .inl (cL, 4096, .inr (.inl r.2.2.2.2.1))), (a_mod_distance, .inl (cI, 256, .inl r.2.2.2.2.2)), (a_mod_apart, .inl (cZ, 65536, .inl mod_apart))] → va_S A s.heap H locs → lv_has ls 6 [(0, .ref h_mod)] → W p l e (headSpec wsMod_explore rm_Mod_explore).room s m args below meth c H locs 0 0 Q (F0 m 58 ls [])) →
    W p l e (headSpec wsMod_explore rm_Mod_explore).room s m args below meth c H locs 0 0 Q (F0 m 7 ls []) := by
  obtain ⟨hx, hb, hml, hown, hts, hA, hK, hlocks, hX⟩ := id C0
  intro n
  induction n with
  | zero => intro x1 mod_value mod_made mod_settles mod_next mod_ones mod_distance r hm; rw [L_Mod_explore_7] at hm; cases hm
  | succ n ih =>
    intro x1 mod_value mod_made mod_settles mod_next mod_ones mod_distance r hm H locs ls hP hD hS hl k1
    rw [L_Mod_explore_7] at hm
    refine lv_iload_n hx hb dMod_explore_7 rfl (lv_at hl 1 rfl) ?_
    refine lv_aload_n hx hb dMod_explore_8 rfl (lv_at hl 0 rfl) ?_
    obtain ⟨v1, hv1, hm⟩ := sx_bind hm
    have hPc := hP.sub (ws' := [(h_mod, .inr (5, [.int mod_code, .int mod_gates, .int mod_feeds, .int mod_inputs, .int mod_latches, .int mod_outputs, .ref a_mod_sort, .ref a_mod_number, .ref a_mod_value, .ref a_mod_made, .ref a_mod_to, .ref a_mod_from, .ref a_mod_outputOf, .ref a_mod_negated, .int mod_explored, .ref a_mod_settles, .ref a_mod_next, .ref a_mod_ones, .ref a_mod_distance, .ref a_mod_apart, .ref a_mod_leads]))]) [0] rfl
    have hDc := hD.sub (ws' := [(h_mod, .inr (5, [.int mod_code, .int mod_gates, .int mod_feeds, .int mod_inputs, .int mod_latches, .int mod_outputs, .ref a_mod_sort, .ref a_mod_number, .ref a_mod_value, .ref a_mod_made, .ref a_mod_to, .ref a_mod_from, .ref a_mod_outputOf, .ref a_mod_negated, .int mod_explored, .ref a_mod_settles, .ref a_mod_next, .ref a_mod_ones, .ref a_mod_distance, .ref a_mod_apart, .ref a_mod_leads]))]) [0] (by decide) rfl
    have hFc := va_free (wc := [(h_mod, .inr (5, [.int mod_code, .int mod_gates, .int mod_feeds, .int mod_inputs, .int mod_latches, .int mod_outputs, .ref a_mod_sort, .ref a_mod_number, .ref a_mod_value, .ref a_mod_made, .ref a_mod_to, .ref a_mod_from, .ref a_mod_outputOf, .ref a_mod_negated, .int mod_explored, .ref a_mod_settles, .ref a_mod_next, .ref a_mod_ones, .ref a_mod_distance, .ref a_mod_apart, .ref a_mod_leads]))]) hD hS hA [0] rfl
    refine sx_stI (va_runV (As := []) (rest := [.int x1]) ⟨hx, hb, hml, hown, hts⟩ (k_Mod_states l dC dI cI cL cZ t1 t2 h_mod a_mod_sort a_mod_number a_mod_value a_mod_made a_mod_to a_mod_from a_mod_outputOf a_mod_negated a_mod_settles a_mod_next a_mod_ones a_mod_distance a_mod_apart a_mod_leads mod_code mod_gates mod_feeds mod_inputs mod_latches mod_outputs mod_explored _ v1 hv1) (cwV 0 hts (sx_gV tw_708 tw_710 tw_22 tw_41 tcMod_states) rfl rfl rfl (by decide +kernel) ⟨Nat.le_of_ble_eq_true rfl, Nat.le_of_ble_eq_true rfl⟩) (sx_pV hK hX hS hPc hDc hFc (va_recv hK hPc (ci := 5) (q0 := 0) rfl rfl)) rfl rfl hl.1 rfl (lv_room (Nat.le_of_ble_eq_true rfl)) dMod_explore_9 ⟨Nat.le_of_ble_eq_true rfl, Nat.le_of_ble_eq_true rfl⟩) ?_
    refine lv_icmp_ge (tgt := 58) hx hb dMod_explore_12 (by decide) (fun c3 => ?_) (fun c3 => ?_)
    · have hm := sx_pos c3 hm
      obtain rfl := Option.some.inj hm
      exact k1 _ _ _ hP hD hS (lv_sub hl [0] rfl)
    · have hm := sx_neg c3 hm
      refine lv_aload_n hx hb dMod_explore_15 rfl (lv_at hl 0 rfl) ?_
      refine va_get (D := (dC, dI)) (ci := 5) (v := .ref a_mod_distance) (C := RMod) (T := TMod) (N := 21) hx hb hts inMod hown hK hP 0 rfl rfl 18 (by decide) (hts _ tw_629) (fun _ h9 => h9) rfl dMod_explore_16 ?_
      refine lv_iload_n hx hb dMod_explore_19 rfl (lv_at hl 1 rfl) ?_
      refine lv_iload_n hx hb dMod_explore_20 rfl (lv_at hl 1 rfl) ?_
      obtain ⟨J4, hJ4, hm⟩ := sx_lj hm
      have jJ4 : ∀ (z0J4 : Int32) (z1J4 : Int32), J4 z0J4 z1J4 = some r → ∀ (ls : Array Slot), lv_has ls 6 [(0, .ref h_mod), (1, .int x1)] → W p l e (headSpec wsMod_explore rm_Mod_explore).room s m args below meth c H locs 0 0 Q (F0 m 29 ls [.int z0J4, .int z1J4, .ref a_mod_distance]) := by
        intro z0J4 z1J4 hm ls hl
        rw [hJ4] at hm
        dsimp only at hm
        obtain ⟨g5, hm⟩ := gd_el hm
        refine va_iast hx hb hK hP hD hS 12 0 rfl rfl g5 dMod_explore_29 (fun H locs hP hD hS => ?_)
        have hP : va_P (dC, dI) vwCl [(h_mod, .inr (5, [.int mod_code, .int mod_gates, .int mod_feeds, .int mod_inputs, .int mod_latches, .int mod_outputs, .ref a_mod_sort, .ref a_mod_number, .ref a_mod_value, .ref a_mod_made, .ref a_mod_to, .ref a_mod_from, .ref a_mod_outputOf, .ref a_mod_negated, .int mod_explored, .ref a_mod_settles, .ref a_mod_next, .ref a_mod_ones, .ref a_mod_distance, .ref a_mod_apart, .ref a_mod_leads])), (a_mod_sort, .inl (cI, 60, .inl mod_sort)), (a_mod_number, .inl (cI, 60, .inl mod_number)), (a_mod_value, .inl (cI, 60, .inl mod_value)), (a_mod_made, .inl (cI, 60, .inl mod_made)), (a_mod_to, .inl (cI, 240, .inl mod_to)), (a_mod_from, .inl (cI, 240, .inl mod_from)), (a_mod_outputOf, .inl (cI, 6, .inl mod_outputOf)), (a_mod_negated, .inl (cZ, 240, .inl mod_negated)), (a_mod_settles, .inl (cZ, 4096, .inl mod_settles)), (a_mod_next, .inl (cI, 4096, .inl mod_next)), (a_mod_ones, .inl (cL, 4096, .inr (.inl mod_ones))), (a_mod_distance, .inl (cI, 256, .inl (upd mod_distance z1J4.toNatClampNeg z0J4))), (a_mod_apart, .inl (cZ, 65536, .inl mod_apart))] H := hP
        have hD : va_D A [(h_mod, .inr (5, [.int mod_code, .int mod_gates, .int mod_feeds, .int mod_inputs, .int mod_latches, .int mod_outputs, .ref a_mod_sort, .ref a_mod_number, .ref a_mod_value, .ref a_mod_made, .ref a_mod_to, .ref a_mod_from, .ref a_mod_outputOf, .ref a_mod_negated, .int mod_explored, .ref a_mod_settles, .ref a_mod_next, .ref a_mod_ones, .ref a_mod_distance, .ref a_mod_apart, .ref a_mod_leads])), (a_mod_sort, .inl (cI, 60, .inl mod_sort)), (a_mod_number, .inl (cI, 60, .inl mod_number)), (a_mod_value, .inl (cI, 60, .inl mod_value)), (a_mod_made, .inl (cI, 60, .inl mod_made)), (a_mod_to, .inl (cI, 240, .inl mod_to)), (a_mod_from, .inl (cI, 240, .inl mod_from)), (a_mod_outputOf, .inl (cI, 6, .inl mod_outputOf)), (a_mod_negated, .inl (cZ, 240, .inl mod_negated)), (a_mod_settles, .inl (cZ, 4096, .inl mod_settles)), (a_mod_next, .inl (cI, 4096, .inl mod_next)), (a_mod_ones, .inl (cL, 4096, .inr (.inl mod_ones))), (a_mod_distance, .inl (cI, 256, .inl (upd mod_distance z1J4.toNatClampNeg z0J4))), (a_mod_apart, .inl (cZ, 65536, .inl mod_apart))] := hD
        refine lv_iconst (v := (0 : Int32)) hx hb dMod_explore_30 (by decide) ?_
        refine lv_istore_n (lv' := [(2, .int (0 : Int32)), (0, .ref h_mod), (1, .int x1)]) hx hb dMod_explore_31 rfl hl (by decide) rfl (fun ls hl => ?_)
        obtain ⟨v11, hv11, hm⟩ := sx_bind hm
        refine w_Mod_explore_32 C0 h_mod a_mod_sort a_mod_number a_mod_value a_mod_made a_mod_to a_mod_from a_mod_outputOf a_mod_negated a_mod_settles a_mod_next a_mod_ones a_mod_distance a_mod_apart a_mod_leads mod_code mod_gates mod_feeds mod_inputs mod_latches mod_outputs mod_sort mod_number mod_to mod_from mod_outputOf mod_negated mod_explored (upd mod_distance z1J4.toNatClampNeg z0J4) mod_apart x1 _ (0 : Int32) mod_value mod_made mod_settles mod_next mod_ones v11 hv11 _ _ _ hP hD hS (lv_sub hl [1, 2, 0] rfl) ?_
        intro H locs ls hP hD hS hl
        refine lv_iinc (v := x1 + (1 : Int32)) (lv' := [(1, .int (x1 + (1 : Int32))), (0, .ref h_mod)]) hx hb dMod_explore_52 hl (k := 1) rfl rfl (by decide) rfl (fun ls hl => ?_)
        refine lv_goto (tgt := 7) hx hb dMod_explore_55 (by decide) ?_
        exact ih (x1 + (1 : Int32)) v11.1 v11.2.1 v11.2.2.1 v11.2.2.2.1 v11.2.2.2.2 (upd mod_distance z1J4.toNatClampNeg z0J4) r hm _ _ _ hP hD hS (lv_sub hl [1, 0] rfl) k1
      refine lv_if_ne (tgt := 28) hx hb dMod_explore_21 (by decide) (fun c12 => ?_) (fun c12 => ?_)
      · have hm := sx_neg c12 hm
        refine lv_iconst (v := (-1 : Int32)) hx hb dMod_explore_28 (by decide) ?_
        exact jJ4 (-1 : Int32) x1 hm _ (hl)
      · have hm := sx_pos c12 hm
        refine lv_iconst (v := (0 : Int32)) hx hb dMod_explore_24 (by decide) ?_
        refine lv_goto (tgt := 29) hx hb dMod_explore_25 (by decide) ?_
        exact jJ4 (0 : Int32) x1 hm _ (hl)
set_option maxHeartbeats 4000000 in
set_option maxRecDepth 100000 in
theorem w_Mod_explore_81 {p : Program} {l : Launch} {e : Env} {s : State} {m : MethodId} {args : Array Value} {below : List Frame} {meth : Method} {c : Code} {dC : Nat → ClassId} {dI : Nat → Nat → Nat} {cI cL cZ : ClassId} {A : Nat → Prop} {Q : State → Prop} {t1 t2 : Nat} (C0 : sx_C p s m args meth c cMod_explore 6 "StateExplorerModel" A (dC, dI) [(cI, .int), (cL, .long), (cZ, .boolean)] t1 t2) (h_mod a_mod_sort a_mod_number a_mod_value a_mod_made a_mod_to a_mod_from a_mod_outputOf a_mod_negated a_mod_settles a_mod_next a_mod_ones a_mod_distance a_mod_apart a_mod_leads : Nat) (mod_code mod_gates mod_feeds mod_inputs mod_latches mod_outputs : Int32) (mod_sort mod_number mod_value mod_made mod_to mod_from mod_outputOf mod_negated : Nat → Int32) (mod_explored : Int32) (mod_settles mod_next : Nat → Int32) (mod_ones : Nat → Int64) (mod_apart : Nat → Int32) (x2 : Int32) (x3 : Int32) :
    ∀ (n : Nat) (x1 : Int32) (x4 : Int32) (mod_distance : Nat → Int32) (r : Int32 × (Nat → Int32)), L_Mod_explore_81 mod_inputs mod_settles mod_next x2 x3 n x1 x4 mod_distance = some r → ∀ (H : Heap) (locs : List Loc) (ls : Array Slot), va_P (dC, dI) vwCl [(h_mod, .inr (5, [.int mod_code, .int mod_gates, .int mod_feeds, .int mod_inputs, .int mod_latches, .int mod_outputs, .ref a_mod_sort, .ref a_mod_number, .ref a_mod_value, .ref a_mod_made, .ref a_mod_to, .ref a_mod_from, .ref a_mod_outputOf, .ref a_mod_negated, .int mod_explored, .ref a_mod_settles, .ref a_mod_next, .ref a_mod_ones, .ref a_mod_distance, .ref a_mod_apart, .ref a_mod_leads])), (a_mod_sort, .inl (cI, 60, .inl mod_sort)), (a_mod_number, .inl (cI, 60, .inl mod_number)), (a_mod_value, .inl (cI, 60, .inl mod_value)), (a_mod_made, .inl (cI, 60, .inl mod_made)), (a_mod_to, .inl (cI, 240, .inl mod_to)), (a_mod_from, .inl (cI, 240, .inl mod_from)), (a_mod_outputOf, .inl (cI, 6, .inl mod_outputOf)), (a_mod_negated, .inl (cZ, 240, .inl mod_negated)), (a_mod_settles, .inl (cZ, 4096, .inl mod_settles)), (a_mod_next, .inl (cI, 4096, .inl mod_next)), (a_mod_ones, .inl (cL, 4096, .inr (.inl mod_ones))), (a_mod_distance, .inl (cI, 256, .inl mod_distance)), (a_mod_apart, .inl (cZ, 65536, .inl mod_apart))] H → va_D A [(h_mod, .inr (5, [.int mod_code, .int mod_gates, .int mod_feeds, .int mod_inputs, .int mod_latches, .int mod_outputs, .ref a_mod_sort, .ref a_mod_number, .ref a_mod_value, .ref a_mod_made, .ref a_mod_to, .ref a_mod_from, .ref a_mod_outputOf, .ref a_mod_negated, .int mod_explored, .ref a_mod_settles, .ref a_mod_next, .ref a_mod_ones, .ref a_mod_distance, .ref a_mod_apart, .ref a_mod_leads])), (a_mod_sort, .inl (cI, 60, .inl mod_sort)), (a_mod_number, .inl (cI, 60, .inl mod_number)), (a_mod_value, .inl (cI, 60, .inl mod_value)), (a_mod_made, .inl (cI, 60, .inl mod_made)), (a_mod_to, .inl (cI, 240, .inl mod_to)), (a_mod_from, .inl (cI, 240, .inl mod_from)), (a_mod_outputOf, .inl (cI, 6, .inl mod_outputOf)), (a_mod_negated, .inl (cZ, 240, .inl mod_negated)), (a_mod_settles, .inl (cZ, 4096, .inl mod_settles)), (a_mod_next, .inl (cI, 4096, .inl mod_next)), (a_mod_ones, .inl (cL, 4096, .inr (.inl mod_ones))), (a_mod_distance, .inl (cI, 256, .inl mod_distance)), (a_mod_apart, .inl (cZ, 65536, .inl mod_apart))] → va_S A s.heap H locs → lv_has ls 6 [(0, .ref h_mod), (1, .int x1), (2, .int x2), (3, .int x3), (4, .int x4)] →
    (∀ (H : Heap) (locs : List Loc) (ls : Array Slot), va_P (dC, dI) vwCl [(h_mod, .inr (5, [.int mod_code, .int mod_gates, .int mod_feeds, .int mod_inputs, .int mod_latches, .int mod_outputs, .ref a_mod_sort, .ref a_mod_number, .ref a_mod_value, .ref a_mod_made, .ref a_mod_to, .ref a_mod_from, .ref a_mod_outputOf, .ref a_mod_negated, .int mod_explored, .ref a_mod_settles, .ref a_mod_next, .ref a_mod_ones, .ref a_mod_distance, .ref a_mod_apart, .ref a_mod_leads])), (a_mod_sort, .inl (cI, 60, .inl mod_sort)), (a_mod_number, .inl (cI, 60, .inl mod_number)), (a_mod_value, .inl (cI, 60, .inl mod_value)), (a_mod_made, .inl (cI, 60, .inl mod_made)), (a_mod_to, .inl (cI, 240, .inl mod_to)), (a_mod_from, .inl (cI, 240, .inl mod_from)), (a_mod_outputOf, .inl (cI, 6, .inl mod_outputOf)), (a_mod_negated, .inl (cZ, 240, .inl mod_negated)), (a_mod_settles, .inl (cZ, 4096, .inl mod_settles)), (a_mod_next, .inl (cI, 4096, .inl mod_next)), (a_mod_ones, .inl (cL, 4096, .inr (.inl mod_ones))), (a_mod_distance, .inl (cI, 256, .inl r.2)), (a_mod_apart, .inl (cZ, 65536, .inl mod_apart))] H → va_D A [(h_mod, .inr (5, [.int mod_code, .int mod_gates, .int mod_feeds, .int mod_inputs, .int mod_latches, .int mod_outputs, .ref a_mod_sort, .ref a_mod_number, .ref a_mod_value, .ref a_mod_made, .ref a_mod_to, .ref a_mod_from, .ref a_mod_outputOf, .ref a_mod_negated, .int mod_explored, .ref a_mod_settles, .ref a_mod_next, .ref a_mod_ones, .ref a_mod_distance, .ref a_mod_apart, .ref a_mod_leads])), (a_mod_sort, .inl (cI, 60, .inl mod_sort)), (a_mod_number, .inl (cI, 60, .inl mod_number)), (a_mod_value, .inl (cI, 60, .inl mod_value)), (a_mod_made, .inl (cI, 60, .inl mod_made)), (a_mod_to, .inl (cI, 240, .inl mod_to)), (a_mod_from, .inl (cI, 240, .inl mod_from)), (a_mod_outputOf, .inl (cI, 6, .inl mod_outputOf)), (a_mod_negated, .inl (cZ, 240, .inl mod_negated)), (a_mod_settles, .inl (cZ, 4096, .inl mod_settles)), (a_mod_next, .inl (cI, 4096, .inl mod_next)), (a_mod_ones, .inl (cL, 4096, .inr (.inl mod_ones))), (a_mod_distance, .inl (cI, 256, .inl r.2)), (a_mod_apart, .inl (cZ, 65536, .inl mod_apart))] → va_S A s.heap H locs → lv_has ls 6 [(0, .ref h_mod), (1, .int r.1), (2, .int x2), (3, .int x3)] → W p l e (headSpec wsMod_explore rm_Mod_explore).room s m args below meth c H locs 0 0 Q (F0 m 161 ls [])) →
    W p l e (headSpec wsMod_explore rm_Mod_explore).room s m args below meth c H locs 0 0 Q (F0 m 81 ls []) := by
  obtain ⟨hx, hb, hml, hown, hts, hA, hK, hlocks, hX⟩ := id C0
  intro n
  induction n with
  | zero => intro x1 x4 mod_distance r hm; rw [L_Mod_explore_81] at hm; cases hm
  | succ n ih =>
    intro x1 x4 mod_distance r hm H locs ls hP hD hS hl k1
    rw [L_Mod_explore_81] at hm
    refine lv_iload hx hb dMod_explore_81 (lv_at hl 4 rfl) ?_
    refine lv_aload_n hx hb dMod_explore_83 rfl (lv_at hl 0 rfl) ?_
    obtain ⟨v18, hv18, hm⟩ := sx_bind hm
    have hPc := hP.sub (ws' := [(h_mod, .inr (5, [.int mod_code, .int mod_gates, .int mod_feeds, .int mod_inputs, .int mod_latches, .int mod_outputs, .ref a_mod_sort, .ref a_mod_number, .ref a_mod_value, .ref a_mod_made, .ref a_mod_to, .ref a_mod_from, .ref a_mod_outputOf, .ref a_mod_negated, .int mod_explored, .ref a_mod_settles, .ref a_mod_next, .ref a_mod_ones, .ref a_mod_distance, .ref a_mod_apart, .ref a_mod_leads]))]) [0] rfl
    have hDc := hD.sub (ws' := [(h_mod, .inr (5, [.int mod_code, .int mod_gates, .int mod_feeds, .int mod_inputs, .int mod_latches, .int mod_outputs, .ref a_mod_sort, .ref a_mod_number, .ref a_mod_value, .ref a_mod_made, .ref a_mod_to, .ref a_mod_from, .ref a_mod_outputOf, .ref a_mod_negated, .int mod_explored, .ref a_mod_settles, .ref a_mod_next, .ref a_mod_ones, .ref a_mod_distance, .ref a_mod_apart, .ref a_mod_leads]))]) [0] (by decide) rfl
    have hFc := va_free (wc := [(h_mod, .inr (5, [.int mod_code, .int mod_gates, .int mod_feeds, .int mod_inputs, .int mod_latches, .int mod_outputs, .ref a_mod_sort, .ref a_mod_number, .ref a_mod_value, .ref a_mod_made, .ref a_mod_to, .ref a_mod_from, .ref a_mod_outputOf, .ref a_mod_negated, .int mod_explored, .ref a_mod_settles, .ref a_mod_next, .ref a_mod_ones, .ref a_mod_distance, .ref a_mod_apart, .ref a_mod_leads]))]) hD hS hA [0] rfl
    refine sx_stI (va_runV (As := []) (rest := [.int x4]) ⟨hx, hb, hml, hown, hts⟩ (k_Mod_choices l dC dI cI cL cZ t1 t2 h_mod a_mod_sort a_mod_number a_mod_value a_mod_made a_mod_to a_mod_from a_mod_outputOf a_mod_negated a_mod_settles a_mod_next a_mod_ones a_mod_distance a_mod_apart a_mod_leads mod_code mod_gates mod_feeds mod_inputs mod_latches mod_outputs mod_explored _ v18 hv18) (cwV 0 hts (sx_gV tw_712 tw_714 tw_23 tw_41 tcMod_choices) rfl rfl rfl (by decide +kernel) ⟨Nat.le_of_ble_eq_true rfl, Nat.le_of_ble_eq_true rfl⟩) (sx_pV hK hX hS hPc hDc hFc (va_recv hK hPc (ci := 5) (q0 := 0) rfl rfl)) rfl rfl hl.1 rfl (lv_room (Nat.le_of_ble_eq_true rfl)) dMod_explore_84 ⟨Nat.le_of_ble_eq_true rfl, Nat.le_of_ble_eq_true rfl⟩) ?_
    refine lv_icmp_ge (tgt := 161) hx hb dMod_explore_87 (by decide) (fun c20 => ?_) (fun c20 => ?_)
    · have hm := sx_pos c20 hm
      obtain rfl := Option.some.inj hm
      exact k1 _ _ _ hP hD hS (lv_sub hl [0, 1, 2, 3] rfl)
    · have hm := sx_neg c20 hm
      refine lv_aload_n hx hb dMod_explore_90 rfl (lv_at hl 0 rfl) ?_
      refine va_get (D := (dC, dI)) (ci := 5) (v := .ref a_mod_distance) (C := RMod) (T := TMod) (N := 21) hx hb hts inMod hown hK hP 0 rfl rfl 18 (by decide) (hts _ tw_629) (fun _ h9 => h9) rfl dMod_explore_91 ?_
      refine lv_iload_n hx hb dMod_explore_94 rfl (lv_at hl 3 rfl) ?_
      obtain ⟨g21, hm⟩ := gd_el hm
      refine va_iald hx hb hK hP 12 0 rfl rfl g21 dMod_explore_95 ?_
      refine lv_iload_n hx hb dMod_explore_96 rfl (lv_at hl 2 rfl) ?_
      refine lv_icmp_ne (tgt := 161) hx hb dMod_explore_97 (by decide) (fun c22 => ?_) (fun c22 => ?_)
      · have hm := sx_neg c22 hm
        obtain rfl := Option.some.inj hm
        exact k1 _ _ _ hP hD hS (lv_sub hl [0, 1, 2, 3] rfl)
      · have hm := sx_pos c22 hm
        refine lv_aload_n hx hb dMod_explore_100 rfl (lv_at hl 0 rfl) ?_
        refine va_get (D := (dC, dI)) (ci := 5) (v := .ref a_mod_next) (C := RMod) (T := TMod) (N := 21) hx hb hts inMod hown hK hP 0 rfl rfl 16 (by decide) (hts _ tw_627) (fun _ h9 => h9) rfl dMod_explore_101 ?_
        refine lv_bipush (v := (16 : Int32)) hx hb dMod_explore_104 (by decide) ?_
        refine lv_iload_n hx hb dMod_explore_106 rfl (lv_at hl 3 rfl) ?_
        refine lv_imul hx hb dMod_explore_107 ?_
        refine lv_iload hx hb dMod_explore_108 (lv_at hl 4 rfl) ?_
        refine lv_iadd hx hb dMod_explore_110 ?_
        obtain ⟨g23, hm⟩ := gd_el hm
        refine va_iald hx hb hK hP 10 0 rfl rfl g23 dMod_explore_111 ?_
        refine lv_istore (lv' := [(5, .int (mod_next (((16 : Int32) * x3) + x4).toNatClampNeg)), (0, .ref h_mod), (1, .int x1), (2, .int x2), (3, .int x3), (4, .int x4)]) hx hb dMod_explore_112 hl (by decide) rfl (fun ls hl => ?_)
        refine lv_aload_n hx hb dMod_explore_114 rfl (lv_at hl 1 rfl) ?_
        refine va_get (D := (dC, dI)) (ci := 5) (v := .ref a_mod_settles) (C := RMod) (T := TMod) (N := 21) hx hb hts inMod hown hK hP 0 rfl rfl 15 (by decide) (hts _ tw_626) (fun _ h9 => h9) rfl dMod_explore_115 ?_
        refine lv_bipush (v := (16 : Int32)) hx hb dMod_explore_118 (by decide) ?_
        refine lv_iload_n hx hb dMod_explore_120 rfl (lv_at hl 4 rfl) ?_
        refine lv_imul hx hb dMod_explore_121 ?_
        refine lv_iload hx hb dMod_explore_122 (lv_at hl 5 rfl) ?_
        refine lv_iadd hx hb dMod_explore_124 ?_
        obtain ⟨g24, hm⟩ := gd_el hm
        refine va_zald hx hb hK hP 9 2 rfl rfl g24 dMod_explore_125 ?_
        refine lv_if_eq (tgt := 155) hx hb dMod_explore_126 (by decide) (fun c25 => ?_) (fun c25 => ?_)
        · have hm := sx_pos c25 hm
          refine lv_iinc (v := x4 + (1 : Int32)) (lv' := [(4, .int (x4 + (1 : Int32))), (5, .int (mod_next (((16 : Int32) * x3) + x4).toNatClampNeg)), (0, .ref h_mod), (1, .int x1), (2, .int x2), (3, .int x3)]) hx hb dMod_explore_155 hl (k := 5) rfl rfl (by decide) rfl (fun ls hl => ?_)
          refine lv_goto (tgt := 81) hx hb dMod_explore_158 (by decide) ?_
          exact ih x1 (x4 + (1 : Int32)) mod_distance r hm _ _ _ hP hD hS (lv_sub hl [2, 3, 4, 5, 0] rfl) k1
        · have hm := sx_neg c25 hm
          refine lv_aload_n hx hb dMod_explore_129 rfl (lv_at hl 1 rfl) ?_
          refine va_get (D := (dC, dI)) (ci := 5) (v := .ref a_mod_distance) (C := RMod) (T := TMod) (N := 21) hx hb hts inMod hown hK hP 0 rfl rfl 18 (by decide) (hts _ tw_629) (fun _ h9 => h9) rfl dMod_explore_130 ?_
          refine lv_iload hx hb dMod_explore_133 (lv_at hl 0 rfl) ?_
          obtain ⟨g26, hm⟩ := gd_el hm
          refine va_iald hx hb hK hP 12 0 rfl rfl g26 dMod_explore_135 ?_
          refine lv_iconst (v := (-1 : Int32)) hx hb dMod_explore_136 (by decide) ?_
          refine lv_icmp_eq (tgt := 143) hx hb dMod_explore_137 (by decide) (fun c27 => ?_) (fun c27 => ?_)
          · have hm := sx_pos c27 hm
            refine lv_aload_n hx hb dMod_explore_143 rfl (lv_at hl 1 rfl) ?_
            refine va_get (D := (dC, dI)) (ci := 5) (v := .ref a_mod_distance) (C := RMod) (T := TMod) (N := 21) hx hb hts inMod hown hK hP 0 rfl rfl 18 (by decide) (hts _ tw_629) (fun _ h9 => h9) rfl dMod_explore_144 ?_
            refine lv_iload hx hb dMod_explore_147 (lv_at hl 0 rfl) ?_
            refine lv_iload_n hx hb dMod_explore_149 rfl (lv_at hl 3 rfl) ?_
            refine lv_iconst (v := (1 : Int32)) hx hb dMod_explore_150 (by decide) ?_
            refine lv_iadd hx hb dMod_explore_151 ?_
            obtain ⟨g28, hm⟩ := gd_el hm
            refine va_iast hx hb hK hP hD hS 12 0 rfl rfl g28 dMod_explore_152 (fun H locs hP hD hS => ?_)
            have hP : va_P (dC, dI) vwCl [(h_mod, .inr (5, [.int mod_code, .int mod_gates, .int mod_feeds, .int mod_inputs, .int mod_latches, .int mod_outputs, .ref a_mod_sort, .ref a_mod_number, .ref a_mod_value, .ref a_mod_made, .ref a_mod_to, .ref a_mod_from, .ref a_mod_outputOf, .ref a_mod_negated, .int mod_explored, .ref a_mod_settles, .ref a_mod_next, .ref a_mod_ones, .ref a_mod_distance, .ref a_mod_apart, .ref a_mod_leads])), (a_mod_sort, .inl (cI, 60, .inl mod_sort)), (a_mod_number, .inl (cI, 60, .inl mod_number)), (a_mod_value, .inl (cI, 60, .inl mod_value)), (a_mod_made, .inl (cI, 60, .inl mod_made)), (a_mod_to, .inl (cI, 240, .inl mod_to)), (a_mod_from, .inl (cI, 240, .inl mod_from)), (a_mod_outputOf, .inl (cI, 6, .inl mod_outputOf)), (a_mod_negated, .inl (cZ, 240, .inl mod_negated)), (a_mod_settles, .inl (cZ, 4096, .inl mod_settles)), (a_mod_next, .inl (cI, 4096, .inl mod_next)), (a_mod_ones, .inl (cL, 4096, .inr (.inl mod_ones))), (a_mod_distance, .inl (cI, 256, .inl (upd mod_distance (mod_next (((16 : Int32) * x3) + x4).toNatClampNeg).toNatClampNeg (x2 + (1 : Int32))))), (a_mod_apart, .inl (cZ, 65536, .inl mod_apart))] H := hP
            have hD : va_D A [(h_mod, .inr (5, [.int mod_code, .int mod_gates, .int mod_feeds, .int mod_inputs, .int mod_latches, .int mod_outputs, .ref a_mod_sort, .ref a_mod_number, .ref a_mod_value, .ref a_mod_made, .ref a_mod_to, .ref a_mod_from, .ref a_mod_outputOf, .ref a_mod_negated, .int mod_explored, .ref a_mod_settles, .ref a_mod_next, .ref a_mod_ones, .ref a_mod_distance, .ref a_mod_apart, .ref a_mod_leads])), (a_mod_sort, .inl (cI, 60, .inl mod_sort)), (a_mod_number, .inl (cI, 60, .inl mod_number)), (a_mod_value, .inl (cI, 60, .inl mod_value)), (a_mod_made, .inl (cI, 60, .inl mod_made)), (a_mod_to, .inl (cI, 240, .inl mod_to)), (a_mod_from, .inl (cI, 240, .inl mod_from)), (a_mod_outputOf, .inl (cI, 6, .inl mod_outputOf)), (a_mod_negated, .inl (cZ, 240, .inl mod_negated)), (a_mod_settles, .inl (cZ, 4096, .inl mod_settles)), (a_mod_next, .inl (cI, 4096, .inl mod_next)), (a_mod_ones, .inl (cL, 4096, .inr (.inl mod_ones))), (a_mod_distance, .inl (cI, 256, .inl (upd mod_distance (mod_next (((16 : Int32) * x3) + x4).toNatClampNeg).toNatClampNeg (x2 + (1 : Int32))))), (a_mod_apart, .inl (cZ, 65536, .inl mod_apart))] := hD
            refine lv_iconst (v := (1 : Int32)) hx hb dMod_explore_153 (by decide) ?_
            refine lv_istore_n (lv' := [(1, .int (1 : Int32)), (5, .int (mod_next (((16 : Int32) * x3) + x4).toNatClampNeg)), (0, .ref h_mod), (2, .int x2), (3, .int x3), (4, .int x4)]) hx hb dMod_explore_154 rfl hl (by decide) rfl (fun ls hl => ?_)
            refine lv_iinc (v := x4 + (1 : Int32)) (lv' := [(4, .int (x4 + (1 : Int32))), (1, .int (1 : Int32)), (5, .int (mod_next (((16 : Int32) * x3) + x4).toNatClampNeg)), (0, .ref h_mod), (2, .int x2), (3, .int x3)]) hx hb dMod_explore_155 hl (k := 5) rfl rfl (by decide) rfl (fun ls hl => ?_)
            refine lv_goto (tgt := 81) hx hb dMod_explore_158 (by decide) ?_
            exact ih (1 : Int32) (x4 + (1 : Int32)) (upd mod_distance (mod_next (((16 : Int32) * x3) + x4).toNatClampNeg).toNatClampNeg (x2 + (1 : Int32))) r hm _ _ _ hP hD hS (lv_sub hl [3, 1, 4, 5, 0] rfl) k1
          · have hm := sx_neg c27 hm
            refine lv_goto (tgt := 155) hx hb dMod_explore_140 (by decide) ?_
            refine lv_iinc (v := x4 + (1 : Int32)) (lv' := [(4, .int (x4 + (1 : Int32))), (5, .int (mod_next (((16 : Int32) * x3) + x4).toNatClampNeg)), (0, .ref h_mod), (1, .int x1), (2, .int x2), (3, .int x3)]) hx hb dMod_explore_155 hl (k := 5) rfl rfl (by decide) rfl (fun ls hl => ?_)
            refine lv_goto (tgt := 81) hx hb dMod_explore_158 (by decide) ?_
            exact ih x1 (x4 + (1 : Int32)) mod_distance r hm _ _ _ hP hD hS (lv_sub hl [2, 3, 4, 5, 0] rfl) k1
set_option maxHeartbeats 4000000 in
set_option maxRecDepth 100000 in
theorem w_Mod_explore_70 {p : Program} {l : Launch} {e : Env} {s : State} {m : MethodId} {args : Array Value} {below : List Frame} {meth : Method} {c : Code} {dC : Nat → ClassId} {dI : Nat → Nat → Nat} {cI cL cZ : ClassId} {A : Nat → Prop} {Q : State → Prop} {t1 t2 : Nat} (C0 : sx_C p s m args meth c cMod_explore 6 "StateExplorerModel" A (dC, dI) [(cI, .int), (cL, .long), (cZ, .boolean)] t1 t2) (h_mod a_mod_sort a_mod_number a_mod_value a_mod_made a_mod_to a_mod_from a_mod_outputOf a_mod_negated a_mod_settles a_mod_next a_mod_ones a_mod_distance a_mod_apart a_mod_leads : Nat) (mod_code mod_gates mod_feeds mod_inputs mod_latches mod_outputs : Int32) (mod_sort mod_number mod_value mod_made mod_to mod_from mod_outputOf mod_negated : Nat → Int32) (mod_explored : Int32) (mod_settles mod_next : Nat → Int32) (mod_ones : Nat → Int64) (mod_apart : Nat → Int32) (x2 : Int32) :
    ∀ (n : Nat) (x1 : Int32) (x3 : Int32) (mod_distance : Nat → Int32) (r : Int32 × (Nat → Int32)), L_Mod_explore_70 mod_inputs mod_latches mod_settles mod_next x2 n x1 x3 mod_distance = some r → ∀ (H : Heap) (locs : List Loc) (ls : Array Slot), va_P (dC, dI) vwCl [(h_mod, .inr (5, [.int mod_code, .int mod_gates, .int mod_feeds, .int mod_inputs, .int mod_latches, .int mod_outputs, .ref a_mod_sort, .ref a_mod_number, .ref a_mod_value, .ref a_mod_made, .ref a_mod_to, .ref a_mod_from, .ref a_mod_outputOf, .ref a_mod_negated, .int mod_explored, .ref a_mod_settles, .ref a_mod_next, .ref a_mod_ones, .ref a_mod_distance, .ref a_mod_apart, .ref a_mod_leads])), (a_mod_sort, .inl (cI, 60, .inl mod_sort)), (a_mod_number, .inl (cI, 60, .inl mod_number)), (a_mod_value, .inl (cI, 60, .inl mod_value)), (a_mod_made, .inl (cI, 60, .inl mod_made)), (a_mod_to, .inl (cI, 240, .inl mod_to)), (a_mod_from, .inl (cI, 240, .inl mod_from)), (a_mod_outputOf, .inl (cI, 6, .inl mod_outputOf)), (a_mod_negated, .inl (cZ, 240, .inl mod_negated)), (a_mod_settles, .inl (cZ, 4096, .inl mod_settles)), (a_mod_next, .inl (cI, 4096, .inl mod_next)), (a_mod_ones, .inl (cL, 4096, .inr (.inl mod_ones))), (a_mod_distance, .inl (cI, 256, .inl mod_distance)), (a_mod_apart, .inl (cZ, 65536, .inl mod_apart))] H → va_D A [(h_mod, .inr (5, [.int mod_code, .int mod_gates, .int mod_feeds, .int mod_inputs, .int mod_latches, .int mod_outputs, .ref a_mod_sort, .ref a_mod_number, .ref a_mod_value, .ref a_mod_made, .ref a_mod_to, .ref a_mod_from, .ref a_mod_outputOf, .ref a_mod_negated, .int mod_explored, .ref a_mod_settles, .ref a_mod_next, .ref a_mod_ones, .ref a_mod_distance, .ref a_mod_apart, .ref a_mod_leads])), (a_mod_sort, .inl (cI, 60, .inl mod_sort)), (a_mod_number, .inl (cI, 60, .inl mod_number)), (a_mod_value, .inl (cI, 60, .inl mod_value)), (a_mod_made, .inl (cI, 60, .inl mod_made)), (a_mod_to, .inl (cI, 240, .inl mod_to)), (a_mod_from, .inl (cI, 240, .inl mod_from)), (a_mod_outputOf, .inl (cI, 6, .inl mod_outputOf)), (a_mod_negated, .inl (cZ, 240, .inl mod_negated)), (a_mod_settles, .inl (cZ, 4096, .inl mod_settles)), (a_mod_next, .inl (cI, 4096, .inl mod_next)), (a_mod_ones, .inl (cL, 4096, .inr (.inl mod_ones))), (a_mod_distance, .inl (cI, 256, .inl mod_distance)), (a_mod_apart, .inl (cZ, 65536, .inl mod_apart))] → va_S A s.heap H locs → lv_has ls 6 [(0, .ref h_mod), (1, .int x1), (2, .int x2), (3, .int x3)] →
    (∀ (H : Heap) (locs : List Loc) (ls : Array Slot), va_P (dC, dI) vwCl [(h_mod, .inr (5, [.int mod_code, .int mod_gates, .int mod_feeds, .int mod_inputs, .int mod_latches, .int mod_outputs, .ref a_mod_sort, .ref a_mod_number, .ref a_mod_value, .ref a_mod_made, .ref a_mod_to, .ref a_mod_from, .ref a_mod_outputOf, .ref a_mod_negated, .int mod_explored, .ref a_mod_settles, .ref a_mod_next, .ref a_mod_ones, .ref a_mod_distance, .ref a_mod_apart, .ref a_mod_leads])), (a_mod_sort, .inl (cI, 60, .inl mod_sort)), (a_mod_number, .inl (cI, 60, .inl mod_number)), (a_mod_value, .inl (cI, 60, .inl mod_value)), (a_mod_made, .inl (cI, 60, .inl mod_made)), (a_mod_to, .inl (cI, 240, .inl mod_to)), (a_mod_from, .inl (cI, 240, .inl mod_from)), (a_mod_outputOf, .inl (cI, 6, .inl mod_outputOf)), (a_mod_negated, .inl (cZ, 240, .inl mod_negated)), (a_mod_settles, .inl (cZ, 4096, .inl mod_settles)), (a_mod_next, .inl (cI, 4096, .inl mod_next)), (a_mod_ones, .inl (cL, 4096, .inr (.inl mod_ones))), (a_mod_distance, .inl (cI, 256, .inl r.2)), (a_mod_apart, .inl (cZ, 65536, .inl mod_apart))] H → va_D A [(h_mod, .inr (5, [.int mod_code, .int mod_gates, .int mod_feeds, .int mod_inputs, .int mod_latches, .int mod_outputs, .ref a_mod_sort, .ref a_mod_number, .ref a_mod_value, .ref a_mod_made, .ref a_mod_to, .ref a_mod_from, .ref a_mod_outputOf, .ref a_mod_negated, .int mod_explored, .ref a_mod_settles, .ref a_mod_next, .ref a_mod_ones, .ref a_mod_distance, .ref a_mod_apart, .ref a_mod_leads])), (a_mod_sort, .inl (cI, 60, .inl mod_sort)), (a_mod_number, .inl (cI, 60, .inl mod_number)), (a_mod_value, .inl (cI, 60, .inl mod_value)), (a_mod_made, .inl (cI, 60, .inl mod_made)), (a_mod_to, .inl (cI, 240, .inl mod_to)), (a_mod_from, .inl (cI, 240, .inl mod_from)), (a_mod_outputOf, .inl (cI, 6, .inl mod_outputOf)), (a_mod_negated, .inl (cZ, 240, .inl mod_negated)), (a_mod_settles, .inl (cZ, 4096, .inl mod_settles)), (a_mod_next, .inl (cI, 4096, .inl mod_next)), (a_mod_ones, .inl (cL, 4096, .inr (.inl mod_ones))), (a_mod_distance, .inl (cI, 256, .inl r.2)), (a_mod_apart, .inl (cZ, 65536, .inl mod_apart))] → va_S A s.heap H locs → lv_has ls 6 [(0, .ref h_mod), (1, .int r.1), (2, .int x2)] → W p l e (headSpec wsMod_explore rm_Mod_explore).room s m args below meth c H locs 0 0 Q (F0 m 167 ls [])) →
    W p l e (headSpec wsMod_explore rm_Mod_explore).room s m args below meth c H locs 0 0 Q (F0 m 70 ls []) := by
  obtain ⟨hx, hb, hml, hown, hts, hA, hK, hlocks, hX⟩ := id C0
  intro n
  induction n with
  | zero => intro x1 x3 mod_distance r hm; rw [L_Mod_explore_70] at hm; cases hm
  | succ n ih =>
    intro x1 x3 mod_distance r hm H locs ls hP hD hS hl k1
    rw [L_Mod_explore_70] at hm
    refine lv_iload_n hx hb dMod_explore_70 rfl (lv_at hl 3 rfl) ?_
    refine lv_aload_n hx hb dMod_explore_71 rfl (lv_at hl 0 rfl) ?_
    obtain ⟨v15, hv15, hm⟩ := sx_bind hm
    have hPc := hP.sub (ws' := [(h_mod, .inr (5, [.int mod_code, .int mod_gates, .int mod_feeds, .int mod_inputs, .int mod_latches, .int mod_outputs, .ref a_mod_sort, .ref a_mod_number, .ref a_mod_value, .ref a_mod_made, .ref a_mod_to, .ref a_mod_from, .ref a_mod_outputOf, .ref a_mod_negated, .int mod_explored, .ref a_mod_settles, .ref a_mod_next, .ref a_mod_ones, .ref a_mod_distance, .ref a_mod_apart, .ref a_mod_leads]))]) [0] rfl
    have hDc := hD.sub (ws' := [(h_mod, .inr (5, [.int mod_code, .int mod_gates, .int mod_feeds, .int mod_inputs, .int mod_latches, .int mod_outputs, .ref a_mod_sort, .ref a_mod_number, .ref a_mod_value, .ref a_mod_made, .ref a_mod_to, .ref a_mod_from, .ref a_mod_outputOf, .ref a_mod_negated, .int mod_explored, .ref a_mod_settles, .ref a_mod_next, .ref a_mod_ones, .ref a_mod_distance, .ref a_mod_apart, .ref a_mod_leads]))]) [0] (by decide) rfl
    have hFc := va_free (wc := [(h_mod, .inr (5, [.int mod_code, .int mod_gates, .int mod_feeds, .int mod_inputs, .int mod_latches, .int mod_outputs, .ref a_mod_sort, .ref a_mod_number, .ref a_mod_value, .ref a_mod_made, .ref a_mod_to, .ref a_mod_from, .ref a_mod_outputOf, .ref a_mod_negated, .int mod_explored, .ref a_mod_settles, .ref a_mod_next, .ref a_mod_ones, .ref a_mod_distance, .ref a_mod_apart, .ref a_mod_leads]))]) hD hS hA [0] rfl
    refine sx_stI (va_runV (As := []) (rest := [.int x3]) ⟨hx, hb, hml, hown, hts⟩ (k_Mod_states l dC dI cI cL cZ t1 t2 h_mod a_mod_sort a_mod_number a_mod_value a_mod_made a_mod_to a_mod_from a_mod_outputOf a_mod_negated a_mod_settles a_mod_next a_mod_ones a_mod_distance a_mod_apart a_mod_leads mod_code mod_gates mod_feeds mod_inputs mod_latches mod_outputs mod_explored _ v15 hv15) (cwV 0 hts (sx_gV tw_708 tw_710 tw_22 tw_41 tcMod_states) rfl rfl rfl (by decide +kernel) ⟨Nat.le_of_ble_eq_true rfl, Nat.le_of_ble_eq_true rfl⟩) (sx_pV hK hX hS hPc hDc hFc (va_recv hK hPc (ci := 5) (q0 := 0) rfl rfl)) rfl rfl hl.1 rfl (lv_room (Nat.le_of_ble_eq_true rfl)) dMod_explore_72 ⟨Nat.le_of_ble_eq_true rfl, Nat.le_of_ble_eq_true rfl⟩) ?_
    refine lv_icmp_ge (tgt := 167) hx hb dMod_explore_75 (by decide) (fun c17 => ?_) (fun c17 => ?_)
    · have hm := sx_pos c17 hm
      obtain rfl := Option.some.inj hm
      exact k1 _ _ _ hP hD hS (lv_sub hl [0, 1, 2] rfl)
    · have hm := sx_neg c17 hm
      refine lv_iconst (v := (0 : Int32)) hx hb dMod_explore_78 (by decide) ?_
      refine lv_istore (lv' := [(4, .int (0 : Int32)), (0, .ref h_mod), (1, .int x1), (2, .int x2), (3, .int x3)]) hx hb dMod_explore_79 hl (by decide) rfl (fun ls hl => ?_)
      obtain ⟨v29, hv29, hm⟩ := sx_bind hm
      refine w_Mod_explore_81 C0 h_mod a_mod_sort a_mod_number a_mod_value a_mod_made a_mod_to a_mod_from a_mod_outputOf a_mod_negated a_mod_settles a_mod_next a_mod_ones a_mod_distance a_mod_apart a_mod_leads mod_code mod_gates mod_feeds mod_inputs mod_latches mod_outputs mod_sort mod_number mod_value mod_made mod_to mod_from mod_outputOf mod_negated mod_explored mod_settles mod_next mod_ones mod_apart x2 x3 _ x1 (0 : Int32) mod_distance v29 hv29 _ _ _ hP hD hS (lv_sub hl [1, 2, 3, 4, 0] rfl) ?_
      intro H locs ls hP hD hS hl
      refine lv_iinc (v := x3 + (1 : Int32)) (lv' := [(3, .int (x3 + (1 : Int32))), (0, .ref h_mod), (1, .int v29.1), (2, .int x2)]) hx hb dMod_explore_161 hl (k := 3) rfl rfl (by decide) rfl (fun ls hl => ?_)
      refine lv_goto (tgt := 70) hx hb dMod_explore_164 (by decide) ?_
      exact ih v29.1 (x3 + (1 : Int32)) v29.2 r hm _ _ _ hP hD hS (lv_sub hl [1, 2, 3, 0] rfl) k1
set_option maxHeartbeats 4000000 in
set_option maxRecDepth 100000 in
theorem w_Mod_explore_62 {p : Program} {l : Launch} {e : Env} {s : State} {m : MethodId} {args : Array Value} {below : List Frame} {meth : Method} {c : Code} {dC : Nat → ClassId} {dI : Nat → Nat → Nat} {cI cL cZ : ClassId} {A : Nat → Prop} {Q : State → Prop} {t1 t2 : Nat} (C0 : sx_C p s m args meth c cMod_explore 6 "StateExplorerModel" A (dC, dI) [(cI, .int), (cL, .long), (cZ, .boolean)] t1 t2) (h_mod a_mod_sort a_mod_number a_mod_value a_mod_made a_mod_to a_mod_from a_mod_outputOf a_mod_negated a_mod_settles a_mod_next a_mod_ones a_mod_distance a_mod_apart a_mod_leads : Nat) (mod_code mod_gates mod_feeds mod_inputs mod_latches mod_outputs : Int32) (mod_sort mod_number mod_value mod_made mod_to mod_from mod_outputOf mod_negated : Nat → Int32) (mod_explored : Int32) (mod_settles mod_next : Nat → Int32) (mod_ones : Nat → Int64) (mod_apart : Nat → Int32)  :
    ∀ (n : Nat) (x1 : Int32) (x2 : Int32) (mod_distance : Nat → Int32) (r : (Nat → Int32)), L_Mod_explore_62 mod_inputs mod_latches mod_settles mod_next n x1 x2 mod_distance = some r → ∀ (H : Heap) (locs : List Loc) (ls : Array Slot), va_P (dC, dI) vwCl [(h_mod, .inr (5, [.int mod_code, .int mod_gates, .int mod_feeds, .int mod_inputs, .int mod_latches, .int mod_outputs, .ref a_mod_sort, .ref a_mod_number, .ref a_mod_value, .ref a_mod_made, .ref a_mod_to, .ref a_mod_from, .ref a_mod_outputOf, .ref a_mod_negated, .int mod_explored, .ref a_mod_settles, .ref a_mod_next, .ref a_mod_ones, .ref a_mod_distance, .ref a_mod_apart, .ref a_mod_leads])), (a_mod_sort, .inl (cI, 60, .inl mod_sort)), (a_mod_number, .inl (cI, 60, .inl mod_number)), (a_mod_value, .inl (cI, 60, .inl mod_value)), (a_mod_made, .inl (cI, 60, .inl mod_made)), (a_mod_to, .inl (cI, 240, .inl mod_to)), (a_mod_from, .inl (cI, 240, .inl mod_from)), (a_mod_outputOf, .inl (cI, 6, .inl mod_outputOf)), (a_mod_negated, .inl (cZ, 240, .inl mod_negated)), (a_mod_settles, .inl (cZ, 4096, .inl mod_settles)), (a_mod_next, .inl (cI, 4096, .inl mod_next)), (a_mod_ones, .inl (cL, 4096, .inr (.inl mod_ones))), (a_mod_distance, .inl (cI, 256, .inl mod_distance)), (a_mod_apart, .inl (cZ, 65536, .inl mod_apart))] H → va_D A [(h_mod, .inr (5, [.int mod_code, .int mod_gates, .int mod_feeds, .int mod_inputs, .int mod_latches, .int mod_outputs, .ref a_mod_sort, .ref a_mod_number, .ref a_mod_value, .ref a_mod_made, .ref a_mod_to, .ref a_mod_from, .ref a_mod_outputOf, .ref a_mod_negated, .int mod_explored, .ref a_mod_settles, .ref a_mod_next, .ref a_mod_ones, .ref a_mod_distance, .ref a_mod_apart, .ref a_mod_leads])), (a_mod_sort, .inl (cI, 60, .inl mod_sort)), (a_mod_number, .inl (cI, 60, .inl mod_number)), (a_mod_value, .inl (cI, 60, .inl mod_value)), (a_mod_made, .inl (cI, 60, .inl mod_made)), (a_mod_to, .inl (cI, 240, .inl mod_to)), (a_mod_from, .inl (cI, 240, .inl mod_from)), (a_mod_outputOf, .inl (cI, 6, .inl mod_outputOf)), (a_mod_negated, .inl (cZ, 240, .inl mod_negated)), (a_mod_settles, .inl (cZ, 4096, .inl mod_settles)), (a_mod_next, .inl (cI, 4096, .inl mod_next)), (a_mod_ones, .inl (cL, 4096, .inr (.inl mod_ones))), (a_mod_distance, .inl (cI, 256, .inl mod_distance)), (a_mod_apart, .inl (cZ, 65536, .inl mod_apart))] → va_S A s.heap H locs → lv_has ls 6 [(0, .ref h_mod), (1, .int x1), (2, .int x2)] →
    (∀ (H : Heap) (locs : List Loc) (ls : Array Slot), va_P (dC, dI) vwCl [(h_mod, .inr (5, [.int mod_code, .int mod_gates, .int mod_feeds, .int mod_inputs, .int mod_latches, .int mod_outputs, .ref a_mod_sort, .ref a_mod_number, .ref a_mod_value, .ref a_mod_made, .ref a_mod_to, .ref a_mod_from, .ref a_mod_outputOf, .ref a_mod_negated, .int mod_explored, .ref a_mod_settles, .ref a_mod_next, .ref a_mod_ones, .ref a_mod_distance, .ref a_mod_apart, .ref a_mod_leads])), (a_mod_sort, .inl (cI, 60, .inl mod_sort)), (a_mod_number, .inl (cI, 60, .inl mod_number)), (a_mod_value, .inl (cI, 60, .inl mod_value)), (a_mod_made, .inl (cI, 60, .inl mod_made)), (a_mod_to, .inl (cI, 240, .inl mod_to)), (a_mod_from, .inl (cI, 240, .inl mod_from)), (a_mod_outputOf, .inl (cI, 6, .inl mod_outputOf)), (a_mod_negated, .inl (cZ, 240, .inl mod_negated)), (a_mod_settles, .inl (cZ, 4096, .inl mod_settles)), (a_mod_next, .inl (cI, 4096, .inl mod_next)), (a_mod_ones, .inl (cL, 4096, .inr (.inl mod_ones))), (a_mod_distance, .inl (cI, 256, .inl r)), (a_mod_apart, .inl (cZ, 65536, .inl mod_apart))] H → va_D A [(h_mod, .inr (5, [.int mod_code, .int mod_gates, .int mod_feeds, .int mod_inputs, .int mod_latches, .int mod_outputs, .ref a_mod_sort, .ref a_mod_number, .ref a_mod_value, .ref a_mod_made, .ref a_mod_to, .ref a_mod_from, .ref a_mod_outputOf, .ref a_mod_negated, .int mod_explored, .ref a_mod_settles, .ref a_mod_next, .ref a_mod_ones, .ref a_mod_distance, .ref a_mod_apart, .ref a_mod_leads])), (a_mod_sort, .inl (cI, 60, .inl mod_sort)), (a_mod_number, .inl (cI, 60, .inl mod_number)), (a_mod_value, .inl (cI, 60, .inl mod_value)), (a_mod_made, .inl (cI, 60, .inl mod_made)), (a_mod_to, .inl (cI, 240, .inl mod_to)), (a_mod_from, .inl (cI, 240, .inl mod_from)), (a_mod_outputOf, .inl (cI, 6, .inl mod_outputOf)), (a_mod_negated, .inl (cZ, 240, .inl mod_negated)), (a_mod_settles, .inl (cZ, 4096, .inl mod_settles)), (a_mod_next, .inl (cI, 4096, .inl mod_next)), (a_mod_ones, .inl (cL, 4096, .inr (.inl mod_ones))), (a_mod_distance, .inl (cI, 256, .inl r)), (a_mod_apart, .inl (cZ, 65536, .inl mod_apart))] → va_S A s.heap H locs → lv_has ls 6 [(0, .ref h_mod)] → W p l e (headSpec wsMod_explore rm_Mod_explore).room s m args below meth c H locs 0 0 Q (F0 m 173 ls [])) →
    W p l e (headSpec wsMod_explore rm_Mod_explore).room s m args below meth c H locs 0 0 Q (F0 m 62 ls []) := by
  obtain ⟨hx, hb, hml, hown, hts, hA, hK, hlocks, hX⟩ := id C0
  intro n
  induction n with
  | zero => intro x1 x2 mod_distance r hm; rw [L_Mod_explore_62] at hm; cases hm
  | succ n ih =>
    intro x1 x2 mod_distance r hm H locs ls hP hD hS hl k1
    rw [L_Mod_explore_62] at hm
    refine lv_iload_n hx hb dMod_explore_62 rfl (lv_at hl 1 rfl) ?_
    refine lv_if_eq (tgt := 173) hx hb dMod_explore_63 (by decide) (fun c14 => ?_) (fun c14 => ?_)
    · have hm := sx_pos c14 hm
      obtain rfl := Option.some.inj hm
      exact k1 _ _ _ hP hD hS (lv_sub hl [0] rfl)
    · have hm := sx_neg c14 hm
      refine lv_iconst (v := (0 : Int32)) hx hb dMod_explore_66 (by decide) ?_
      refine lv_istore_n (lv' := [(1, .int (0 : Int32)), (0, .ref h_mod), (2, .int x2)]) hx hb dMod_explore_67 rfl hl (by decide) rfl (fun ls hl => ?_)
      refine lv_iconst (v := (0 : Int32)) hx hb dMod_explore_68 (by decide) ?_
      refine lv_istore_n (lv' := [(3, .int (0 : Int32)), (1, .int (0 : Int32)), (0, .ref h_mod), (2, .int x2)]) hx hb dMod_explore_69 rfl hl (by decide) rfl (fun ls hl => ?_)
      obtain ⟨v30, hv30, hm⟩ := sx_bind hm
      refine w_Mod_explore_70 C0 h_mod a_mod_sort a_mod_number a_mod_value a_mod_made a_mod_to a_mod_from a_mod_outputOf a_mod_negated a_mod_settles a_mod_next a_mod_ones a_mod_distance a_mod_apart a_mod_leads mod_code mod_gates mod_feeds mod_inputs mod_latches mod_outputs mod_sort mod_number mod_value mod_made mod_to mod_from mod_outputOf mod_negated mod_explored mod_settles mod_next mod_ones mod_apart x2 _ (0 : Int32) (0 : Int32) mod_distance v30 hv30 _ _ _ hP hD hS (lv_sub hl [2, 1, 3, 0] rfl) ?_
      intro H locs ls hP hD hS hl
      refine lv_iinc (v := x2 + (1 : Int32)) (lv' := [(2, .int (x2 + (1 : Int32))), (0, .ref h_mod), (1, .int v30.1)]) hx hb dMod_explore_167 hl (k := 2) rfl rfl (by decide) rfl (fun ls hl => ?_)
      refine lv_goto (tgt := 62) hx hb dMod_explore_170 (by decide) ?_
      exact ih v30.1 (x2 + (1 : Int32)) v30.2 r hm _ _ _ hP hD hS (lv_sub hl [1, 2, 0] rfl) k1
set_option maxHeartbeats 4000000 in
set_option maxRecDepth 100000 in
theorem k_Mod_explore (l : Launch) (dC : Nat → ClassId) (dI : Nat → Nat → Nat) (cI cL cZ : ClassId) (t1 t2 : Nat) (h_mod a_mod_sort a_mod_number a_mod_value a_mod_made a_mod_to a_mod_from a_mod_outputOf a_mod_negated a_mod_settles a_mod_next a_mod_ones a_mod_distance a_mod_apart a_mod_leads : Nat) (mod_code mod_gates mod_feeds mod_inputs mod_latches mod_outputs : Int32) (mod_sort mod_number mod_value mod_made mod_to mod_from mod_outputOf mod_negated : Nat → Int32) (mod_explored : Int32) (mod_settles mod_next : Nat → Int32) (mod_ones : Nat → Int64) (mod_distance mod_apart : Nat → Int32) (sz : Nat)  (v : Int32 × Int32 × (Nat → Int32) × (Nat → Int32) × Int32 × (Nat → Int32) × (Nat → Int32) × (Nat → Int64) × (Nat → Int32) × (Nat → Int32)) (hm : m_Mod_explore mod_code mod_gates mod_feeds mod_inputs mod_latches mod_outputs mod_sort mod_number mod_value mod_made mod_to mod_from mod_outputOf mod_negated mod_explored mod_settles mod_next mod_ones mod_distance mod_apart = some v) : Met l yMod_explore wsMod_explore rm_Mod_explore (sx_Pc (dC, dI) [(cI, .int), (cL, .long), (cZ, .boolean)] t1 t2 [(h_mod, .inr (5, [.int mod_code, .int mod_gates, .int mod_feeds, .int mod_inputs, .int mod_latches, .int mod_outputs, .ref a_mod_sort, .ref a_mod_number, .ref a_mod_value, .ref a_mod_made, .ref a_mod_to, .ref a_mod_from, .ref a_mod_outputOf, .ref a_mod_negated, .int mod_explored, .ref a_mod_settles, .ref a_mod_next, .ref a_mod_ones, .ref a_mod_distance, .ref a_mod_apart, .ref a_mod_leads])), (a_mod_sort, .inl (cI, 60, .inl mod_sort)), (a_mod_number, .inl (cI, 60, .inl mod_number)), (a_mod_value, .inl (cI, 60, .inl mod_value)), (a_mod_made, .inl (cI, 60, .inl mod_made)), (a_mod_to, .inl (cI, 240, .inl mod_to)), (a_mod_from, .inl (cI, 240, .inl mod_from)), (a_mod_outputOf, .inl (cI, 6, .inl mod_outputOf)), (a_mod_negated, .inl (cZ, 240, .inl mod_negated)), (a_mod_settles, .inl (cZ, 4096, .inl mod_settles)), (a_mod_next, .inl (cI, 4096, .inl mod_next)), (a_mod_ones, .inl (cL, 4096, .inr (.inl mod_ones))), (a_mod_distance, .inl (cI, 256, .inl mod_distance)), (a_mod_apart, .inl (cZ, 65536, .inl mod_apart))] sz [.ref h_mod]) (va_Qi (fun (r : Int32) (_ : Unit) => r = v.1) (fun _ t => sx_W (dC, dI) [(cI, .int), (cL, .long), (cZ, .boolean)] (va_A [(h_mod, .inr (5, [.int mod_code, .int mod_gates, .int mod_feeds, .int mod_inputs, .int mod_latches, .int mod_outputs, .ref a_mod_sort, .ref a_mod_number, .ref a_mod_value, .ref a_mod_made, .ref a_mod_to, .ref a_mod_from, .ref a_mod_outputOf, .ref a_mod_negated, .int mod_explored, .ref a_mod_settles, .ref a_mod_next, .ref a_mod_ones, .ref a_mod_distance, .ref a_mod_apart, .ref a_mod_leads])), (a_mod_sort, .inl (cI, 60, .inl mod_sort)), (a_mod_number, .inl (cI, 60, .inl mod_number)), (a_mod_value, .inl (cI, 60, .inl mod_value)), (a_mod_made, .inl (cI, 60, .inl mod_made)), (a_mod_to, .inl (cI, 240, .inl mod_to)), (a_mod_from, .inl (cI, 240, .inl mod_from)), (a_mod_outputOf, .inl (cI, 6, .inl mod_outputOf)), (a_mod_negated, .inl (cZ, 240, .inl mod_negated)), (a_mod_settles, .inl (cZ, 4096, .inl mod_settles)), (a_mod_next, .inl (cI, 4096, .inl mod_next)), (a_mod_ones, .inl (cL, 4096, .inr (.inl mod_ones))), (a_mod_distance, .inl (cI, 256, .inl mod_distance)), (a_mod_apart, .inl (cZ, 65536, .inl mod_apart))] sz) [(h_mod, .inr (5, [.int v.2.1, .int mod_gates, .int mod_feeds, .int mod_inputs, .int mod_latches, .int mod_outputs, .ref a_mod_sort, .ref a_mod_number, .ref a_mod_value, .ref a_mod_made, .ref a_mod_to, .ref a_mod_from, .ref a_mod_outputOf, .ref a_mod_negated, .int v.2.2.2.2.1, .ref a_mod_settles, .ref a_mod_next, .ref a_mod_ones, .ref a_mod_distance, .ref a_mod_apart, .ref a_mod_leads])), (a_mod_sort, .inl (cI, 60, .inl mod_sort)), (a_mod_number, .inl (cI, 60, .inl mod_number)), (a_mod_value, .inl (cI, 60, .inl v.2.2.1)), (a_mod_made, .inl (cI, 60, .inl v.2.2.2.1)), (a_mod_to, .inl (cI, 240, .inl mod_to)), (a_mod_from, .inl (cI, 240, .inl mod_from)), (a_mod_outputOf, .inl (cI, 6, .inl mod_outputOf)), (a_mod_negated, .inl (cZ, 240, .inl mod_negated)), (a_mod_settles, .inl (cZ, 4096, .inl v.2.2.2.2.2.1)), (a_mod_next, .inl (cI, 4096, .inl v.2.2.2.2.2.2.1)), (a_mod_ones, .inl (cL, 4096, .inr (.inl v.2.2.2.2.2.2.2.1))), (a_mod_distance, .inl (cI, 256, .inl v.2.2.2.2.2.2.2.2.1)), (a_mod_apart, .inl (cZ, 65536, .inl v.2.2.2.2.2.2.2.2.2))] t) (va_A [(h_mod, .inr (5, [.int mod_code, .int mod_gates, .int mod_feeds, .int mod_inputs, .int mod_latches, .int mod_outputs, .ref a_mod_sort, .ref a_mod_number, .ref a_mod_value, .ref a_mod_made, .ref a_mod_to, .ref a_mod_from, .ref a_mod_outputOf, .ref a_mod_negated, .int mod_explored, .ref a_mod_settles, .ref a_mod_next, .ref a_mod_ones, .ref a_mod_distance, .ref a_mod_apart, .ref a_mod_leads])), (a_mod_sort, .inl (cI, 60, .inl mod_sort)), (a_mod_number, .inl (cI, 60, .inl mod_number)), (a_mod_value, .inl (cI, 60, .inl mod_value)), (a_mod_made, .inl (cI, 60, .inl mod_made)), (a_mod_to, .inl (cI, 240, .inl mod_to)), (a_mod_from, .inl (cI, 240, .inl mod_from)), (a_mod_outputOf, .inl (cI, 6, .inl mod_outputOf)), (a_mod_negated, .inl (cZ, 240, .inl mod_negated)), (a_mod_settles, .inl (cZ, 4096, .inl mod_settles)), (a_mod_next, .inl (cI, 4096, .inl mod_next)), (a_mod_ones, .inl (cL, 4096, .inr (.inl mod_ones))), (a_mod_distance, .inl (cI, 256, .inl mod_distance)), (a_mod_apart, .inl (cZ, 65536, .inl mod_apart))] sz)) 0 0 (va_A [(h_mod, .inr (5, [.int mod_code, .int mod_gates, .int mod_feeds, .int mod_inputs, .int mod_latches, .int mod_outputs, .ref a_mod_sort, .ref a_mod_number, .ref a_mod_value, .ref a_mod_made, .ref a_mod_to, .ref a_mod_from, .ref a_mod_outputOf, .ref a_mod_negated, .int mod_explored, .ref a_mod_settles, .ref a_mod_next, .ref a_mod_ones, .ref a_mod_distance, .ref a_mod_apart, .ref a_mod_leads])), (a_mod_sort, .inl (cI, 60, .inl mod_sort)), (a_mod_number, .inl (cI, 60, .inl mod_number)), (a_mod_value, .inl (cI, 60, .inl mod_value)), (a_mod_made, .inl (cI, 60, .inl mod_made)), (a_mod_to, .inl (cI, 240, .inl mod_to)), (a_mod_from, .inl (cI, 240, .inl mod_from)), (a_mod_outputOf, .inl (cI, 6, .inl mod_outputOf)), (a_mod_negated, .inl (cZ, 240, .inl mod_negated)), (a_mod_settles, .inl (cZ, 4096, .inl mod_settles)), (a_mod_next, .inl (cI, 4096, .inl mod_next)), (a_mod_ones, .inl (cL, 4096, .inr (.inl mod_ones))), (a_mod_distance, .inl (cI, 256, .inl mod_distance)), (a_mod_apart, .inl (cZ, 65536, .inl mod_apart))] sz) := by
  refine Met.ofW (cc := cMod_explore) (maxL := 6) (ret := (some .int)) (by decide) rfl ?_
  intro p e s m args below meth c s₁ B hml hv
  obtain ⟨rfl, hsz, hP, hK, hD0, hX⟩ := hv
  have hx := B.exec
  have hb := B.bytes
  have hr := B.returns
  have hts0 := atoms_spec (ws := wsMod_explore) B.pre
  have hts : ∀ w ∈ tb, w.before _ s = true := fun w h => hts0 w (List.mem_cons_of_mem _ h)
  have hown : s.vm.findClass "StateExplorerModel" = some m.cls := findClass_of_methodNamed B.named
  have hlocks := B.notSynchronized
  subst hsz
  have hD := hD0.self (sz := s.heap.size)
  generalize hAe : va_A [(h_mod, .inr (5, [.int mod_code, .int mod_gates, .int mod_feeds, .int mod_inputs, .int mod_latches, .int mod_outputs, .ref a_mod_sort, .ref a_mod_number, .ref a_mod_value, .ref a_mod_made, .ref a_mod_to, .ref a_mod_from, .ref a_mod_outputOf, .ref a_mod_negated, .int mod_explored, .ref a_mod_settles, .ref a_mod_next, .ref a_mod_ones, .ref a_mod_distance, .ref a_mod_apart, .ref a_mod_leads])), (a_mod_sort, .inl (cI, 60, .inl mod_sort)), (a_mod_number, .inl (cI, 60, .inl mod_number)), (a_mod_value, .inl (cI, 60, .inl mod_value)), (a_mod_made, .inl (cI, 60, .inl mod_made)), (a_mod_to, .inl (cI, 240, .inl mod_to)), (a_mod_from, .inl (cI, 240, .inl mod_from)), (a_mod_outputOf, .inl (cI, 6, .inl mod_outputOf)), (a_mod_negated, .inl (cZ, 240, .inl mod_negated)), (a_mod_settles, .inl (cZ, 4096, .inl mod_settles)), (a_mod_next, .inl (cI, 4096, .inl mod_next)), (a_mod_ones, .inl (cL, 4096, .inr (.inl mod_ones))), (a_mod_distance, .inl (cI, 256, .inl mod_distance)), (a_mod_apart, .inl (cZ, 65536, .inl mod_apart))] s.heap.size = A at hD hX ⊢
  have hA : ∀ q : Nat, s.heap.size ≤ q → A q := fun q h => by rw [← hAe]; exact Or.inr h
  have hS : va_S A s.heap s.heap [] := va_S.rf
  have hl := lv_entry ([.ref h_mod]) (n := 6) (Nat.le_of_ble_eq_true rfl)
  rw [lg_entry_eq]
  generalize (lg_sl ([.ref h_mod]) ++ List.replicate (6 - (lg_sl ([.ref h_mod])).length) Slot.unset).toArray = ls at hl ⊢
  have hl : lv_has ls 6 [(0, .ref h_mod)] := hl
  have C0 : sx_C p s m _ meth c cMod_explore 6 "StateExplorerModel" A (dC, dI) [(cI, .int), (cL, .long), (cZ, .boolean)] t1 t2 := ⟨hx, hb, hml, hown, hts, hA, hK, hlocks, hX⟩
  rw [m_Mod_explore] at hm
  refine lv_aload_n hx hb dMod_explore_0 rfl (lv_at hl 0 rfl) ?_
  refine lv_iconst (v := (0 : Int32)) hx hb dMod_explore_1 (by decide) ?_
  refine va_put (D := (dC, dI)) (ci := 5) (v := .int (0 : Int32)) (ty := .int) (C := RMod) (T := TMod) (N := 21) hx hb hts inMod tyMod tyMod_ok nmMod hown hK hP hD hS 0 rfl rfl 0 (by decide) (hts _ tw_611) (fun _ h9 => h9) rfl (by decide +kernel) rfl rfl (Nat.le_of_ble_eq_true rfl) dMod_explore_2 (fun H locs hP hD hS => ?_)
  have hP : va_P (dC, dI) vwCl [(h_mod, .inr (5, [.int (0 : Int32), .int mod_gates, .int mod_feeds, .int mod_inputs, .int mod_latches, .int mod_outputs, .ref a_mod_sort, .ref a_mod_number, .ref a_mod_value, .ref a_mod_made, .ref a_mod_to, .ref a_mod_from, .ref a_mod_outputOf, .ref a_mod_negated, .int mod_explored, .ref a_mod_settles, .ref a_mod_next, .ref a_mod_ones, .ref a_mod_distance, .ref a_mod_apart, .ref a_mod_leads])), (a_mod_sort, .inl (cI, 60, .inl mod_sort)), (a_mod_number, .inl (cI, 60, .inl mod_number)), (a_mod_value, .inl (cI, 60, .inl mod_value)), (a_mod_made, .inl (cI, 60, .inl mod_made)), (a_mod_to, .inl (cI, 240, .inl mod_to)), (a_mod_from, .inl (cI, 240, .inl mod_from)), (a_mod_outputOf, .inl (cI, 6, .inl mod_outputOf)), (a_mod_negated, .inl (cZ, 240, .inl mod_negated)), (a_mod_settles, .inl (cZ, 4096, .inl mod_settles)), (a_mod_next, .inl (cI, 4096, .inl mod_next)), (a_mod_ones, .inl (cL, 4096, .inr (.inl mod_ones))), (a_mod_distance, .inl (cI, 256, .inl mod_distance)), (a_mod_apart, .inl (cZ, 65536, .inl mod_apart))] H := hP
  have hD : va_D A [(h_mod, .inr (5, [.int (0 : Int32), .int mod_gates, .int mod_feeds, .int mod_inputs, .int mod_latches, .int mod_outputs, .ref a_mod_sort, .ref a_mod_number, .ref a_mod_value, .ref a_mod_made, .ref a_mod_to, .ref a_mod_from, .ref a_mod_outputOf, .ref a_mod_negated, .int mod_explored, .ref a_mod_settles, .ref a_mod_next, .ref a_mod_ones, .ref a_mod_distance, .ref a_mod_apart, .ref a_mod_leads])), (a_mod_sort, .inl (cI, 60, .inl mod_sort)), (a_mod_number, .inl (cI, 60, .inl mod_number)), (a_mod_value, .inl (cI, 60, .inl mod_value)), (a_mod_made, .inl (cI, 60, .inl mod_made)), (a_mod_to, .inl (cI, 240, .inl mod_to)), (a_mod_from, .inl (cI, 240, .inl mod_from)), (a_mod_outputOf, .inl (cI, 6, .inl mod_outputOf)), (a_mod_negated, .inl (cZ, 240, .inl mod_negated)), (a_mod_settles, .inl (cZ, 4096, .inl mod_settles)), (a_mod_next, .inl (cI, 4096, .inl mod_next)), (a_mod_ones, .inl (cL, 4096, .inr (.inl mod_ones))), (a_mod_distance, .inl (cI, 256, .inl mod_distance)), (a_mod_apart, .inl (cZ, 65536, .inl mod_apart))] := hD
  refine lv_iconst (v := (0 : Int32)) hx hb dMod_explore_5 (by decide) ?_
  refine lv_istore_n (lv' := [(1, .int (0 : Int32)), (0, .ref h_mod)]) hx hb dMod_explore_6 rfl hl (by decide) rfl (fun ls hl => ?_)
  obtain ⟨v13, hv13, hm⟩ := sx_bind hm
  refine w_Mod_explore_7 C0 h_mod a_mod_sort a_mod_number a_mod_value a_mod_made a_mod_to a_mod_from a_mod_outputOf a_mod_negated a_mod_settles a_mod_next a_mod_ones a_mod_distance a_mod_apart a_mod_leads (0 : Int32) mod_gates mod_feeds mod_inputs mod_latches mod_outputs mod_sort mod_number mod_to mod_from mod_outputOf mod_negated mod_explored mod_apart _ (0 : Int32) mod_value mod_made mod_settles mod_next mod_ones mod_distance v13 hv13 _ _ _ hP hD hS (lv_sub hl [1, 0] rfl) ?_
  intro H locs ls hP hD hS hl
  refine lv_iconst (v := (1 : Int32)) hx hb dMod_explore_58 (by decide) ?_
  refine lv_istore_n (lv' := [(1, .int (1 : Int32)), (0, .ref h_mod)]) hx hb dMod_explore_59 rfl hl (by decide) rfl (fun ls hl => ?_)
  refine lv_iconst (v := (0 : Int32)) hx hb dMod_explore_60 (by decide) ?_
  refine lv_istore_n (lv' := [(2, .int (0 : Int32)), (1, .int (1 : Int32)), (0, .ref h_mod)]) hx hb dMod_explore_61 rfl hl (by decide) rfl (fun ls hl => ?_)
  obtain ⟨v31, hv31, hm⟩ := sx_bind hm
  refine w_Mod_explore_62 C0 h_mod a_mod_sort a_mod_number a_mod_value a_mod_made a_mod_to a_mod_from a_mod_outputOf a_mod_negated a_mod_settles a_mod_next a_mod_ones a_mod_distance a_mod_apart a_mod_leads (0 : Int32) mod_gates mod_feeds mod_inputs mod_latches mod_outputs mod_sort mod_number v13.1 v13.2.1 mod_to mod_from mod_outputOf mod_negated mod_explored v13.2.2.1 v13.2.2.2.1 v13.2.2.2.2.1 mod_apart _ (1 : Int32) (0 : Int32) v13.2.2.2.2.2 v31 hv31 _ _ _ hP hD hS (lv_sub hl [2, 1, 0] rfl) ?_
  intro H locs ls hP hD hS hl
  refine lv_aload_n hx hb dMod_explore_173 rfl (lv_at hl 0 rfl) ?_
  refine lv_iconst (v := (1 : Int32)) hx hb dMod_explore_174 (by decide) ?_
  refine va_put (D := (dC, dI)) (ci := 5) (v := .int (1 : Int32)) (ty := .boolean) (C := RMod) (T := TMod) (N := 21) hx hb hts inMod tyMod tyMod_ok nmMod hown hK hP hD hS 0 rfl rfl 14 (by decide) (hts _ tw_625) (fun _ h9 => h9) rfl (by decide +kernel) (by decide) (by decide) (Nat.le_of_ble_eq_true rfl) dMod_explore_175 (fun H locs hP hD hS => ?_)
  have hP : va_P (dC, dI) vwCl [(h_mod, .inr (5, [.int (0 : Int32), .int mod_gates, .int mod_feeds, .int mod_inputs, .int mod_latches, .int mod_outputs, .ref a_mod_sort, .ref a_mod_number, .ref a_mod_value, .ref a_mod_made, .ref a_mod_to, .ref a_mod_from, .ref a_mod_outputOf, .ref a_mod_negated, .int (1 : Int32), .ref a_mod_settles, .ref a_mod_next, .ref a_mod_ones, .ref a_mod_distance, .ref a_mod_apart, .ref a_mod_leads])), (a_mod_sort, .inl (cI, 60, .inl mod_sort)), (a_mod_number, .inl (cI, 60, .inl mod_number)), (a_mod_value, .inl (cI, 60, .inl v13.1)), (a_mod_made, .inl (cI, 60, .inl v13.2.1)), (a_mod_to, .inl (cI, 240, .inl mod_to)), (a_mod_from, .inl (cI, 240, .inl mod_from)), (a_mod_outputOf, .inl (cI, 6, .inl mod_outputOf)), (a_mod_negated, .inl (cZ, 240, .inl mod_negated)), (a_mod_settles, .inl (cZ, 4096, .inl v13.2.2.1)), (a_mod_next, .inl (cI, 4096, .inl v13.2.2.2.1)), (a_mod_ones, .inl (cL, 4096, .inr (.inl v13.2.2.2.2.1))), (a_mod_distance, .inl (cI, 256, .inl v31)), (a_mod_apart, .inl (cZ, 65536, .inl mod_apart))] H := hP
  have hD : va_D A [(h_mod, .inr (5, [.int (0 : Int32), .int mod_gates, .int mod_feeds, .int mod_inputs, .int mod_latches, .int mod_outputs, .ref a_mod_sort, .ref a_mod_number, .ref a_mod_value, .ref a_mod_made, .ref a_mod_to, .ref a_mod_from, .ref a_mod_outputOf, .ref a_mod_negated, .int (1 : Int32), .ref a_mod_settles, .ref a_mod_next, .ref a_mod_ones, .ref a_mod_distance, .ref a_mod_apart, .ref a_mod_leads])), (a_mod_sort, .inl (cI, 60, .inl mod_sort)), (a_mod_number, .inl (cI, 60, .inl mod_number)), (a_mod_value, .inl (cI, 60, .inl v13.1)), (a_mod_made, .inl (cI, 60, .inl v13.2.1)), (a_mod_to, .inl (cI, 240, .inl mod_to)), (a_mod_from, .inl (cI, 240, .inl mod_from)), (a_mod_outputOf, .inl (cI, 6, .inl mod_outputOf)), (a_mod_negated, .inl (cZ, 240, .inl mod_negated)), (a_mod_settles, .inl (cZ, 4096, .inl v13.2.2.1)), (a_mod_next, .inl (cI, 4096, .inl v13.2.2.2.1)), (a_mod_ones, .inl (cL, 4096, .inr (.inl v13.2.2.2.2.1))), (a_mod_distance, .inl (cI, 256, .inl v31)), (a_mod_apart, .inl (cZ, 65536, .inl mod_apart))] := hD
  refine lv_aload_n hx hb dMod_explore_178 rfl (lv_at hl 0 rfl) ?_
  obtain ⟨v32, hv32, hm⟩ := sx_bind hm
  have hPc := hP.sub (ws' := [(h_mod, .inr (5, [.int (0 : Int32), .int mod_gates, .int mod_feeds, .int mod_inputs, .int mod_latches, .int mod_outputs, .ref a_mod_sort, .ref a_mod_number, .ref a_mod_value, .ref a_mod_made, .ref a_mod_to, .ref a_mod_from, .ref a_mod_outputOf, .ref a_mod_negated, .int (1 : Int32), .ref a_mod_settles, .ref a_mod_next, .ref a_mod_ones, .ref a_mod_distance, .ref a_mod_apart, .ref a_mod_leads])), (a_mod_outputOf, .inl (cI, 6, .inl mod_outputOf)), (a_mod_settles, .inl (cZ, 4096, .inl v13.2.2.1)), (a_mod_next, .inl (cI, 4096, .inl v13.2.2.2.1)), (a_mod_ones, .inl (cL, 4096, .inr (.inl v13.2.2.2.2.1))), (a_mod_distance, .inl (cI, 256, .inl v31)), (a_mod_apart, .inl (cZ, 65536, .inl mod_apart))]) [0, 7, 9, 10, 11, 12, 13] rfl
  have hDc := hD.sub (ws' := [(h_mod, .inr (5, [.int (0 : Int32), .int mod_gates, .int mod_feeds, .int mod_inputs, .int mod_latches, .int mod_outputs, .ref a_mod_sort, .ref a_mod_number, .ref a_mod_value, .ref a_mod_made, .ref a_mod_to, .ref a_mod_from, .ref a_mod_outputOf, .ref a_mod_negated, .int (1 : Int32), .ref a_mod_settles, .ref a_mod_next, .ref a_mod_ones, .ref a_mod_distance, .ref a_mod_apart, .ref a_mod_leads])), (a_mod_outputOf, .inl (cI, 6, .inl mod_outputOf)), (a_mod_settles, .inl (cZ, 4096, .inl v13.2.2.1)), (a_mod_next, .inl (cI, 4096, .inl v13.2.2.2.1)), (a_mod_ones, .inl (cL, 4096, .inr (.inl v13.2.2.2.2.1))), (a_mod_distance, .inl (cI, 256, .inl v31)), (a_mod_apart, .inl (cZ, 65536, .inl mod_apart))]) [0, 7, 9, 10, 11, 12, 13] (by decide) rfl
  have hFc := va_free (wc := [(h_mod, .inr (5, [.int (0 : Int32), .int mod_gates, .int mod_feeds, .int mod_inputs, .int mod_latches, .int mod_outputs, .ref a_mod_sort, .ref a_mod_number, .ref a_mod_value, .ref a_mod_made, .ref a_mod_to, .ref a_mod_from, .ref a_mod_outputOf, .ref a_mod_negated, .int (1 : Int32), .ref a_mod_settles, .ref a_mod_next, .ref a_mod_ones, .ref a_mod_distance, .ref a_mod_apart, .ref a_mod_leads])), (a_mod_outputOf, .inl (cI, 6, .inl mod_outputOf)), (a_mod_settles, .inl (cZ, 4096, .inl v13.2.2.1)), (a_mod_next, .inl (cI, 4096, .inl v13.2.2.2.1)), (a_mod_ones, .inl (cL, 4096, .inr (.inl v13.2.2.2.2.1))), (a_mod_distance, .inl (cI, 256, .inl v31)), (a_mod_apart, .inl (cZ, 65536, .inl mod_apart))]) hD hS hA [0, 7, 9, 10, 11, 12, 13] rfl
  refine va_callv (va_runV (As := []) (rest := []) ⟨hx, hb, hml, hown, hts⟩ (k_Mod_tell l dC dI cI cL cZ t1 t2 h_mod a_mod_sort a_mod_number a_mod_value a_mod_made a_mod_to a_mod_from a_mod_outputOf a_mod_negated a_mod_settles a_mod_next a_mod_ones a_mod_distance a_mod_apart a_mod_leads (0 : Int32) mod_gates mod_feeds mod_inputs mod_latches mod_outputs mod_outputOf (1 : Int32) v13.2.2.1 v13.2.2.2.1 v13.2.2.2.2.1 v31 mod_apart _ v32 hv32) (cwV 0 hts (sx_gV tw_728 tw_730 tw_27 tw_41 tcMod_tell) rfl rfl rfl (by decide +kernel) ⟨Nat.le_of_ble_eq_true rfl, Nat.le_of_ble_eq_true rfl⟩) (sx_pV hK hX hS hPc hDc hFc (va_recv hK hPc (ci := 5) (q0 := 0) rfl rfl)) rfl rfl hl.1 rfl (lv_room (Nat.le_of_ble_eq_true rfl)) dMod_explore_179 ⟨Nat.le_of_ble_eq_true rfl, Nat.le_of_ble_eq_true rfl⟩) hS (fun q _ h => hFc q h) hFc (fun u_ t_ H locs ht hvm hw hB hz1 hk1 hS => ?_)
  obtain ⟨hP1, -, hD1⟩ := hB
  rw [ht] at hP1
  obtain ⟨hP, hD⟩ := va_join (wr := [(a_mod_sort, .inl (cI, 60, .inl mod_sort)), (a_mod_number, .inl (cI, 60, .inl mod_number)), (a_mod_value, .inl (cI, 60, .inl v13.1)), (a_mod_made, .inl (cI, 60, .inl v13.2.1)), (a_mod_to, .inl (cI, 240, .inl mod_to)), (a_mod_from, .inl (cI, 240, .inl mod_from)), (a_mod_negated, .inl (cZ, 240, .inl mod_negated))]) (w1 := [(h_mod, .inr (5, [.int (0 : Int32), .int mod_gates, .int mod_feeds, .int mod_inputs, .int mod_latches, .int mod_outputs, .ref a_mod_sort, .ref a_mod_number, .ref a_mod_value, .ref a_mod_made, .ref a_mod_to, .ref a_mod_from, .ref a_mod_outputOf, .ref a_mod_negated, .int (1 : Int32), .ref a_mod_settles, .ref a_mod_next, .ref a_mod_ones, .ref a_mod_distance, .ref a_mod_apart, .ref a_mod_leads])), (a_mod_outputOf, .inl (cI, 6, .inl mod_outputOf)), (a_mod_settles, .inl (cZ, 4096, .inl v13.2.2.1)), (a_mod_next, .inl (cI, 4096, .inl v13.2.2.2.1)), (a_mod_ones, .inl (cL, 4096, .inr (.inl v13.2.2.2.2.1))), (a_mod_distance, .inl (cI, 256, .inl v31)), (a_mod_apart, .inl (cZ, 65536, .inl v32))]) hP hD [0, 7, 9, 10, 11, 12, 13] [1, 2, 3, 4, 5, 6, 8] rfl rfl (by decide) (by decide) hk1 hFc hP1 hD1
  have hP : va_P (dC, dI) vwCl [(a_mod_sort, .inl (cI, 60, .inl mod_sort)), (a_mod_number, .inl (cI, 60, .inl mod_number)), (a_mod_value, .inl (cI, 60, .inl v13.1)), (a_mod_made, .inl (cI, 60, .inl v13.2.1)), (a_mod_to, .inl (cI, 240, .inl mod_to)), (a_mod_from, .inl (cI, 240, .inl mod_from)), (a_mod_negated, .inl (cZ, 240, .inl mod_negated)), (h_mod, .inr (5, [.int (0 : Int32), .int mod_gates, .int mod_feeds, .int mod_inputs, .int mod_latches, .int mod_outputs, .ref a_mod_sort, .ref a_mod_number, .ref a_mod_value, .ref a_mod_made, .ref a_mod_to, .ref a_mod_from, .ref a_mod_outputOf, .ref a_mod_negated, .int (1 : Int32), .ref a_mod_settles, .ref a_mod_next, .ref a_mod_ones, .ref a_mod_distance, .ref a_mod_apart, .ref a_mod_leads])), (a_mod_outputOf, .inl (cI, 6, .inl mod_outputOf)), (a_mod_settles, .inl (cZ, 4096, .inl v13.2.2.1)), (a_mod_next, .inl (cI, 4096, .inl v13.2.2.2.1)), (a_mod_ones, .inl (cL, 4096, .inr (.inl v13.2.2.2.2.1))), (a_mod_distance, .inl (cI, 256, .inl v31)), (a_mod_apart, .inl (cZ, 65536, .inl v32))] H := hP
  have hD : va_D A [(a_mod_sort, .inl (cI, 60, .inl mod_sort)), (a_mod_number, .inl (cI, 60, .inl mod_number)), (a_mod_value, .inl (cI, 60, .inl v13.1)), (a_mod_made, .inl (cI, 60, .inl v13.2.1)), (a_mod_to, .inl (cI, 240, .inl mod_to)), (a_mod_from, .inl (cI, 240, .inl mod_from)), (a_mod_negated, .inl (cZ, 240, .inl mod_negated)), (h_mod, .inr (5, [.int (0 : Int32), .int mod_gates, .int mod_feeds, .int mod_inputs, .int mod_latches, .int mod_outputs, .ref a_mod_sort, .ref a_mod_number, .ref a_mod_value, .ref a_mod_made, .ref a_mod_to, .ref a_mod_from, .ref a_mod_outputOf, .ref a_mod_negated, .int (1 : Int32), .ref a_mod_settles, .ref a_mod_next, .ref a_mod_ones, .ref a_mod_distance, .ref a_mod_apart, .ref a_mod_leads])), (a_mod_outputOf, .inl (cI, 6, .inl mod_outputOf)), (a_mod_settles, .inl (cZ, 4096, .inl v13.2.2.1)), (a_mod_next, .inl (cI, 4096, .inl v13.2.2.2.1)), (a_mod_ones, .inl (cL, 4096, .inr (.inl v13.2.2.2.2.1))), (a_mod_distance, .inl (cI, 256, .inl v31)), (a_mod_apart, .inl (cZ, 65536, .inl v32))] := hD
  refine lv_aload_n hx hb dMod_explore_182 rfl (lv_at hl 0 rfl) ?_
  obtain ⟨v34, hv34, hm⟩ := sx_bind hm
  have hPc := hP.sub (ws' := [(h_mod, .inr (5, [.int (0 : Int32), .int mod_gates, .int mod_feeds, .int mod_inputs, .int mod_latches, .int mod_outputs, .ref a_mod_sort, .ref a_mod_number, .ref a_mod_value, .ref a_mod_made, .ref a_mod_to, .ref a_mod_from, .ref a_mod_outputOf, .ref a_mod_negated, .int (1 : Int32), .ref a_mod_settles, .ref a_mod_next, .ref a_mod_ones, .ref a_mod_distance, .ref a_mod_apart, .ref a_mod_leads])), (a_mod_distance, .inl (cI, 256, .inl v31))]) [7, 12] rfl
  have hDc := hD.sub (ws' := [(h_mod, .inr (5, [.int (0 : Int32), .int mod_gates, .int mod_feeds, .int mod_inputs, .int mod_latches, .int mod_outputs, .ref a_mod_sort, .ref a_mod_number, .ref a_mod_value, .ref a_mod_made, .ref a_mod_to, .ref a_mod_from, .ref a_mod_outputOf, .ref a_mod_negated, .int (1 : Int32), .ref a_mod_settles, .ref a_mod_next, .ref a_mod_ones, .ref a_mod_distance, .ref a_mod_apart, .ref a_mod_leads])), (a_mod_distance, .inl (cI, 256, .inl v31))]) [7, 12] (by decide) rfl
  have hFc := va_free (wc := [(h_mod, .inr (5, [.int (0 : Int32), .int mod_gates, .int mod_feeds, .int mod_inputs, .int mod_latches, .int mod_outputs, .ref a_mod_sort, .ref a_mod_number, .ref a_mod_value, .ref a_mod_made, .ref a_mod_to, .ref a_mod_from, .ref a_mod_outputOf, .ref a_mod_negated, .int (1 : Int32), .ref a_mod_settles, .ref a_mod_next, .ref a_mod_ones, .ref a_mod_distance, .ref a_mod_apart, .ref a_mod_leads])), (a_mod_distance, .inl (cI, 256, .inl v31))]) hD hS hA [7, 12] rfl
  refine sx_stI (va_runV (As := []) (rest := []) ⟨hx, hb, hml, hown, hts⟩ (k_Mod_reached l dC dI cI cL cZ t1 t2 h_mod a_mod_sort a_mod_number a_mod_value a_mod_made a_mod_to a_mod_from a_mod_outputOf a_mod_negated a_mod_settles a_mod_next a_mod_ones a_mod_distance a_mod_apart a_mod_leads (0 : Int32) mod_gates mod_feeds mod_inputs mod_latches mod_outputs (1 : Int32) v31 _ v34 hv34) (cwV 0 hts (sx_gV tw_740 tw_742 tw_30 tw_41 tcMod_reached) rfl rfl rfl (by decide +kernel) ⟨Nat.le_of_ble_eq_true rfl, Nat.le_of_ble_eq_true rfl⟩) (sx_pV hK hX hS hPc hDc hFc (va_recv hK hPc (ci := 5) (q0 := 0) rfl rfl)) rfl rfl hl.1 rfl (lv_room (Nat.le_of_ble_eq_true rfl)) dMod_explore_183 ⟨Nat.le_of_ble_eq_true rfl, Nat.le_of_ble_eq_true rfl⟩) ?_
  obtain rfl := Option.some.inj hm
  exact W.iret (v := v34) hx hb hr (fun t ht hW => ⟨⟨v34, (), rfl, rfl, sx_Wi (hP.sub (ws' := [(h_mod, .inr (5, [.int (0 : Int32), .int mod_gates, .int mod_feeds, .int mod_inputs, .int mod_latches, .int mod_outputs, .ref a_mod_sort, .ref a_mod_number, .ref a_mod_value, .ref a_mod_made, .ref a_mod_to, .ref a_mod_from, .ref a_mod_outputOf, .ref a_mod_negated, .int (1 : Int32), .ref a_mod_settles, .ref a_mod_next, .ref a_mod_ones, .ref a_mod_distance, .ref a_mod_apart, .ref a_mod_leads])), (a_mod_sort, .inl (cI, 60, .inl mod_sort)), (a_mod_number, .inl (cI, 60, .inl mod_number)), (a_mod_value, .inl (cI, 60, .inl v13.1)), (a_mod_made, .inl (cI, 60, .inl v13.2.1)), (a_mod_to, .inl (cI, 240, .inl mod_to)), (a_mod_from, .inl (cI, 240, .inl mod_from)), (a_mod_outputOf, .inl (cI, 6, .inl mod_outputOf)), (a_mod_negated, .inl (cZ, 240, .inl mod_negated)), (a_mod_settles, .inl (cZ, 4096, .inl v13.2.2.1)), (a_mod_next, .inl (cI, 4096, .inl v13.2.2.2.1)), (a_mod_ones, .inl (cL, 4096, .inr (.inl v13.2.2.2.2.1))), (a_mod_distance, .inl (cI, 256, .inl v31)), (a_mod_apart, .inl (cZ, 65536, .inl v32))]) [7, 0, 1, 2, 3, 4, 5, 8, 6, 9, 10, 11, 12, 13] rfl) hK (hD.sub (ws' := [(h_mod, .inr (5, [.int (0 : Int32), .int mod_gates, .int mod_feeds, .int mod_inputs, .int mod_latches, .int mod_outputs, .ref a_mod_sort, .ref a_mod_number, .ref a_mod_value, .ref a_mod_made, .ref a_mod_to, .ref a_mod_from, .ref a_mod_outputOf, .ref a_mod_negated, .int (1 : Int32), .ref a_mod_settles, .ref a_mod_next, .ref a_mod_ones, .ref a_mod_distance, .ref a_mod_apart, .ref a_mod_leads])), (a_mod_sort, .inl (cI, 60, .inl mod_sort)), (a_mod_number, .inl (cI, 60, .inl mod_number)), (a_mod_value, .inl (cI, 60, .inl v13.1)), (a_mod_made, .inl (cI, 60, .inl v13.2.1)), (a_mod_to, .inl (cI, 240, .inl mod_to)), (a_mod_from, .inl (cI, 240, .inl mod_from)), (a_mod_outputOf, .inl (cI, 6, .inl mod_outputOf)), (a_mod_negated, .inl (cZ, 240, .inl mod_negated)), (a_mod_settles, .inl (cZ, 4096, .inl v13.2.2.1)), (a_mod_next, .inl (cI, 4096, .inl v13.2.2.2.1)), (a_mod_ones, .inl (cL, 4096, .inr (.inl v13.2.2.2.2.1))), (a_mod_distance, .inl (cI, 256, .inl v31)), (a_mod_apart, .inl (cZ, 65536, .inl v32))]) [7, 0, 1, 2, 3, 4, 5, 8, 6, 9, 10, 11, 12, 13] (by decide) rfl) ht hW.alike⟩, hS.F ht⟩) hS.2.2 dMod_explore_186
noncomputable def m_Mod_isState (mod_latches : Int32) (p0 : Int32) : Option (Int32) := (if p0 < (0 : Int32) then some (0 : Int32) else (m_Mod_states mod_latches).bind (fun v2 => (if v2 ≤ p0 then some (0 : Int32) else some (1 : Int32))))
def rm_Mod_isState : Room := { frames := 1, cells := 0, slots := 0, locals := 20 }
set_option maxHeartbeats 4000000 in
set_option maxRecDepth 100000 in
theorem k_Mod_isState (l : Launch) (dC : Nat → ClassId) (dI : Nat → Nat → Nat) (cI cL cZ : ClassId) (t1 t2 : Nat) (h_mod a_mod_sort a_mod_number a_mod_value a_mod_made a_mod_to a_mod_from a_mod_outputOf a_mod_negated a_mod_settles a_mod_next a_mod_ones a_mod_distance a_mod_apart a_mod_leads : Nat) (mod_code mod_gates mod_feeds mod_inputs mod_latches mod_outputs mod_explored : Int32) (sz : Nat) (p0 : Int32) (v : Int32) (hm : m_Mod_isState mod_latches p0 = some v) : Met l yMod_isState wsMod_isState rm_Mod_isState (sx_Pc (dC, dI) [(cI, .int), (cL, .long), (cZ, .boolean)] t1 t2 [(h_mod, .inr (5, [.int mod_code, .int mod_gates, .int mod_feeds, .int mod_inputs, .int mod_latches, .int mod_outputs, .ref a_mod_sort, .ref a_mod_number, .ref a_mod_value, .ref a_mod_made, .ref a_mod_to, .ref a_mod_from, .ref a_mod_outputOf, .ref a_mod_negated, .int mod_explored, .ref a_mod_settles, .ref a_mod_next, .ref a_mod_ones, .ref a_mod_distance, .ref a_mod_apart, .ref a_mod_leads]))] sz [.ref h_mod, .int p0]) (sx_Si v) 0 0 (fun _ => False) := by
  refine Met.ofW (cc := cMod_isState) (maxL := 2) (ret := (some .boolean)) (by decide) rfl ?_
  intro p e s m args below meth c s₁ B hml hv
  obtain ⟨rfl, hsz, hP, hK, hD0, hX⟩ := hv
  have hx := B.exec
  have hb := B.bytes
  have hr := B.returns
  have hts0 := atoms_spec (ws := wsMod_isState) B.pre
  have hts : ∀ w ∈ tb, w.before _ s = true := fun w h => hts0 w (List.mem_cons_of_mem _ h)
  have hown : s.vm.findClass "StateExplorerModel" = some m.cls := findClass_of_methodNamed B.named
  have hlocks := B.notSynchronized
  subst hsz
  have hD := hD0.self (sz := s.heap.size)
  generalize hAe : va_A [(h_mod, .inr (5, [.int mod_code, .int mod_gates, .int mod_feeds, .int mod_inputs, .int mod_latches, .int mod_outputs, .ref a_mod_sort, .ref a_mod_number, .ref a_mod_value, .ref a_mod_made, .ref a_mod_to, .ref a_mod_from, .ref a_mod_outputOf, .ref a_mod_negated, .int mod_explored, .ref a_mod_settles, .ref a_mod_next, .ref a_mod_ones, .ref a_mod_distance, .ref a_mod_apart, .ref a_mod_leads]))] s.heap.size = A at hD hX 
  have hA : ∀ q : Nat, s.heap.size ≤ q → A q := fun q h => by rw [← hAe]; exact Or.inr h
  have hS : va_S A s.heap s.heap [] := va_S.rf
  have hl := lv_entry ([.ref h_mod, .int p0]) (n := 2) (Nat.le_of_ble_eq_true rfl)
  rw [lg_entry_eq]
  generalize (lg_sl ([.ref h_mod, .int p0]) ++ List.replicate (2 - (lg_sl ([.ref h_mod, .int p0])).length) Slot.unset).toArray = ls at hl ⊢
  have hl : lv_has ls 2 [(0, .ref h_mod), (1, .int p0)] := hl
  have C0 : sx_C p s m _ meth c cMod_isState 2 "StateExplorerModel" A (dC, dI) [(cI, .int), (cL, .long), (cZ, .boolean)] t1 t2 := ⟨hx, hb, hml, hown, hts, hA, hK, hlocks, hX⟩
  rw [m_Mod_isState] at hm
  refine lv_iload_n hx hb dMod_isState_0 rfl (lv_at hl 1 rfl) ?_
  refine lv_if_lt (tgt := 16) hx hb dMod_isState_1 (by decide) (fun c1 => ?_) (fun c1 => ?_)
  · have hm := sx_pos c1 hm
    refine lv_iconst (v := (0 : Int32)) hx hb dMod_isState_16 (by decide) ?_
    obtain rfl := Option.some.inj hm
    exact W.zret (v := (0 : Int32)) hx hb hr sx_z0 (fun t ht hW => ⟨rfl, ht⟩) (fun q hq => nomatch hq) dMod_isState_17
  · have hm := sx_neg c1 hm
    refine lv_iload_n hx hb dMod_isState_4 rfl (lv_at hl 1 rfl) ?_
    refine lv_aload_n hx hb dMod_isState_5 rfl (lv_at hl 0 rfl) ?_
    obtain ⟨v2, hv2, hm⟩ := sx_bind hm
    have hPc := hP.sub (ws' := [(h_mod, .inr (5, [.int mod_code, .int mod_gates, .int mod_feeds, .int mod_inputs, .int mod_latches, .int mod_outputs, .ref a_mod_sort, .ref a_mod_number, .ref a_mod_value, .ref a_mod_made, .ref a_mod_to, .ref a_mod_from, .ref a_mod_outputOf, .ref a_mod_negated, .int mod_explored, .ref a_mod_settles, .ref a_mod_next, .ref a_mod_ones, .ref a_mod_distance, .ref a_mod_apart, .ref a_mod_leads]))]) [0] rfl
    have hDc := hD.sub (ws' := [(h_mod, .inr (5, [.int mod_code, .int mod_gates, .int mod_feeds, .int mod_inputs, .int mod_latches, .int mod_outputs, .ref a_mod_sort, .ref a_mod_number, .ref a_mod_value, .ref a_mod_made, .ref a_mod_to, .ref a_mod_from, .ref a_mod_outputOf, .ref a_mod_negated, .int mod_explored, .ref a_mod_settles, .ref a_mod_next, .ref a_mod_ones, .ref a_mod_distance, .ref a_mod_apart, .ref a_mod_leads]))]) [0] (by decide) rfl
    have hFc := va_free (wc := [(h_mod, .inr (5, [.int mod_code, .int mod_gates, .int mod_feeds, .int mod_inputs, .int mod_latches, .int mod_outputs, .ref a_mod_sort, .ref a_mod_number, .ref a_mod_value, .ref a_mod_made, .ref a_mod_to, .ref a_mod_from, .ref a_mod_outputOf, .ref a_mod_negated, .int mod_explored, .ref a_mod_settles, .ref a_mod_next, .ref a_mod_ones, .ref a_mod_distance, .ref a_mod_apart, .ref a_mod_leads]))]) hD hS hA [0] rfl
    refine sx_stI (va_runV (As := []) (rest := [.int p0]) ⟨hx, hb, hml, hown, hts⟩ (k_Mod_states l dC dI cI cL cZ t1 t2 h_mod a_mod_sort a_mod_number a_mod_value a_mod_made a_mod_to a_mod_from a_mod_outputOf a_mod_negated a_mod_settles a_mod_next a_mod_ones a_mod_distance a_mod_apart a_mod_leads mod_code mod_gates mod_feeds mod_inputs mod_latches mod_outputs mod_explored _ v2 hv2) (cwV 0 hts (sx_gV tw_708 tw_710 tw_22 tw_41 tcMod_states) rfl rfl rfl (by decide +kernel) ⟨Nat.le_of_ble_eq_true rfl, Nat.le_of_ble_eq_true rfl⟩) (sx_pV hK hX hS hPc hDc hFc (va_recv hK hPc (ci := 5) (q0 := 0) rfl rfl)) rfl rfl hl.1 rfl (lv_room (Nat.le_of_ble_eq_true rfl)) dMod_isState_6 ⟨Nat.le_of_ble_eq_true rfl, Nat.le_of_ble_eq_true rfl⟩) ?_
    refine lv_icmp_ge (tgt := 16) hx hb dMod_isState_9 (by decide) (fun c4 => ?_) (fun c4 => ?_)
    · have hm := sx_pos c4 hm
      refine lv_iconst (v := (0 : Int32)) hx hb dMod_isState_16 (by decide) ?_
      obtain rfl := Option.some.inj hm
      exact W.zret (v := (0 : Int32)) hx hb hr sx_z0 (fun t ht hW => ⟨rfl, ht⟩) (fun q hq => nomatch hq) dMod_isState_17
    · have hm := sx_neg c4 hm
      refine lv_iconst (v := (1 : Int32)) hx hb dMod_isState_12 (by decide) ?_
      refine lv_goto (tgt := 17) hx hb dMod_isState_13 (by decide) ?_
      obtain rfl := Option.some.inj hm
      exact W.zret (v := (1 : Int32)) hx hb hr sx_z1 (fun t ht hW => ⟨rfl, ht⟩) (fun q hq => nomatch hq) dMod_isState_17
noncomputable def m_Mod_distance (mod_code mod_latches mod_explored : Int32) (mod_distance : Nat → Int32) (p0 : Int32) : Option (Int32 × Int32) := (sx_let (fun (z0J1 : Int32) => (m_Mod_isState mod_latches p0).bind (fun v2 => (sx_let (fun (z0J4 : Int32) (z1J4 : Int32) => (m_Mod_fails mod_code z1J4 z0J4).bind (fun v5 => (if v5.1 = (0 : Int32) then gd (vp_in p0 256) (some (mod_distance p0.toNatClampNeg, v5.2)) else some ((0 : Int32), v5.2)))) (fun J4 => (if v2 = (0 : Int32) then (J4 (1 : Int32) z0J1) else (J4 (0 : Int32) z0J1)))))) (fun J1 => (if mod_explored = (0 : Int32) then (J1 (1 : Int32)) else (J1 (0 : Int32)))))
def rm_Mod_distance : Room := { frames := 2, cells := 0, slots := 0, locals := 41 }
set_option maxHeartbeats 4000000 in
set_option maxRecDepth 100000 in
theorem k_Mod_distance (l : Launch) (dC : Nat → ClassId) (dI : Nat → Nat → Nat) (cI cL cZ : ClassId) (t1 t2 : Nat) (h_mod a_mod_sort a_mod_number a_mod_value a_mod_made a_mod_to a_mod_from a_mod_outputOf a_mod_negated a_mod_settles a_mod_next a_mod_ones a_mod_distance a_mod_apart a_mod_leads : Nat) (mod_code mod_gates mod_feeds mod_inputs mod_latches mod_outputs mod_explored : Int32) (mod_distance : Nat → Int32) (sz : Nat) (p0 : Int32) (v : Int32 × Int32) (hm : m_Mod_distance mod_code mod_latches mod_explored mod_distance p0 = some v) : Met l yMod_distance wsMod_distance rm_Mod_distance (sx_Pc (dC, dI) [(cI, .int), (cL, .long), (cZ, .boolean)] t1 t2 [(h_mod, .inr (5, [.int mod_code, .int mod_gates, .int mod_feeds, .int mod_inputs, .int mod_latches, .int mod_outputs, .ref a_mod_sort, .ref a_mod_number, .ref a_mod_value, .ref a_mod_made, .ref a_mod_to, .ref a_mod_from, .ref a_mod_outputOf, .ref a_mod_negated, .int mod_explored, .ref a_mod_settles, .ref a_mod_next, .ref a_mod_ones, .ref a_mod_distance, .ref a_mod_apart, .ref a_mod_leads])), (a_mod_distance, .inl (cI, 256, .inl mod_distance))] sz [.ref h_mod, .int p0]) (va_Qi (fun (r : Int32) (_ : Unit) => r = v.1) (fun _ t => sx_W (dC, dI) [(cI, .int), (cL, .long), (cZ, .boolean)] (va_A [(h_mod, .inr (5, [.int mod_code, .int mod_gates, .int mod_feeds, .int mod_inputs, .int mod_latches, .int mod_outputs, .ref a_mod_sort, .ref a_mod_number, .ref a_mod_value, .ref a_mod_made, .ref a_mod_to, .ref a_mod_from, .ref a_mod_outputOf, .ref a_mod_negated, .int mod_explored, .ref a_mod_settles, .ref a_mod_next, .ref a_mod_ones, .ref a_mod_distance, .ref a_mod_apart, .ref a_mod_leads])), (a_mod_distance, .inl (cI, 256, .inl mod_distance))] sz) [(h_mod, .inr (5, [.int v.2, .int mod_gates, .int mod_feeds, .int mod_inputs, .int mod_latches, .int mod_outputs, .ref a_mod_sort, .ref a_mod_number, .ref a_mod_value, .ref a_mod_made, .ref a_mod_to, .ref a_mod_from, .ref a_mod_outputOf, .ref a_mod_negated, .int mod_explored, .ref a_mod_settles, .ref a_mod_next, .ref a_mod_ones, .ref a_mod_distance, .ref a_mod_apart, .ref a_mod_leads])), (a_mod_distance, .inl (cI, 256, .inl mod_distance))] t) (va_A [(h_mod, .inr (5, [.int mod_code, .int mod_gates, .int mod_feeds, .int mod_inputs, .int mod_latches, .int mod_outputs, .ref a_mod_sort, .ref a_mod_number, .ref a_mod_value, .ref a_mod_made, .ref a_mod_to, .ref a_mod_from, .ref a_mod_outputOf, .ref a_mod_negated, .int mod_explored, .ref a_mod_settles, .ref a_mod_next, .ref a_mod_ones, .ref a_mod_distance, .ref a_mod_apart, .ref a_mod_leads])), (a_mod_distance, .inl (cI, 256, .inl mod_distance))] sz)) 0 0 (va_A [(h_mod, .inr (5, [.int mod_code, .int mod_gates, .int mod_feeds, .int mod_inputs, .int mod_latches, .int mod_outputs, .ref a_mod_sort, .ref a_mod_number, .ref a_mod_value, .ref a_mod_made, .ref a_mod_to, .ref a_mod_from, .ref a_mod_outputOf, .ref a_mod_negated, .int mod_explored, .ref a_mod_settles, .ref a_mod_next, .ref a_mod_ones, .ref a_mod_distance, .ref a_mod_apart, .ref a_mod_leads])), (a_mod_distance, .inl (cI, 256, .inl mod_distance))] sz) := by
  refine Met.ofW (cc := cMod_distance) (maxL := 2) (ret := (some .int)) (by decide) rfl ?_
  intro p e s m args below meth c s₁ B hml hv
  obtain ⟨rfl, hsz, hP, hK, hD0, hX⟩ := hv
  have hx := B.exec
  have hb := B.bytes
  have hr := B.returns
  have hts0 := atoms_spec (ws := wsMod_distance) B.pre
  have hts : ∀ w ∈ tb, w.before _ s = true := fun w h => hts0 w (List.mem_cons_of_mem _ h)
  have hown : s.vm.findClass "StateExplorerModel" = some m.cls := findClass_of_methodNamed B.named
  have hlocks := B.notSynchronized
  subst hsz
  have hD := hD0.self (sz := s.heap.size)
  generalize hAe : va_A [(h_mod, .inr (5, [.int mod_code, .int mod_gates, .int mod_feeds, .int mod_inputs, .int mod_latches, .int mod_outputs, .ref a_mod_sort, .ref a_mod_number, .ref a_mod_value, .ref a_mod_made, .ref a_mod_to, .ref a_mod_from, .ref a_mod_outputOf, .ref a_mod_negated, .int mod_explored, .ref a_mod_settles, .ref a_mod_next, .ref a_mod_ones, .ref a_mod_distance, .ref a_mod_apart, .ref a_mod_leads])), (a_mod_distance, .inl (cI, 256, .inl mod_distance))] s.heap.size = A at hD hX ⊢
  have hA : ∀ q : Nat, s.heap.size ≤ q → A q := fun q h => by rw [← hAe]; exact Or.inr h
  have hS : va_S A s.heap s.heap [] := va_S.rf
  have hl := lv_entry ([.ref h_mod, .int p0]) (n := 2) (Nat.le_of_ble_eq_true rfl)
  rw [lg_entry_eq]
  generalize (lg_sl ([.ref h_mod, .int p0]) ++ List.replicate (2 - (lg_sl ([.ref h_mod, .int p0])).length) Slot.unset).toArray = ls at hl ⊢
  have hl : lv_has ls 2 [(0, .ref h_mod), (1, .int p0)] := hl
  have C0 : sx_C p s m _ meth c cMod_distance 2 "StateExplorerModel" A (dC, dI) [(cI, .int), (cL, .long), (cZ, .boolean)] t1 t2 := ⟨hx, hb, hml, hown, hts, hA, hK, hlocks, hX⟩
  rw [m_Mod_distance] at hm
  refine lv_aload_n hx hb dMod_distance_0 rfl (lv_at hl 0 rfl) ?_
  refine lv_aload_n hx hb dMod_distance_1 rfl (lv_at hl 0 rfl) ?_
  refine va_get (D := (dC, dI)) (ci := 5) (v := .int mod_explored) (C := RMod) (T := TMod) (N := 21) hx hb hts inMod hown hK hP 0 rfl rfl 14 (by decide) (hts _ tw_625) (fun _ h9 => h9) rfl dMod_distance_2 ?_
  obtain ⟨J1, hJ1, hm⟩ := sx_lj hm
  have jJ1 : ∀ (z0J1 : Int32), J1 z0J1 = some v → ∀ (ls : Array Slot), lv_has ls 2 [(0, .ref h_mod), (1, .int p0)] → W p l e (headSpec wsMod_distance rm_Mod_distance).room s m ([.ref h_mod, .int p0]).toArray below meth c s.heap [] 0 0 (MQ below (va_Qi (fun (r : Int32) (_ : Unit) => r = v.1) (fun _ t => sx_W (dC, dI) [(cI, .int), (cL, .long), (cZ, .boolean)] A [(h_mod, .inr (5, [.int v.2, .int mod_gates, .int mod_feeds, .int mod_inputs, .int mod_latches, .int mod_outputs, .ref a_mod_sort, .ref a_mod_number, .ref a_mod_value, .ref a_mod_made, .ref a_mod_to, .ref a_mod_from, .ref a_mod_outputOf, .ref a_mod_negated, .int mod_explored, .ref a_mod_settles, .ref a_mod_next, .ref a_mod_ones, .ref a_mod_distance, .ref a_mod_apart, .ref a_mod_leads])), (a_mod_distance, .inl (cI, 256, .inl mod_distance))] t) A) ([.ref h_mod, .int p0]).toArray s 0 0 A) (F0 m 13 ls [.int z0J1, .ref h_mod]) := by
    intro z0J1 hm ls hl
    rw [hJ1] at hm
    dsimp only at hm
    refine lv_aload_n hx hb dMod_distance_13 rfl (lv_at hl 0 rfl) ?_
    refine lv_iload_n hx hb dMod_distance_14 rfl (lv_at hl 1 rfl) ?_
    obtain ⟨v2, hv2, hm⟩ := sx_bind hm
    have hPc := hP.sub (ws' := [(h_mod, .inr (5, [.int mod_code, .int mod_gates, .int mod_feeds, .int mod_inputs, .int mod_latches, .int mod_outputs, .ref a_mod_sort, .ref a_mod_number, .ref a_mod_value, .ref a_mod_made, .ref a_mod_to, .ref a_mod_from, .ref a_mod_outputOf, .ref a_mod_negated, .int mod_explored, .ref a_mod_settles, .ref a_mod_next, .ref a_mod_ones, .ref a_mod_distance, .ref a_mod_apart, .ref a_mod_leads]))]) [0] rfl
    have hDc := hD.sub (ws' := [(h_mod, .inr (5, [.int mod_code, .int mod_gates, .int mod_feeds, .int mod_inputs, .int mod_latches, .int mod_outputs, .ref a_mod_sort, .ref a_mod_number, .ref a_mod_value, .ref a_mod_made, .ref a_mod_to, .ref a_mod_from, .ref a_mod_outputOf, .ref a_mod_negated, .int mod_explored, .ref a_mod_settles, .ref a_mod_next, .ref a_mod_ones, .ref a_mod_distance, .ref a_mod_apart, .ref a_mod_leads]))]) [0] (by decide) rfl
    have hFc := va_free (wc := [(h_mod, .inr (5, [.int mod_code, .int mod_gates, .int mod_feeds, .int mod_inputs, .int mod_latches, .int mod_outputs, .ref a_mod_sort, .ref a_mod_number, .ref a_mod_value, .ref a_mod_made, .ref a_mod_to, .ref a_mod_from, .ref a_mod_outputOf, .ref a_mod_negated, .int mod_explored, .ref a_mod_settles, .ref a_mod_next, .ref a_mod_ones, .ref a_mod_distance, .ref a_mod_apart, .ref a_mod_leads]))]) hD hS hA [0] rfl
    refine sx_stI (va_runV (As := [.int p0]) (rest := [.int z0J1, .ref h_mod]) ⟨hx, hb, hml, hown, hts⟩ (k_Mod_isState l dC dI cI cL cZ t1 t2 h_mod a_mod_sort a_mod_number a_mod_value a_mod_made a_mod_to a_mod_from a_mod_outputOf a_mod_negated a_mod_settles a_mod_next a_mod_ones a_mod_distance a_mod_apart a_mod_leads mod_code mod_gates mod_feeds mod_inputs mod_latches mod_outputs mod_explored _ p0 v2 hv2) (cwV 1 hts (sx_gV tw_748 tw_750 tw_31 tw_41 tcMod_isState) rfl rfl rfl (by decide +kernel) ⟨Nat.le_of_ble_eq_true rfl, Nat.le_of_ble_eq_true rfl⟩) (sx_pV hK hX hS hPc hDc hFc (va_recv hK hPc (ci := 5) (q0 := 0) rfl rfl)) rfl rfl hl.1 rfl (lv_room (Nat.le_of_ble_eq_true rfl)) dMod_distance_15 ⟨Nat.le_of_ble_eq_true rfl, Nat.le_of_ble_eq_true rfl⟩) ?_
    obtain ⟨J4, hJ4, hm⟩ := sx_lj hm
    have jJ4 : ∀ (z0J4 : Int32) (z1J4 : Int32), J4 z0J4 z1J4 = some v → ∀ (ls : Array Slot), lv_has ls 2 [(0, .ref h_mod), (1, .int p0)] → W p l e (headSpec wsMod_distance rm_Mod_distance).room s m ([.ref h_mod, .int p0]).toArray below meth c s.heap [] 0 0 (MQ below (va_Qi (fun (r : Int32) (_ : Unit) => r = v.1) (fun _ t => sx_W (dC, dI) [(cI, .int), (cL, .long), (cZ, .boolean)] A [(h_mod, .inr (5, [.int v.2, .int mod_gates, .int mod_feeds, .int mod_inputs, .int mod_latches, .int mod_outputs, .ref a_mod_sort, .ref a_mod_number, .ref a_mod_value, .ref a_mod_made, .ref a_mod_to, .ref a_mod_from, .ref a_mod_outputOf, .ref a_mod_negated, .int mod_explored, .ref a_mod_settles, .ref a_mod_next, .ref a_mod_ones, .ref a_mod_distance, .ref a_mod_apart, .ref a_mod_leads])), (a_mod_distance, .inl (cI, 256, .inl mod_distance))] t) A) ([.ref h_mod, .int p0]).toArray s 0 0 A) (F0 m 26 ls [.int z0J4, .int z1J4, .ref h_mod]) := by
      intro z0J4 z1J4 hm ls hl
      rw [hJ4] at hm
      dsimp only at hm
      obtain ⟨v5, hv5, hm⟩ := sx_bind hm
      have hPc := hP.sub (ws' := [(h_mod, .inr (5, [.int mod_code, .int mod_gates, .int mod_feeds, .int mod_inputs, .int mod_latches, .int mod_outputs, .ref a_mod_sort, .ref a_mod_number, .ref a_mod_value, .ref a_mod_made, .ref a_mod_to, .ref a_mod_from, .ref a_mod_outputOf, .ref a_mod_negated, .int mod_explored, .ref a_mod_settles, .ref a_mod_next, .ref a_mod_ones, .ref a_mod_distance, .ref a_mod_apart, .ref a_mod_leads]))]) [0] rfl
      have hDc := hD.sub (ws' := [(h_mod, .inr (5, [.int mod_code, .int mod_gates, .int mod_feeds, .int mod_inputs, .int mod_latches, .int mod_outputs, .ref a_mod_sort, .ref a_mod_number, .ref a_mod_value, .ref a_mod_made, .ref a_mod_to, .ref a_mod_from, .ref a_mod_outputOf, .ref a_mod_negated, .int mod_explored, .ref a_mod_settles, .ref a_mod_next, .ref a_mod_ones, .ref a_mod_distance, .ref a_mod_apart, .ref a_mod_leads]))]) [0] (by decide) rfl
      have hFc := va_free (wc := [(h_mod, .inr (5, [.int mod_code, .int mod_gates, .int mod_feeds, .int mod_inputs, .int mod_latches, .int mod_outputs, .ref a_mod_sort, .ref a_mod_number, .ref a_mod_value, .ref a_mod_made, .ref a_mod_to, .ref a_mod_from, .ref a_mod_outputOf, .ref a_mod_negated, .int mod_explored, .ref a_mod_settles, .ref a_mod_next, .ref a_mod_ones, .ref a_mod_distance, .ref a_mod_apart, .ref a_mod_leads]))]) hD hS hA [0] rfl
      refine va_calli (va_runV (As := [.int z1J4, .int z0J4]) (rest := []) ⟨hx, hb, hml, hown, hts⟩ (k_Mod_fails l dC dI cI cL cZ t1 t2 h_mod a_mod_sort a_mod_number a_mod_value a_mod_made a_mod_to a_mod_from a_mod_outputOf a_mod_negated a_mod_settles a_mod_next a_mod_ones a_mod_distance a_mod_apart a_mod_leads mod_code mod_gates mod_feeds mod_inputs mod_latches mod_outputs mod_explored _ z1J4 z0J4 v5 hv5) (cwV 2 hts (sx_gV tw_680 tw_682 tw_19 tw_41 tcMod_fails) rfl rfl rfl (by decide +kernel) ⟨Nat.le_of_ble_eq_true rfl, Nat.le_of_ble_eq_true rfl⟩) (sx_pV hK hX hS hPc hDc hFc (va_recv hK hPc (ci := 5) (q0 := 0) rfl rfl)) rfl rfl hl.1 rfl (lv_room (Nat.le_of_ble_eq_true rfl)) dMod_distance_26 ⟨Nat.le_of_ble_eq_true rfl, Nat.le_of_ble_eq_true rfl⟩) hS (fun q _ h => hFc q h) hFc (fun r6 u_ t_ H locs ht hvm hw hB hz1 hk1 hS => ?_)
      obtain ⟨hP1, -, hD1⟩ := hB
      rw [ht] at hP1
      obtain ⟨hP, hD⟩ := va_join (wr := [(a_mod_distance, .inl (cI, 256, .inl mod_distance))]) (w1 := [(h_mod, .inr (5, [.int v5.2, .int mod_gates, .int mod_feeds, .int mod_inputs, .int mod_latches, .int mod_outputs, .ref a_mod_sort, .ref a_mod_number, .ref a_mod_value, .ref a_mod_made, .ref a_mod_to, .ref a_mod_from, .ref a_mod_outputOf, .ref a_mod_negated, .int mod_explored, .ref a_mod_settles, .ref a_mod_next, .ref a_mod_ones, .ref a_mod_distance, .ref a_mod_apart, .ref a_mod_leads]))]) hP hD [0] [1] rfl rfl (by decide) (by decide) hk1 hFc hP1 hD1
      have hP : va_P (dC, dI) vwCl [(a_mod_distance, .inl (cI, 256, .inl mod_distance)), (h_mod, .inr (5, [.int v5.2, .int mod_gates, .int mod_feeds, .int mod_inputs, .int mod_latches, .int mod_outputs, .ref a_mod_sort, .ref a_mod_number, .ref a_mod_value, .ref a_mod_made, .ref a_mod_to, .ref a_mod_from, .ref a_mod_outputOf, .ref a_mod_negated, .int mod_explored, .ref a_mod_settles, .ref a_mod_next, .ref a_mod_ones, .ref a_mod_distance, .ref a_mod_apart, .ref a_mod_leads]))] H := hP
      have hD : va_D A [(a_mod_distance, .inl (cI, 256, .inl mod_distance)), (h_mod, .inr (5, [.int v5.2, .int mod_gates, .int mod_feeds, .int mod_inputs, .int mod_latches, .int mod_outputs, .ref a_mod_sort, .ref a_mod_number, .ref a_mod_value, .ref a_mod_made, .ref a_mod_to, .ref a_mod_from, .ref a_mod_outputOf, .ref a_mod_negated, .int mod_explored, .ref a_mod_settles, .ref a_mod_next, .ref a_mod_ones, .ref a_mod_distance, .ref a_mod_apart, .ref a_mod_leads]))] := hD
      have hw9 := hw.symm
      subst hw9
      refine lv_if_eq (tgt := 36) hx hb dMod_distance_29 (by decide) (fun c7 => ?_) (fun c7 => ?_)
      · have hm := sx_pos c7 hm
        refine lv_aload_n hx hb dMod_distance_36 rfl (lv_at hl 0 rfl) ?_
        refine va_get (D := (dC, dI)) (ci := 5) (v := .ref a_mod_distance) (C := RMod) (T := TMod) (N := 21) hx hb hts inMod hown hK hP 1 rfl rfl 18 (by decide) (hts _ tw_629) (fun _ h9 => h9) rfl dMod_distance_37 ?_
        refine lv_iload_n hx hb dMod_distance_40 rfl (lv_at hl 1 rfl) ?_
        obtain ⟨g8, hm⟩ := gd_el hm
        refine va_iald hx hb hK hP 0 0 rfl rfl g8 dMod_distance_41 ?_
        obtain rfl := Option.some.inj hm
        exact W.iret (v := mod_distance p0.toNatClampNeg) hx hb hr (fun t ht hW => ⟨⟨(mod_distance p0.toNatClampNeg), (), rfl, rfl, sx_Wi (hP.sub (ws' := [(h_mod, .inr (5, [.int v5.2, .int mod_gates, .int mod_feeds, .int mod_inputs, .int mod_latches, .int mod_outputs, .ref a_mod_sort, .ref a_mod_number, .ref a_mod_value, .ref a_mod_made, .ref a_mod_to, .ref a_mod_from, .ref a_mod_outputOf, .ref a_mod_negated, .int mod_explored, .ref a_mod_settles, .ref a_mod_next, .ref a_mod_ones, .ref a_mod_distance, .ref a_mod_apart, .ref a_mod_leads])), (a_mod_distance, .inl (cI, 256, .inl mod_distance))]) [1, 0] rfl) hK (hD.sub (ws' := [(h_mod, .inr (5, [.int v5.2, .int mod_gates, .int mod_feeds, .int mod_inputs, .int mod_latches, .int mod_outputs, .ref a_mod_sort, .ref a_mod_number, .ref a_mod_value, .ref a_mod_made, .ref a_mod_to, .ref a_mod_from, .ref a_mod_outputOf, .ref a_mod_negated, .int mod_explored, .ref a_mod_settles, .ref a_mod_next, .ref a_mod_ones, .ref a_mod_distance, .ref a_mod_apart, .ref a_mod_leads])), (a_mod_distance, .inl (cI, 256, .inl mod_distance))]) [1, 0] (by decide) rfl) ht hW.alike⟩, hS.F ht⟩) hS.2.2 dMod_distance_42
      · have hm := sx_neg c7 hm
        refine lv_iconst (v := (0 : Int32)) hx hb dMod_distance_32 (by decide) ?_
        refine lv_goto (tgt := 42) hx hb dMod_distance_33 (by decide) ?_
        obtain rfl := Option.some.inj hm
        exact W.iret (v := (0 : Int32)) hx hb hr (fun t ht hW => ⟨⟨(0 : Int32), (), rfl, rfl, sx_Wi (hP.sub (ws' := [(h_mod, .inr (5, [.int v5.2, .int mod_gates, .int mod_feeds, .int mod_inputs, .int mod_latches, .int mod_outputs, .ref a_mod_sort, .ref a_mod_number, .ref a_mod_value, .ref a_mod_made, .ref a_mod_to, .ref a_mod_from, .ref a_mod_outputOf, .ref a_mod_negated, .int mod_explored, .ref a_mod_settles, .ref a_mod_next, .ref a_mod_ones, .ref a_mod_distance, .ref a_mod_apart, .ref a_mod_leads])), (a_mod_distance, .inl (cI, 256, .inl mod_distance))]) [1, 0] rfl) hK (hD.sub (ws' := [(h_mod, .inr (5, [.int v5.2, .int mod_gates, .int mod_feeds, .int mod_inputs, .int mod_latches, .int mod_outputs, .ref a_mod_sort, .ref a_mod_number, .ref a_mod_value, .ref a_mod_made, .ref a_mod_to, .ref a_mod_from, .ref a_mod_outputOf, .ref a_mod_negated, .int mod_explored, .ref a_mod_settles, .ref a_mod_next, .ref a_mod_ones, .ref a_mod_distance, .ref a_mod_apart, .ref a_mod_leads])), (a_mod_distance, .inl (cI, 256, .inl mod_distance))]) [1, 0] (by decide) rfl) ht hW.alike⟩, hS.F ht⟩) hS.2.2 dMod_distance_42
    refine lv_if_ne (tgt := 25) hx hb dMod_distance_18 (by decide) (fun c9 => ?_) (fun c9 => ?_)
    · have hm := sx_neg c9 hm
      refine lv_iconst (v := (0 : Int32)) hx hb dMod_distance_25 (by decide) ?_
      exact jJ4 (0 : Int32) z0J1 hm _ (hl)
    · have hm := sx_pos c9 hm
      refine lv_iconst (v := (1 : Int32)) hx hb dMod_distance_21 (by decide) ?_
      refine lv_goto (tgt := 26) hx hb dMod_distance_22 (by decide) ?_
      exact jJ4 (1 : Int32) z0J1 hm _ (hl)
  refine lv_if_ne (tgt := 12) hx hb dMod_distance_5 (by decide) (fun c10 => ?_) (fun c10 => ?_)
  · have hm := sx_neg c10 hm
    refine lv_iconst (v := (0 : Int32)) hx hb dMod_distance_12 (by decide) ?_
    exact jJ1 (0 : Int32) hm _ (hl)
  · have hm := sx_pos c10 hm
    refine lv_iconst (v := (1 : Int32)) hx hb dMod_distance_8 (by decide) ?_
    refine lv_goto (tgt := 13) hx hb dMod_distance_9 (by decide) ?_
    exact jJ1 (1 : Int32) hm _ (hl)
noncomputable def L_Mod_lead_2 (mod_latches : Int32) (x1 : Int32) : Nat → Int32 → (Nat → Int32) → Option ((Nat → Int32))
  | 0, _, _ => none
  | n + 1, x3, mod_leads => (m_Mod_states mod_latches).bind (fun v1 => (if v1 ≤ x3 then some mod_leads else (if x3 = x1 then gd (vp_in x3 65536) ((L_Mod_lead_2 mod_latches x1 n (x3 + (1 : Int32)) (upd mod_leads x3.toNatClampNeg (vp_nar .boolean (1 : Int32))))) else gd (vp_in x3 65536) ((L_Mod_lead_2 mod_latches x1 n (x3 + (1 : Int32)) (upd mod_leads x3.toNatClampNeg (vp_nar .boolean (0 : Int32))))))))
noncomputable def L_Mod_lead_57 (mod_inputs : Int32) (mod_settles mod_next mod_leads : Nat → Int32) (x3 : Int32) (x4 : Int32) : Nat → Int32 → Int32 → Option (Int32)
  | 0, _, _ => none
  | n + 1, x5, x6 => (m_Mod_choices mod_inputs).bind (fun v12 => (if v12 ≤ x6 then some x5 else (if x5 = (0 : Int32) then gd (vp_in (((16 : Int32) * x4) + x6) 4096) ((if mod_settles (((16 : Int32) * x4) + x6).toNatClampNeg = (0 : Int32) then (L_Mod_lead_57 mod_inputs mod_settles mod_next mod_leads x3 x4 n (0 : Int32) (x6 + (1 : Int32))) else gd (vp_in (((16 : Int32) * x4) + x6) 4096) (gd (vp_in (((256 : Int32) * (x3 - (1 : Int32))) + (mod_next (((16 : Int32) * x4) + x6).toNatClampNeg)) 65536) ((if mod_leads (((256 : Int32) * (x3 - (1 : Int32))) + (mod_next (((16 : Int32) * x4) + x6).toNatClampNeg)).toNatClampNeg = (0 : Int32) then (L_Mod_lead_57 mod_inputs mod_settles mod_next mod_leads x3 x4 n (0 : Int32) (x6 + (1 : Int32))) else (L_Mod_lead_57 mod_inputs mod_settles mod_next mod_leads x3 x4 n (1 : Int32) (x6 + (1 : Int32)))))))) else (L_Mod_lead_57 mod_inputs mod_settles mod_next mod_leads x3 x4 n (1 : Int32) (x6 + (1 : Int32))))))
noncomputable def L_Mod_lead_42 (mod_inputs mod_latches : Int32) (mod_settles mod_next : Nat → Int32) (x3 : Int32) : Nat → Int32 → (Nat → Int32) → Option ((Nat → Int32))
  | 0, _, _ => none
  | n + 1, x4, mod_leads => (m_Mod_states mod_latches).bind (fun v9 => (if v9 ≤ x4 then some mod_leads else ((L_Mod_lead_57 mod_inputs mod_settles mod_next mod_leads x3 x4 fu (0 : Int32) (0 : Int32)).bind (fun v21 => gd (vp_in (((256 : Int32) * x3) + x4) 65536) ((L_Mod_lead_42 mod_inputs mod_latches mod_settles mod_next x3 n (x4 + (1 : Int32)) (upd mod_leads (((256 : Int32) * x3) + x4).toNatClampNeg (vp_nar .boolean v21))))))))
noncomputable def L_Mod_lead_34 (mod_inputs mod_latches : Int32) (mod_settles mod_next : Nat → Int32) (x2 : Int32) : Nat → Int32 → (Nat → Int32) → Option ((Nat → Int32))
  | 0, _, _ => none
  | n + 1, x3, mod_leads => (if x2 < x3 then some mod_leads else ((L_Mod_lead_42 mod_inputs mod_latches mod_settles mod_next x3 fu (0 : Int32) mod_leads).bind (fun v23 => (L_Mod_lead_34 mod_inputs mod_latches mod_settles mod_next x2 n (x3 + (1 : Int32)) v23))))
noncomputable def m_Mod_lead (mod_inputs mod_latches : Int32) (mod_settles mod_next mod_leads : Nat → Int32) (p0 : Int32) (p1 : Int32) : Option ((Nat → Int32)) := ((L_Mod_lead_2 mod_latches p0 fu (0 : Int32) mod_leads).bind (fun v7 => ((L_Mod_lead_34 mod_inputs mod_latches mod_settles mod_next p1 fu (1 : Int32) v7).bind (fun v24 => some v24))))
def rm_Mod_lead : Room := { frames := 1, cells := 0, slots := 0, locals := 20 }
set_option maxHeartbeats 4000000 in
set_option maxRecDepth 100000 in
theorem w_Mod_lead_2 {p : Program} {l : Launch} {e : Env} {s : State} {m : MethodId} {args : Array Value} {below : List Frame} {meth : Method} {c : Code} {dC : Nat → ClassId} {dI : Nat → Nat → Nat} {cI cL cZ : ClassId} {A : Nat → Prop} {Q : State → Prop} {t1 t2 : Nat} (C0 : sx_C p s m args meth c cMod_lead 7 "StateExplorerModel" A (dC, dI) [(cI, .int), (cL, .long), (cZ, .boolean)] t1 t2) (h_mod a_mod_sort a_mod_number a_mod_value a_mod_made a_mod_to a_mod_from a_mod_outputOf a_mod_negated a_mod_settles a_mod_next a_mod_ones a_mod_distance a_mod_apart a_mod_leads : Nat) (mod_code mod_gates mod_feeds mod_inputs mod_latches mod_outputs mod_explored : Int32) (mod_settles mod_next : Nat → Int32) (x1 : Int32) (x2 : Int32) :
    ∀ (n : Nat) (x3 : Int32) (mod_leads : Nat → Int32) (r : (Nat → Int32)), L_Mod_lead_2 mod_latches x1 n x3 mod_leads = some r → ∀ (H : Heap) (locs : List Loc) (ls : Array Slot), va_P (dC, dI) vwCl [(h_mod, .inr (5, [.int mod_code, .int mod_gates, .int mod_feeds, .int mod_inputs, .int mod_latches, .int mod_outputs, .ref a_mod_sort, .ref a_mod_number, .ref a_mod_value, .ref a_mod_made, .ref a_mod_to, .ref a_mod_from, .ref a_mod_outputOf, .ref a_mod_negated, .int mod_explored, .ref a_mod_settles, .ref a_mod_next, .ref a_mod_ones, .ref a_mod_distance, .ref a_mod_apart, .ref a_mod_leads])), (a_mod_settles, .inl (cZ, 4096, .inl mod_settles)), (a_mod_next, .inl (cI, 4096, .inl mod_next)), (a_mod_leads, .inl (cZ, 65536, .inl mod_leads))] H → va_D A [(h_mod, .inr (5, [.int mod_code, .int mod_gates, .int mod_feeds, .int mod_inputs, .int mod_latches, .int mod_outputs, .ref a_mod_sort, .ref a_mod_number, .ref a_mod_value, .ref a_mod_made, .ref a_mod_to, .ref a_mod_from, .ref a_mod_outputOf, .ref a_mod_negated, .int mod_explored, .ref a_mod_settles, .ref a_mod_next, .ref a_mod_ones, .ref a_mod_distance, .ref a_mod_apart, .ref a_mod_leads])), (a_mod_settles, .inl (cZ, 4096, .inl mod_settles)), (a_mod_next, .inl (cI, 4096, .inl mod_next)), (a_mod_leads, .inl (cZ, 65536, .inl mod_leads))] → va_S A s.heap H locs → lv_has ls 7 [(0, .ref h_mod), (1, .int x1), (2, .int x2), (3, .int x3)] →
    (∀ (H : Heap) (locs : List Loc) (ls : Array Slot), va_P (dC, dI) vwCl [(h_mod, .inr (5, [.int mod_code, .int mod_gates, .int mod_feeds, .int mod_inputs, .int mod_latches, .int mod_outputs, .ref a_mod_sort, .ref a_mod_number, .ref a_mod_value, .ref a_mod_made, .ref a_mod_to, .ref a_mod_from, .ref a_mod_outputOf, .ref a_mod_negated, .int mod_explored, .ref a_mod_settles, .ref a_mod_next, .ref a_mod_ones, .ref a_mod_distance, .ref a_mod_apart, .ref a_mod_leads])), (a_mod_settles, .inl (cZ, 4096, .inl mod_settles)), (a_mod_next, .inl (cI, 4096, .inl mod_next)), (a_mod_leads, .inl (cZ, 65536, .inl r))] H → va_D A [(h_mod, .inr (5, [.int mod_code, .int mod_gates, .int mod_feeds, .int mod_inputs, .int mod_latches, .int mod_outputs, .ref a_mod_sort, .ref a_mod_number, .ref a_mod_value, .ref a_mod_made, .ref a_mod_to, .ref a_mod_from, .ref a_mod_outputOf, .ref a_mod_negated, .int mod_explored, .ref a_mod_settles, .ref a_mod_next, .ref a_mod_ones, .ref a_mod_distance, .ref a_mod_apart, .ref a_mod_leads])), (a_mod_settles, .inl (cZ, 4096, .inl mod_settles)), (a_mod_next, .inl (cI, 4096, .inl mod_next)), (a_mod_leads, .inl (cZ, 65536, .inl r))] → va_S A s.heap H locs → lv_has ls 7 [(0, .ref h_mod), (2, .int x2)] → W p l e (headSpec wsMod_lead rm_Mod_lead).room s m args below meth c H locs 0 0 Q (F0 m 32 ls [])) →
    W p l e (headSpec wsMod_lead rm_Mod_lead).room s m args below meth c H locs 0 0 Q (F0 m 2 ls []) := by
  obtain ⟨hx, hb, hml, hown, hts, hA, hK, hlocks, hX⟩ := id C0
  intro n
  induction n with
  | zero => intro x3 mod_leads r hm; rw [L_Mod_lead_2] at hm; cases hm
  | succ n ih =>
    intro x3 mod_leads r hm H locs ls hP hD hS hl k1
    rw [L_Mod_lead_2] at hm
    refine lv_iload_n hx hb dMod_lead_2 rfl (lv_at hl 3 rfl) ?_
    refine lv_aload_n hx hb dMod_lead_3 rfl (lv_at hl 0 rfl) ?_
    obtain ⟨v1, hv1, hm⟩ := sx_bind hm
    have hPc := hP.sub (ws' := [(h_mod, .inr (5, [.int mod_code, .int mod_gates, .int mod_feeds, .int mod_inputs, .int mod_latches, .int mod_outputs, .ref a_mod_sort, .ref a_mod_number, .ref a_mod_value, .ref a_mod_made, .ref a_mod_to, .ref a_mod_from, .ref a_mod_outputOf, .ref a_mod_negated, .int mod_explored, .ref a_mod_settles, .ref a_mod_next, .ref a_mod_ones, .ref a_mod_distance, .ref a_mod_apart, .ref a_mod_leads]))]) [0] rfl
    have hDc := hD.sub (ws' := [(h_mod, .inr (5, [.int mod_code, .int mod_gates, .int mod_feeds, .int mod_inputs, .int mod_latches, .int mod_outputs, .ref a_mod_sort, .ref a_mod_number, .ref a_mod_value, .ref a_mod_made, .ref a_mod_to, .ref a_mod_from, .ref a_mod_outputOf, .ref a_mod_negated, .int mod_explored, .ref a_mod_settles, .ref a_mod_next, .ref a_mod_ones, .ref a_mod_distance, .ref a_mod_apart, .ref a_mod_leads]))]) [0] (by decide) rfl
    have hFc := va_free (wc := [(h_mod, .inr (5, [.int mod_code, .int mod_gates, .int mod_feeds, .int mod_inputs, .int mod_latches, .int mod_outputs, .ref a_mod_sort, .ref a_mod_number, .ref a_mod_value, .ref a_mod_made, .ref a_mod_to, .ref a_mod_from, .ref a_mod_outputOf, .ref a_mod_negated, .int mod_explored, .ref a_mod_settles, .ref a_mod_next, .ref a_mod_ones, .ref a_mod_distance, .ref a_mod_apart, .ref a_mod_leads]))]) hD hS hA [0] rfl
    refine sx_stI (va_runV (As := []) (rest := [.int x3]) ⟨hx, hb, hml, hown, hts⟩ (k_Mod_states l dC dI cI cL cZ t1 t2 h_mod a_mod_sort a_mod_number a_mod_value a_mod_made a_mod_to a_mod_from a_mod_outputOf a_mod_negated a_mod_settles a_mod_next a_mod_ones a_mod_distance a_mod_apart a_mod_leads mod_code mod_gates mod_feeds mod_inputs mod_latches mod_outputs mod_explored _ v1 hv1) (cwV 0 hts (sx_gV tw_708 tw_710 tw_22 tw_41 tcMod_states) rfl rfl rfl (by decide +kernel) ⟨Nat.le_of_ble_eq_true rfl, Nat.le_of_ble_eq_true rfl⟩) (sx_pV hK hX hS hPc hDc hFc (va_recv hK hPc (ci := 5) (q0 := 0) rfl rfl)) rfl rfl hl.1 rfl (lv_room (Nat.le_of_ble_eq_true rfl)) dMod_lead_4 ⟨Nat.le_of_ble_eq_true rfl, Nat.le_of_ble_eq_true rfl⟩) ?_
    refine lv_icmp_ge (tgt := 32) hx hb dMod_lead_7 (by decide) (fun c3 => ?_) (fun c3 => ?_)
    · have hm := sx_pos c3 hm
      obtain rfl := Option.some.inj hm
      exact k1 _ _ _ hP hD hS (lv_sub hl [0, 2] rfl)
    · have hm := sx_neg c3 hm
      refine lv_aload_n hx hb dMod_lead_10 rfl (lv_at hl 0 rfl) ?_
      refine va_get (D := (dC, dI)) (ci := 5) (v := .ref a_mod_leads) (C := RMod) (T := TMod) (N := 21) hx hb hts inMod hown hK hP 0 rfl rfl 20 (by decide) (hts _ tw_631) (fun _ h9 => h9) rfl dMod_lead_11 ?_
      refine lv_iload_n hx hb dMod_lead_14 rfl (lv_at hl 3 rfl) ?_
      refine lv_iload_n hx hb dMod_lead_15 rfl (lv_at hl 3 rfl) ?_
      refine lv_iload_n hx hb dMod_lead_16 rfl (lv_at hl 1 rfl) ?_
      refine lv_icmp_ne (tgt := 24) hx hb dMod_lead_17 (by decide) (fun c4 => ?_) (fun c4 => ?_)
      · have hm := sx_neg c4 hm
        refine lv_iconst (v := (0 : Int32)) hx hb dMod_lead_24 (by decide) ?_
        obtain ⟨g5, hm⟩ := gd_el hm
        refine va_zast hx hb hK hP hD hS 3 2 rfl rfl g5 dMod_lead_25 (fun H locs hP hD hS => ?_)
        have hP : va_P (dC, dI) vwCl [(h_mod, .inr (5, [.int mod_code, .int mod_gates, .int mod_feeds, .int mod_inputs, .int mod_latches, .int mod_outputs, .ref a_mod_sort, .ref a_mod_number, .ref a_mod_value, .ref a_mod_made, .ref a_mod_to, .ref a_mod_from, .ref a_mod_outputOf, .ref a_mod_negated, .int mod_explored, .ref a_mod_settles, .ref a_mod_next, .ref a_mod_ones, .ref a_mod_distance, .ref a_mod_apart, .ref a_mod_leads])), (a_mod_settles, .inl (cZ, 4096, .inl mod_settles)), (a_mod_next, .inl (cI, 4096, .inl mod_next)), (a_mod_leads, .inl (cZ, 65536, .inl (upd mod_leads x3.toNatClampNeg (vp_nar .boolean (0 : Int32)))))] H := hP
        have hD : va_D A [(h_mod, .inr (5, [.int mod_code, .int mod_gates, .int mod_feeds, .int mod_inputs, .int mod_latches, .int mod_outputs, .ref a_mod_sort, .ref a_mod_number, .ref a_mod_value, .ref a_mod_made, .ref a_mod_to, .ref a_mod_from, .ref a_mod_outputOf, .ref a_mod_negated, .int mod_explored, .ref a_mod_settles, .ref a_mod_next, .ref a_mod_ones, .ref a_mod_distance, .ref a_mod_apart, .ref a_mod_leads])), (a_mod_settles, .inl (cZ, 4096, .inl mod_settles)), (a_mod_next, .inl (cI, 4096, .inl mod_next)), (a_mod_leads, .inl (cZ, 65536, .inl (upd mod_leads x3.toNatClampNeg (vp_nar .boolean (0 : Int32)))))] := hD
        refine lv_iinc (v := x3 + (1 : Int32)) (lv' := [(3, .int (x3 + (1 : Int32))), (0, .ref h_mod), (1, .int x1), (2, .int x2)]) hx hb dMod_lead_26 hl (k := 3) rfl rfl (by decide) rfl (fun ls hl => ?_)
        refine lv_goto (tgt := 2) hx hb dMod_lead_29 (by decide) ?_
        exact ih (x3 + (1 : Int32)) (upd mod_leads x3.toNatClampNeg (vp_nar .boolean (0 : Int32))) r hm _ _ _ hP hD hS (lv_sub hl [1, 2, 3, 0] rfl) k1
      · have hm := sx_pos c4 hm
        refine lv_iconst (v := (1 : Int32)) hx hb dMod_lead_20 (by decide) ?_
        refine lv_goto (tgt := 25) hx hb dMod_lead_21 (by decide) ?_
        obtain ⟨g6, hm⟩ := gd_el hm
        refine va_zast hx hb hK hP hD hS 3 2 rfl rfl g6 dMod_lead_25 (fun H locs hP hD hS => ?_)
        have hP : va_P (dC, dI) vwCl [(h_mod, .inr (5, [.int mod_code, .int mod_gates, .int mod_feeds, .int mod_inputs, .int mod_latches, .int mod_outputs, .ref a_mod_sort, .ref a_mod_number, .ref a_mod_value, .ref a_mod_made, .ref a_mod_to, .ref a_mod_from, .ref a_mod_outputOf, .ref a_mod_negated, .int mod_explored, .ref a_mod_settles, .ref a_mod_next, .ref a_mod_ones, .ref a_mod_distance, .ref a_mod_apart, .ref a_mod_leads])), (a_mod_settles, .inl (cZ, 4096, .inl mod_settles)), (a_mod_next, .inl (cI, 4096, .inl mod_next)), (a_mod_leads, .inl (cZ, 65536, .inl (upd mod_leads x3.toNatClampNeg (vp_nar .boolean (1 : Int32)))))] H := hP
        have hD : va_D A [(h_mod, .inr (5, [.int mod_code, .int mod_gates, .int mod_feeds, .int mod_inputs, .int mod_latches, .int mod_outputs, .ref a_mod_sort, .ref a_mod_number, .ref a_mod_value, .ref a_mod_made, .ref a_mod_to, .ref a_mod_from, .ref a_mod_outputOf, .ref a_mod_negated, .int mod_explored, .ref a_mod_settles, .ref a_mod_next, .ref a_mod_ones, .ref a_mod_distance, .ref a_mod_apart, .ref a_mod_leads])), (a_mod_settles, .inl (cZ, 4096, .inl mod_settles)), (a_mod_next, .inl (cI, 4096, .inl mod_next)), (a_mod_leads, .inl (cZ, 65536, .inl (upd mod_leads x3.toNatClampNeg (vp_nar .boolean (1 : Int32)))))] := hD
        refine lv_iinc (v := x3 + (1 : Int32)) (lv' := [(3, .int (x3 + (1 : Int32))), (0, .ref h_mod), (1, .int x1), (2, .int x2)]) hx hb dMod_lead_26 hl (k := 3) rfl rfl (by decide) rfl (fun ls hl => ?_)
        refine lv_goto (tgt := 2) hx hb dMod_lead_29 (by decide) ?_
        exact ih (x3 + (1 : Int32)) (upd mod_leads x3.toNatClampNeg (vp_nar .boolean (1 : Int32))) r hm _ _ _ hP hD hS (lv_sub hl [1, 2, 3, 0] rfl) k1
set_option maxHeartbeats 4000000 in
set_option maxRecDepth 100000 in
theorem w_Mod_lead_57 {p : Program} {l : Launch} {e : Env} {s : State} {m : MethodId} {args : Array Value} {below : List Frame} {meth : Method} {c : Code} {dC : Nat → ClassId} {dI : Nat → Nat → Nat} {cI cL cZ : ClassId} {A : Nat → Prop} {Q : State → Prop} {t1 t2 : Nat} (C0 : sx_C p s m args meth c cMod_lead 7 "StateExplorerModel" A (dC, dI) [(cI, .int), (cL, .long), (cZ, .boolean)] t1 t2) (h_mod a_mod_sort a_mod_number a_mod_value a_mod_made a_mod_to a_mod_from a_mod_outputOf a_mod_negated a_mod_settles a_mod_next a_mod_ones a_mod_distance a_mod_apart a_mod_leads : Nat) (mod_code mod_gates mod_feeds mod_inputs mod_latches mod_outputs mod_explored : Int32) (mod_settles mod_next mod_leads : Nat → Int32) (x2 : Int32) (x3 : Int32) (x4 : Int32) {H : Heap} {locs : List Loc} (hP : va_P (dC, dI) vwCl [(h_mod, .inr (5, [.int mod_code, .int mod_gates, .int mod_feeds, .int mod_inputs, .int mod_latches, .int mod_outputs, .ref a_mod_sort, .ref a_mod_number, .ref a_mod_value, .ref a_mod_made, .ref a_mod_to, .ref a_mod_from, .ref a_mod_outputOf, .ref a_mod_negated, .int mod_explored, .ref a_mod_settles, .ref a_mod_next, .ref a_mod_ones, .ref a_mod_distance, .ref a_mod_apart, .ref a_mod_leads])), (a_mod_settles, .inl (cZ, 4096, .inl mod_settles)), (a_mod_next, .inl (cI, 4096, .inl mod_next)), (a_mod_leads, .inl (cZ, 65536, .inl mod_leads))] H) (hD : va_D A [(h_mod, .inr (5, [.int mod_code, .int mod_gates, .int mod_feeds, .int mod_inputs, .int mod_latches, .int mod_outputs, .ref a_mod_sort, .ref a_mod_number, .ref a_mod_value, .ref a_mod_made, .ref a_mod_to, .ref a_mod_from, .ref a_mod_outputOf, .ref a_mod_negated, .int mod_explored, .ref a_mod_settles, .ref a_mod_next, .ref a_mod_ones, .ref a_mod_distance, .ref a_mod_apart, .ref a_mod_leads])), (a_mod_settles, .inl (cZ, 4096, .inl mod_settles)), (a_mod_next, .inl (cI, 4096, .inl mod_next)), (a_mod_leads, .inl (cZ, 65536, .inl mod_leads))]) (hS : va_S A s.heap H locs) :
    ∀ (n : Nat) (x5 : Int32) (x6 : Int32)  (r : Int32), L_Mod_lead_57 mod_inputs mod_settles mod_next mod_leads x3 x4 n x5 x6 = some r → ∀ (ls : Array Slot), lv_has ls 7 [(0, .ref h_mod), (2, .int x2), (3, .int x3), (4, .int x4), (5, .int x5), (6, .int x6)] →
    (∀ (ls : Array Slot), lv_has ls 7 [(0, .ref h_mod), (2, .int x2), (3, .int x3), (4, .int x4), (5, .int r)] → W p l e (headSpec wsMod_lead rm_Mod_lead).room s m args below meth c H locs 0 0 Q (F0 m 129 ls [])) →
    W p l e (headSpec wsMod_lead rm_Mod_lead).room s m args below meth c H locs 0 0 Q (F0 m 57 ls []) := by
  obtain ⟨hx, hb, hml, hown, hts, hA, hK, hlocks, hX⟩ := id C0
  intro n
  induction n with
  | zero => intro x5 x6 r hm; rw [L_Mod_lead_57] at hm; cases hm
  | succ n ih =>
    intro x5 x6 r hm ls hl k1
    rw [L_Mod_lead_57] at hm
    refine lv_iload hx hb dMod_lead_57 (lv_at hl 5 rfl) ?_
    refine lv_aload_n hx hb dMod_lead_59 rfl (lv_at hl 0 rfl) ?_
    obtain ⟨v12, hv12, hm⟩ := sx_bind hm
    have hPc := hP.sub (ws' := [(h_mod, .inr (5, [.int mod_code, .int mod_gates, .int mod_feeds, .int mod_inputs, .int mod_latches, .int mod_outputs, .ref a_mod_sort, .ref a_mod_number, .ref a_mod_value, .ref a_mod_made, .ref a_mod_to, .ref a_mod_from, .ref a_mod_outputOf, .ref a_mod_negated, .int mod_explored, .ref a_mod_settles, .ref a_mod_next, .ref a_mod_ones, .ref a_mod_distance, .ref a_mod_apart, .ref a_mod_leads]))]) [0] rfl
    have hDc := hD.sub (ws' := [(h_mod, .inr (5, [.int mod_code, .int mod_gates, .int mod_feeds, .int mod_inputs, .int mod_latches, .int mod_outputs, .ref a_mod_sort, .ref a_mod_number, .ref a_mod_value, .ref a_mod_made, .ref a_mod_to, .ref a_mod_from, .ref a_mod_outputOf, .ref a_mod_negated, .int mod_explored, .ref a_mod_settles, .ref a_mod_next, .ref a_mod_ones, .ref a_mod_distance, .ref a_mod_apart, .ref a_mod_leads]))]) [0] (by decide) rfl
    have hFc := va_free (wc := [(h_mod, .inr (5, [.int mod_code, .int mod_gates, .int mod_feeds, .int mod_inputs, .int mod_latches, .int mod_outputs, .ref a_mod_sort, .ref a_mod_number, .ref a_mod_value, .ref a_mod_made, .ref a_mod_to, .ref a_mod_from, .ref a_mod_outputOf, .ref a_mod_negated, .int mod_explored, .ref a_mod_settles, .ref a_mod_next, .ref a_mod_ones, .ref a_mod_distance, .ref a_mod_apart, .ref a_mod_leads]))]) hD hS hA [0] rfl
    refine sx_stI (va_runV (As := []) (rest := [.int x6]) ⟨hx, hb, hml, hown, hts⟩ (k_Mod_choices l dC dI cI cL cZ t1 t2 h_mod a_mod_sort a_mod_number a_mod_value a_mod_made a_mod_to a_mod_from a_mod_outputOf a_mod_negated a_mod_settles a_mod_next a_mod_ones a_mod_distance a_mod_apart a_mod_leads mod_code mod_gates mod_feeds mod_inputs mod_latches mod_outputs mod_explored _ v12 hv12) (cwV 0 hts (sx_gV tw_712 tw_714 tw_23 tw_41 tcMod_choices) rfl rfl rfl (by decide +kernel) ⟨Nat.le_of_ble_eq_true rfl, Nat.le_of_ble_eq_true rfl⟩) (sx_pV hK hX hS hPc hDc hFc (va_recv hK hPc (ci := 5) (q0 := 0) rfl rfl)) rfl rfl hl.1 rfl (lv_room (Nat.le_of_ble_eq_true rfl)) dMod_lead_60 ⟨Nat.le_of_ble_eq_true rfl, Nat.le_of_ble_eq_true rfl⟩) ?_
    refine lv_icmp_ge (tgt := 129) hx hb dMod_lead_63 (by decide) (fun c14 => ?_) (fun c14 => ?_)
    · have hm := sx_pos c14 hm
      obtain rfl := Option.some.inj hm
      exact k1 _ (lv_sub hl [0, 1, 2, 3, 4] rfl)
    · have hm := sx_neg c14 hm
      refine lv_iload hx hb dMod_lead_66 (lv_at hl 4 rfl) ?_
      refine lv_if_ne (tgt := 116) hx hb dMod_lead_68 (by decide) (fun c15 => ?_) (fun c15 => ?_)
      · have hm := sx_neg c15 hm
        refine lv_iconst (v := (1 : Int32)) hx hb dMod_lead_116 (by decide) ?_
        refine lv_goto (tgt := 121) hx hb dMod_lead_117 (by decide) ?_
        refine lv_istore (lv' := [(5, .int (1 : Int32)), (0, .ref h_mod), (2, .int x2), (3, .int x3), (4, .int x4), (6, .int x6)]) hx hb dMod_lead_121 hl (by decide) rfl (fun ls hl => ?_)
        refine lv_iinc (v := x6 + (1 : Int32)) (lv' := [(6, .int (x6 + (1 : Int32))), (5, .int (1 : Int32)), (0, .ref h_mod), (2, .int x2), (3, .int x3), (4, .int x4)]) hx hb dMod_lead_123 hl (k := 5) rfl rfl (by decide) rfl (fun ls hl => ?_)
        refine lv_goto (tgt := 57) hx hb dMod_lead_126 (by decide) ?_
        exact ih (1 : Int32) (x6 + (1 : Int32)) r hm _ (lv_sub hl [2, 3, 4, 5, 1, 0] rfl) k1
      · have hm := sx_pos c15 hm
        refine lv_aload_n hx hb dMod_lead_71 rfl (lv_at hl 0 rfl) ?_
        refine va_get (D := (dC, dI)) (ci := 5) (v := .ref a_mod_settles) (C := RMod) (T := TMod) (N := 21) hx hb hts inMod hown hK hP 0 rfl rfl 15 (by decide) (hts _ tw_626) (fun _ h9 => h9) rfl dMod_lead_72 ?_
        refine lv_bipush (v := (16 : Int32)) hx hb dMod_lead_75 (by decide) ?_
        refine lv_iload hx hb dMod_lead_77 (lv_at hl 3 rfl) ?_
        refine lv_imul hx hb dMod_lead_79 ?_
        refine lv_iload hx hb dMod_lead_80 (lv_at hl 5 rfl) ?_
        refine lv_iadd hx hb dMod_lead_82 ?_
        obtain ⟨g16, hm⟩ := gd_el hm
        refine va_zald hx hb hK hP 1 2 rfl rfl g16 dMod_lead_83 ?_
        refine lv_if_eq (tgt := 120) hx hb dMod_lead_84 (by decide) (fun c17 => ?_) (fun c17 => ?_)
        · have hm := sx_pos c17 hm
          refine lv_iconst (v := (0 : Int32)) hx hb dMod_lead_120 (by decide) ?_
          refine lv_istore (lv' := [(5, .int (0 : Int32)), (0, .ref h_mod), (2, .int x2), (3, .int x3), (4, .int x4), (6, .int x6)]) hx hb dMod_lead_121 hl (by decide) rfl (fun ls hl => ?_)
          refine lv_iinc (v := x6 + (1 : Int32)) (lv' := [(6, .int (x6 + (1 : Int32))), (5, .int (0 : Int32)), (0, .ref h_mod), (2, .int x2), (3, .int x3), (4, .int x4)]) hx hb dMod_lead_123 hl (k := 5) rfl rfl (by decide) rfl (fun ls hl => ?_)
          refine lv_goto (tgt := 57) hx hb dMod_lead_126 (by decide) ?_
          exact ih (0 : Int32) (x6 + (1 : Int32)) r hm _ (lv_sub hl [2, 3, 4, 5, 1, 0] rfl) k1
        · have hm := sx_neg c17 hm
          refine lv_aload_n hx hb dMod_lead_87 rfl (lv_at hl 0 rfl) ?_
          refine va_get (D := (dC, dI)) (ci := 5) (v := .ref a_mod_leads) (C := RMod) (T := TMod) (N := 21) hx hb hts inMod hown hK hP 0 rfl rfl 20 (by decide) (hts _ tw_631) (fun _ h9 => h9) rfl dMod_lead_88 ?_
          refine lv_sipush (v := (256 : Int32)) hx hb dMod_lead_91 (by decide) ?_
          refine lv_iload_n hx hb dMod_lead_94 rfl (lv_at hl 2 rfl) ?_
          refine lv_iconst (v := (1 : Int32)) hx hb dMod_lead_95 (by decide) ?_
          refine lv_isub hx hb dMod_lead_96 ?_
          refine lv_imul hx hb dMod_lead_97 ?_
          refine lv_aload_n hx hb dMod_lead_98 rfl (lv_at hl 0 rfl) ?_
          refine va_get (D := (dC, dI)) (ci := 5) (v := .ref a_mod_next) (C := RMod) (T := TMod) (N := 21) hx hb hts inMod hown hK hP 0 rfl rfl 16 (by decide) (hts _ tw_627) (fun _ h9 => h9) rfl dMod_lead_99 ?_
          refine lv_bipush (v := (16 : Int32)) hx hb dMod_lead_102 (by decide) ?_
          refine lv_iload hx hb dMod_lead_104 (lv_at hl 3 rfl) ?_
          refine lv_imul hx hb dMod_lead_106 ?_
          refine lv_iload hx hb dMod_lead_107 (lv_at hl 5 rfl) ?_
          refine lv_iadd hx hb dMod_lead_109 ?_
          obtain ⟨g18, hm⟩ := gd_el hm
          refine va_iald hx hb hK hP 2 0 rfl rfl g18 dMod_lead_110 ?_
          refine lv_iadd hx hb dMod_lead_111 ?_
          obtain ⟨g19, hm⟩ := gd_el hm
          refine va_zald hx hb hK hP 3 2 rfl rfl g19 dMod_lead_112 ?_
          refine lv_if_eq (tgt := 120) hx hb dMod_lead_113 (by decide) (fun c20 => ?_) (fun c20 => ?_)
          · have hm := sx_pos c20 hm
            refine lv_iconst (v := (0 : Int32)) hx hb dMod_lead_120 (by decide) ?_
            refine lv_istore (lv' := [(5, .int (0 : Int32)), (0, .ref h_mod), (2, .int x2), (3, .int x3), (4, .int x4), (6, .int x6)]) hx hb dMod_lead_121 hl (by decide) rfl (fun ls hl => ?_)
            refine lv_iinc (v := x6 + (1 : Int32)) (lv' := [(6, .int (x6 + (1 : Int32))), (5, .int (0 : Int32)), (0, .ref h_mod), (2, .int x2), (3, .int x3), (4, .int x4)]) hx hb dMod_lead_123 hl (k := 5) rfl rfl (by decide) rfl (fun ls hl => ?_)
            refine lv_goto (tgt := 57) hx hb dMod_lead_126 (by decide) ?_
            exact ih (0 : Int32) (x6 + (1 : Int32)) r hm _ (lv_sub hl [2, 3, 4, 5, 1, 0] rfl) k1
          · have hm := sx_neg c20 hm
            refine lv_iconst (v := (1 : Int32)) hx hb dMod_lead_116 (by decide) ?_
            refine lv_goto (tgt := 121) hx hb dMod_lead_117 (by decide) ?_
            refine lv_istore (lv' := [(5, .int (1 : Int32)), (0, .ref h_mod), (2, .int x2), (3, .int x3), (4, .int x4), (6, .int x6)]) hx hb dMod_lead_121 hl (by decide) rfl (fun ls hl => ?_)
            refine lv_iinc (v := x6 + (1 : Int32)) (lv' := [(6, .int (x6 + (1 : Int32))), (5, .int (1 : Int32)), (0, .ref h_mod), (2, .int x2), (3, .int x3), (4, .int x4)]) hx hb dMod_lead_123 hl (k := 5) rfl rfl (by decide) rfl (fun ls hl => ?_)
            refine lv_goto (tgt := 57) hx hb dMod_lead_126 (by decide) ?_
            exact ih (1 : Int32) (x6 + (1 : Int32)) r hm _ (lv_sub hl [2, 3, 4, 5, 1, 0] rfl) k1
set_option maxHeartbeats 4000000 in
set_option maxRecDepth 100000 in
theorem w_Mod_lead_42 {p : Program} {l : Launch} {e : Env} {s : State} {m : MethodId} {args : Array Value} {below : List Frame} {meth : Method} {c : Code} {dC : Nat → ClassId} {dI : Nat → Nat → Nat} {cI cL cZ : ClassId} {A : Nat → Prop} {Q : State → Prop} {t1 t2 : Nat} (C0 : sx_C p s m args meth c cMod_lead 7 "StateExplorerModel" A (dC, dI) [(cI, .int), (cL, .long), (cZ, .boolean)] t1 t2) (h_mod a_mod_sort a_mod_number a_mod_value a_mod_made a_mod_to a_mod_from a_mod_outputOf a_mod_negated a_mod_settles a_mod_next a_mod_ones a_mod_distance a_mod_apart a_mod_leads : Nat) (mod_code mod_gates mod_feeds mod_inputs mod_latches mod_outputs mod_explored : Int32) (mod_settles mod_next : Nat → Int32) (x2 : Int32) (x3 : Int32) :
    ∀ (n : Nat) (x4 : Int32) (mod_leads : Nat → Int32) (r : (Nat → Int32)), L_Mod_lead_42 mod_inputs mod_latches mod_settles mod_next x3 n x4 mod_leads = some r → ∀ (H : Heap) (locs : List Loc) (ls : Array Slot), va_P (dC, dI) vwCl [(h_mod, .inr (5, [.int mod_code, .int mod_gates, .int mod_feeds, .int mod_inputs, .int mod_latches, .int mod_outputs, .ref a_mod_sort, .ref a_mod_number, .ref a_mod_value, .ref a_mod_made, .ref a_mod_to, .ref a_mod_from, .ref a_mod_outputOf, .ref a_mod_negated, .int mod_explored, .ref a_mod_settles, .ref a_mod_next, .ref a_mod_ones, .ref a_mod_distance, .ref a_mod_apart, .ref a_mod_leads])), (a_mod_settles, .inl (cZ, 4096, .inl mod_settles)), (a_mod_next, .inl (cI, 4096, .inl mod_next)), (a_mod_leads, .inl (cZ, 65536, .inl mod_leads))] H → va_D A [(h_mod, .inr (5, [.int mod_code, .int mod_gates, .int mod_feeds, .int mod_inputs, .int mod_latches, .int mod_outputs, .ref a_mod_sort, .ref a_mod_number, .ref a_mod_value, .ref a_mod_made, .ref a_mod_to, .ref a_mod_from, .ref a_mod_outputOf, .ref a_mod_negated, .int mod_explored, .ref a_mod_settles, .ref a_mod_next, .ref a_mod_ones, .ref a_mod_distance, .ref a_mod_apart, .ref a_mod_leads])), (a_mod_settles, .inl (cZ, 4096, .inl mod_settles)), (a_mod_next, .inl (cI, 4096, .inl mod_next)), (a_mod_leads, .inl (cZ, 65536, .inl mod_leads))] → va_S A s.heap H locs → lv_has ls 7 [(0, .ref h_mod), (2, .int x2), (3, .int x3), (4, .int x4)] →
    (∀ (H : Heap) (locs : List Loc) (ls : Array Slot), va_P (dC, dI) vwCl [(h_mod, .inr (5, [.int mod_code, .int mod_gates, .int mod_feeds, .int mod_inputs, .int mod_latches, .int mod_outputs, .ref a_mod_sort, .ref a_mod_number, .ref a_mod_value, .ref a_mod_made, .ref a_mod_to, .ref a_mod_from, .ref a_mod_outputOf, .ref a_mod_negated, .int mod_explored, .ref a_mod_settles, .ref a_mod_next, .ref a_mod_ones, .ref a_mod_distance, .ref a_mod_apart, .ref a_mod_leads])), (a_mod_settles, .inl (cZ, 4096, .inl mod_settles)), (a_mod_next, .inl (cI, 4096, .inl mod_next)), (a_mod_leads, .inl (cZ, 65536, .inl r))] H → va_D A [(h_mod, .inr (5, [.int mod_code, .int mod_gates, .int mod_feeds, .int mod_inputs, .int mod_latches, .int mod_outputs, .ref a_mod_sort, .ref a_mod_number, .ref a_mod_value, .ref a_mod_made, .ref a_mod_to, .ref a_mod_from, .ref a_mod_outputOf, .ref a_mod_negated, .int mod_explored, .ref a_mod_settles, .ref a_mod_next, .ref a_mod_ones, .ref a_mod_distance, .ref a_mod_apart, .ref a_mod_leads])), (a_mod_settles, .inl (cZ, 4096, .inl mod_settles)), (a_mod_next, .inl (cI, 4096, .inl mod_next)), (a_mod_leads, .inl (cZ, 65536, .inl r))] → va_S A s.heap H locs → lv_has ls 7 [(0, .ref h_mod), (2, .int x2), (3, .int x3)] → W p l e (headSpec wsMod_lead rm_Mod_lead).room s m args below meth c H locs 0 0 Q (F0 m 150 ls [])) →
    W p l e (headSpec wsMod_lead rm_Mod_lead).room s m args below meth c H locs 0 0 Q (F0 m 42 ls []) := by
  obtain ⟨hx, hb, hml, hown, hts, hA, hK, hlocks, hX⟩ := id C0
  intro n
  induction n with
  | zero => intro x4 mod_leads r hm; rw [L_Mod_lead_42] at hm; cases hm
  | succ n ih =>
    intro x4 mod_leads r hm H locs ls hP hD hS hl k1
    rw [L_Mod_lead_42] at hm
    refine lv_iload hx hb dMod_lead_42 (lv_at hl 3 rfl) ?_
    refine lv_aload_n hx hb dMod_lead_44 rfl (lv_at hl 0 rfl) ?_
    obtain ⟨v9, hv9, hm⟩ := sx_bind hm
    have hPc := hP.sub (ws' := [(h_mod, .inr (5, [.int mod_code, .int mod_gates, .int mod_feeds, .int mod_inputs, .int mod_latches, .int mod_outputs, .ref a_mod_sort, .ref a_mod_number, .ref a_mod_value, .ref a_mod_made, .ref a_mod_to, .ref a_mod_from, .ref a_mod_outputOf, .ref a_mod_negated, .int mod_explored, .ref a_mod_settles, .ref a_mod_next, .ref a_mod_ones, .ref a_mod_distance, .ref a_mod_apart, .ref a_mod_leads]))]) [0] rfl
    have hDc := hD.sub (ws' := [(h_mod, .inr (5, [.int mod_code, .int mod_gates, .int mod_feeds, .int mod_inputs, .int mod_latches, .int mod_outputs, .ref a_mod_sort, .ref a_mod_number, .ref a_mod_value, .ref a_mod_made, .ref a_mod_to, .ref a_mod_from, .ref a_mod_outputOf, .ref a_mod_negated, .int mod_explored, .ref a_mod_settles, .ref a_mod_next, .ref a_mod_ones, .ref a_mod_distance, .ref a_mod_apart, .ref a_mod_leads]))]) [0] (by decide) rfl
    have hFc := va_free (wc := [(h_mod, .inr (5, [.int mod_code, .int mod_gates, .int mod_feeds, .int mod_inputs, .int mod_latches, .int mod_outputs, .ref a_mod_sort, .ref a_mod_number, .ref a_mod_value, .ref a_mod_made, .ref a_mod_to, .ref a_mod_from, .ref a_mod_outputOf, .ref a_mod_negated, .int mod_explored, .ref a_mod_settles, .ref a_mod_next, .ref a_mod_ones, .ref a_mod_distance, .ref a_mod_apart, .ref a_mod_leads]))]) hD hS hA [0] rfl
    refine sx_stI (va_runV (As := []) (rest := [.int x4]) ⟨hx, hb, hml, hown, hts⟩ (k_Mod_states l dC dI cI cL cZ t1 t2 h_mod a_mod_sort a_mod_number a_mod_value a_mod_made a_mod_to a_mod_from a_mod_outputOf a_mod_negated a_mod_settles a_mod_next a_mod_ones a_mod_distance a_mod_apart a_mod_leads mod_code mod_gates mod_feeds mod_inputs mod_latches mod_outputs mod_explored _ v9 hv9) (cwV 0 hts (sx_gV tw_708 tw_710 tw_22 tw_41 tcMod_states) rfl rfl rfl (by decide +kernel) ⟨Nat.le_of_ble_eq_true rfl, Nat.le_of_ble_eq_true rfl⟩) (sx_pV hK hX hS hPc hDc hFc (va_recv hK hPc (ci := 5) (q0 := 0) rfl rfl)) rfl rfl hl.1 rfl (lv_room (Nat.le_of_ble_eq_true rfl)) dMod_lead_45 ⟨Nat.le_of_ble_eq_true rfl, Nat.le_of_ble_eq_true rfl⟩) ?_
    refine lv_icmp_ge (tgt := 150) hx hb dMod_lead_48 (by decide) (fun c11 => ?_) (fun c11 => ?_)
    · have hm := sx_pos c11 hm
      obtain rfl := Option.some.inj hm
      exact k1 _ _ _ hP hD hS (lv_sub hl [0, 1, 2] rfl)
    · have hm := sx_neg c11 hm
      refine lv_iconst (v := (0 : Int32)) hx hb dMod_lead_51 (by decide) ?_
      refine lv_istore (lv' := [(5, .int (0 : Int32)), (0, .ref h_mod), (2, .int x2), (3, .int x3), (4, .int x4)]) hx hb dMod_lead_52 hl (by decide) rfl (fun ls hl => ?_)
      refine lv_iconst (v := (0 : Int32)) hx hb dMod_lead_54 (by decide) ?_
      refine lv_istore (lv' := [(6, .int (0 : Int32)), (5, .int (0 : Int32)), (0, .ref h_mod), (2, .int x2), (3, .int x3), (4, .int x4)]) hx hb dMod_lead_55 hl (by decide) rfl (fun ls hl => ?_)
      obtain ⟨v21, hv21, hm⟩ := sx_bind hm
      refine w_Mod_lead_57 C0 h_mod a_mod_sort a_mod_number a_mod_value a_mod_made a_mod_to a_mod_from a_mod_outputOf a_mod_negated a_mod_settles a_mod_next a_mod_ones a_mod_distance a_mod_apart a_mod_leads mod_code mod_gates mod_feeds mod_inputs mod_latches mod_outputs mod_explored mod_settles mod_next mod_leads x2 x3 x4 hP hD hS _ (0 : Int32) (0 : Int32) v21 hv21 _ (lv_sub hl [2, 3, 4, 5, 1, 0] rfl) ?_
      intro ls hl
      refine lv_aload_n hx hb dMod_lead_129 rfl (lv_at hl 0 rfl) ?_
      refine va_get (D := (dC, dI)) (ci := 5) (v := .ref a_mod_leads) (C := RMod) (T := TMod) (N := 21) hx hb hts inMod hown hK hP 0 rfl rfl 20 (by decide) (hts _ tw_631) (fun _ h9 => h9) rfl dMod_lead_130 ?_
      refine lv_sipush (v := (256 : Int32)) hx hb dMod_lead_133 (by decide) ?_
      refine lv_iload_n hx hb dMod_lead_136 rfl (lv_at hl 2 rfl) ?_
      refine lv_imul hx hb dMod_lead_137 ?_
      refine lv_iload hx hb dMod_lead_138 (lv_at hl 3 rfl) ?_
      refine lv_iadd hx hb dMod_lead_140 ?_
      refine lv_iload hx hb dMod_lead_141 (lv_at hl 4 rfl) ?_
      obtain ⟨g22, hm⟩ := gd_el hm
      refine va_zast hx hb hK hP hD hS 3 2 rfl rfl g22 dMod_lead_143 (fun H locs hP hD hS => ?_)
      have hP : va_P (dC, dI) vwCl [(h_mod, .inr (5, [.int mod_code, .int mod_gates, .int mod_feeds, .int mod_inputs, .int mod_latches, .int mod_outputs, .ref a_mod_sort, .ref a_mod_number, .ref a_mod_value, .ref a_mod_made, .ref a_mod_to, .ref a_mod_from, .ref a_mod_outputOf, .ref a_mod_negated, .int mod_explored, .ref a_mod_settles, .ref a_mod_next, .ref a_mod_ones, .ref a_mod_distance, .ref a_mod_apart, .ref a_mod_leads])), (a_mod_settles, .inl (cZ, 4096, .inl mod_settles)), (a_mod_next, .inl (cI, 4096, .inl mod_next)), (a_mod_leads, .inl (cZ, 65536, .inl (upd mod_leads (((256 : Int32) * x3) + x4).toNatClampNeg (vp_nar .boolean v21))))] H := hP
      have hD : va_D A [(h_mod, .inr (5, [.int mod_code, .int mod_gates, .int mod_feeds, .int mod_inputs, .int mod_latches, .int mod_outputs, .ref a_mod_sort, .ref a_mod_number, .ref a_mod_value, .ref a_mod_made, .ref a_mod_to, .ref a_mod_from, .ref a_mod_outputOf, .ref a_mod_negated, .int mod_explored, .ref a_mod_settles, .ref a_mod_next, .ref a_mod_ones, .ref a_mod_distance, .ref a_mod_apart, .ref a_mod_leads])), (a_mod_settles, .inl (cZ, 4096, .inl mod_settles)), (a_mod_next, .inl (cI, 4096, .inl mod_next)), (a_mod_leads, .inl (cZ, 65536, .inl (upd mod_leads (((256 : Int32) * x3) + x4).toNatClampNeg (vp_nar .boolean v21))))] := hD
      refine lv_iinc (v := x4 + (1 : Int32)) (lv' := [(4, .int (x4 + (1 : Int32))), (0, .ref h_mod), (2, .int x2), (3, .int x3), (5, .int v21)]) hx hb dMod_lead_144 hl (k := 3) rfl rfl (by decide) rfl (fun ls hl => ?_)
      refine lv_goto (tgt := 42) hx hb dMod_lead_147 (by decide) ?_
      exact ih (x4 + (1 : Int32)) (upd mod_leads (((256 : Int32) * x3) + x4).toNatClampNeg (vp_nar .boolean v21)) r hm _ _ _ hP hD hS (lv_sub hl [1, 2, 3, 0] rfl) k1
set_option maxHeartbeats 4000000 in
set_option maxRecDepth 100000 in
theorem w_Mod_lead_34 {p : Program} {l : Launch} {e : Env} {s : State} {m : MethodId} {args : Array Value} {below : List Frame} {meth : Method} {c : Code} {dC : Nat → ClassId} {dI : Nat → Nat → Nat} {cI cL cZ : ClassId} {A : Nat → Prop} {Q : State → Prop} {t1 t2 : Nat} (C0 : sx_C p s m args meth c cMod_lead 7 "StateExplorerModel" A (dC, dI) [(cI, .int), (cL, .long), (cZ, .boolean)] t1 t2) (h_mod a_mod_sort a_mod_number a_mod_value a_mod_made a_mod_to a_mod_from a_mod_outputOf a_mod_negated a_mod_settles a_mod_next a_mod_ones a_mod_distance a_mod_apart a_mod_leads : Nat) (mod_code mod_gates mod_feeds mod_inputs mod_latches mod_outputs mod_explored : Int32) (mod_settles mod_next : Nat → Int32) (x2 : Int32) :
    ∀ (n : Nat) (x3 : Int32) (mod_leads : Nat → Int32) (r : (Nat → Int32)), L_Mod_lead_34 mod_inputs mod_latches mod_settles mod_next x2 n x3 mod_leads = some r → ∀ (H : Heap) (locs : List Loc) (ls : Array Slot), va_P (dC, dI) vwCl [(h_mod, .inr (5, [.int mod_code, .int mod_gates, .int mod_feeds, .int mod_inputs, .int mod_latches, .int mod_outputs, .ref a_mod_sort, .ref a_mod_number, .ref a_mod_value, .ref a_mod_made, .ref a_mod_to, .ref a_mod_from, .ref a_mod_outputOf, .ref a_mod_negated, .int mod_explored, .ref a_mod_settles, .ref a_mod_next, .ref a_mod_ones, .ref a_mod_distance, .ref a_mod_apart, .ref a_mod_leads])), (a_mod_settles, .inl (cZ, 4096, .inl mod_settles)), (a_mod_next, .inl (cI, 4096, .inl mod_next)), (a_mod_leads, .inl (cZ, 65536, .inl mod_leads))] H → va_D A [(h_mod, .inr (5, [.int mod_code, .int mod_gates, .int mod_feeds, .int mod_inputs, .int mod_latches, .int mod_outputs, .ref a_mod_sort, .ref a_mod_number, .ref a_mod_value, .ref a_mod_made, .ref a_mod_to, .ref a_mod_from, .ref a_mod_outputOf, .ref a_mod_negated, .int mod_explored, .ref a_mod_settles, .ref a_mod_next, .ref a_mod_ones, .ref a_mod_distance, .ref a_mod_apart, .ref a_mod_leads])), (a_mod_settles, .inl (cZ, 4096, .inl mod_settles)), (a_mod_next, .inl (cI, 4096, .inl mod_next)), (a_mod_leads, .inl (cZ, 65536, .inl mod_leads))] → va_S A s.heap H locs → lv_has ls 7 [(0, .ref h_mod), (2, .int x2), (3, .int x3)] →
    (∀ (H : Heap) (locs : List Loc) (ls : Array Slot), va_P (dC, dI) vwCl [(h_mod, .inr (5, [.int mod_code, .int mod_gates, .int mod_feeds, .int mod_inputs, .int mod_latches, .int mod_outputs, .ref a_mod_sort, .ref a_mod_number, .ref a_mod_value, .ref a_mod_made, .ref a_mod_to, .ref a_mod_from, .ref a_mod_outputOf, .ref a_mod_negated, .int mod_explored, .ref a_mod_settles, .ref a_mod_next, .ref a_mod_ones, .ref a_mod_distance, .ref a_mod_apart, .ref a_mod_leads])), (a_mod_settles, .inl (cZ, 4096, .inl mod_settles)), (a_mod_next, .inl (cI, 4096, .inl mod_next)), (a_mod_leads, .inl (cZ, 65536, .inl r))] H → va_D A [(h_mod, .inr (5, [.int mod_code, .int mod_gates, .int mod_feeds, .int mod_inputs, .int mod_latches, .int mod_outputs, .ref a_mod_sort, .ref a_mod_number, .ref a_mod_value, .ref a_mod_made, .ref a_mod_to, .ref a_mod_from, .ref a_mod_outputOf, .ref a_mod_negated, .int mod_explored, .ref a_mod_settles, .ref a_mod_next, .ref a_mod_ones, .ref a_mod_distance, .ref a_mod_apart, .ref a_mod_leads])), (a_mod_settles, .inl (cZ, 4096, .inl mod_settles)), (a_mod_next, .inl (cI, 4096, .inl mod_next)), (a_mod_leads, .inl (cZ, 65536, .inl r))] → va_S A s.heap H locs → lv_has ls 7 [] → W p l e (headSpec wsMod_lead rm_Mod_lead).room s m args below meth c H locs 0 0 Q (F0 m 156 ls [])) →
    W p l e (headSpec wsMod_lead rm_Mod_lead).room s m args below meth c H locs 0 0 Q (F0 m 34 ls []) := by
  obtain ⟨hx, hb, hml, hown, hts, hA, hK, hlocks, hX⟩ := id C0
  intro n
  induction n with
  | zero => intro x3 mod_leads r hm; rw [L_Mod_lead_34] at hm; cases hm
  | succ n ih =>
    intro x3 mod_leads r hm H locs ls hP hD hS hl k1
    rw [L_Mod_lead_34] at hm
    refine lv_iload_n hx hb dMod_lead_34 rfl (lv_at hl 2 rfl) ?_
    refine lv_iload_n hx hb dMod_lead_35 rfl (lv_at hl 1 rfl) ?_
    refine lv_icmp_gt (tgt := 156) hx hb dMod_lead_36 (by decide) (fun c8 => ?_) (fun c8 => ?_)
    · have hm := sx_pos c8 hm
      obtain rfl := Option.some.inj hm
      exact k1 _ _ _ hP hD hS (lv_sub hl [] rfl)
    · have hm := sx_neg c8 hm
      refine lv_iconst (v := (0 : Int32)) hx hb dMod_lead_39 (by decide) ?_
      refine lv_istore (lv' := [(4, .int (0 : Int32)), (0, .ref h_mod), (2, .int x2), (3, .int x3)]) hx hb dMod_lead_40 hl (by decide) rfl (fun ls hl => ?_)
      obtain ⟨v23, hv23, hm⟩ := sx_bind hm
      refine w_Mod_lead_42 C0 h_mod a_mod_sort a_mod_number a_mod_value a_mod_made a_mod_to a_mod_from a_mod_outputOf a_mod_negated a_mod_settles a_mod_next a_mod_ones a_mod_distance a_mod_apart a_mod_leads mod_code mod_gates mod_feeds mod_inputs mod_latches mod_outputs mod_explored mod_settles mod_next x2 x3 _ (0 : Int32) mod_leads v23 hv23 _ _ _ hP hD hS (lv_sub hl [1, 2, 3, 0] rfl) ?_
      intro H locs ls hP hD hS hl
      refine lv_iinc (v := x3 + (1 : Int32)) (lv' := [(3, .int (x3 + (1 : Int32))), (0, .ref h_mod), (2, .int x2)]) hx hb dMod_lead_150 hl (k := 2) rfl rfl (by decide) rfl (fun ls hl => ?_)
      refine lv_goto (tgt := 34) hx hb dMod_lead_153 (by decide) ?_
      exact ih (x3 + (1 : Int32)) v23 r hm _ _ _ hP hD hS (lv_sub hl [1, 2, 0] rfl) k1
set_option maxHeartbeats 4000000 in
set_option maxRecDepth 100000 in
theorem k_Mod_lead (l : Launch) (dC : Nat → ClassId) (dI : Nat → Nat → Nat) (cI cL cZ : ClassId) (t1 t2 : Nat) (h_mod a_mod_sort a_mod_number a_mod_value a_mod_made a_mod_to a_mod_from a_mod_outputOf a_mod_negated a_mod_settles a_mod_next a_mod_ones a_mod_distance a_mod_apart a_mod_leads : Nat) (mod_code mod_gates mod_feeds mod_inputs mod_latches mod_outputs mod_explored : Int32) (mod_settles mod_next mod_leads : Nat → Int32) (sz : Nat) (p0 : Int32) (p1 : Int32) (v : (Nat → Int32)) (hm : m_Mod_lead mod_inputs mod_latches mod_settles mod_next mod_leads p0 p1 = some v) : Met l yMod_lead wsMod_lead rm_Mod_lead (sx_Pc (dC, dI) [(cI, .int), (cL, .long), (cZ, .boolean)] t1 t2 [(h_mod, .inr (5, [.int mod_code, .int mod_gates, .int mod_feeds, .int mod_inputs, .int mod_latches, .int mod_outputs, .ref a_mod_sort, .ref a_mod_number, .ref a_mod_value, .ref a_mod_made, .ref a_mod_to, .ref a_mod_from, .ref a_mod_outputOf, .ref a_mod_negated, .int mod_explored, .ref a_mod_settles, .ref a_mod_next, .ref a_mod_ones, .ref a_mod_distance, .ref a_mod_apart, .ref a_mod_leads])), (a_mod_settles, .inl (cZ, 4096, .inl mod_settles)), (a_mod_next, .inl (cI, 4096, .inl mod_next)), (a_mod_leads, .inl (cZ, 65536, .inl mod_leads))] sz [.ref h_mod, .int p0, .int p1]) (va_Qv (fun (_ : Unit) => True) (fun _ t => sx_W (dC, dI) [(cI, .int), (cL, .long), (cZ, .boolean)] (va_A [(h_mod, .inr (5, [.int mod_code, .int mod_gates, .int mod_feeds, .int mod_inputs, .int mod_latches, .int mod_outputs, .ref a_mod_sort, .ref a_mod_number, .ref a_mod_value, .ref a_mod_made, .ref a_mod_to, .ref a_mod_from, .ref a_mod_outputOf, .ref a_mod_negated, .int mod_explored, .ref a_mod_settles, .ref a_mod_next, .ref a_mod_ones, .ref a_mod_distance, .ref a_mod_apart, .ref a_mod_leads])), (a_mod_settles, .inl (cZ, 4096, .inl mod_settles)), (a_mod_next, .inl (cI, 4096, .inl mod_next)), (a_mod_leads, .inl (cZ, 65536, .inl mod_leads))] sz) [(h_mod, .inr (5, [.int mod_code, .int mod_gates, .int mod_feeds, .int mod_inputs, .int mod_latches, .int mod_outputs, .ref a_mod_sort, .ref a_mod_number, .ref a_mod_value, .ref a_mod_made, .ref a_mod_to, .ref a_mod_from, .ref a_mod_outputOf, .ref a_mod_negated, .int mod_explored, .ref a_mod_settles, .ref a_mod_next, .ref a_mod_ones, .ref a_mod_distance, .ref a_mod_apart, .ref a_mod_leads])), (a_mod_settles, .inl (cZ, 4096, .inl mod_settles)), (a_mod_next, .inl (cI, 4096, .inl mod_next)), (a_mod_leads, .inl (cZ, 65536, .inl v))] t) (va_A [(h_mod, .inr (5, [.int mod_code, .int mod_gates, .int mod_feeds, .int mod_inputs, .int mod_latches, .int mod_outputs, .ref a_mod_sort, .ref a_mod_number, .ref a_mod_value, .ref a_mod_made, .ref a_mod_to, .ref a_mod_from, .ref a_mod_outputOf, .ref a_mod_negated, .int mod_explored, .ref a_mod_settles, .ref a_mod_next, .ref a_mod_ones, .ref a_mod_distance, .ref a_mod_apart, .ref a_mod_leads])), (a_mod_settles, .inl (cZ, 4096, .inl mod_settles)), (a_mod_next, .inl (cI, 4096, .inl mod_next)), (a_mod_leads, .inl (cZ, 65536, .inl mod_leads))] sz)) 0 0 (va_A [(h_mod, .inr (5, [.int mod_code, .int mod_gates, .int mod_feeds, .int mod_inputs, .int mod_latches, .int mod_outputs, .ref a_mod_sort, .ref a_mod_number, .ref a_mod_value, .ref a_mod_made, .ref a_mod_to, .ref a_mod_from, .ref a_mod_outputOf, .ref a_mod_negated, .int mod_explored, .ref a_mod_settles, .ref a_mod_next, .ref a_mod_ones, .ref a_mod_distance, .ref a_mod_apart, .ref a_mod_leads])), (a_mod_settles, .inl (cZ, 4096, .inl mod_settles)), (a_mod_next, .inl (cI, 4096, .inl mod_next)), (a_mod_leads, .inl (cZ, 65536, .inl mod_leads))] sz) := by
  refine Met.ofW (cc := cMod_lead) (maxL := 7) (ret := none) (by decide) rfl ?_
  intro p e s m args below meth c s₁ B hml hv
  obtain ⟨rfl, hsz, hP, hK, hD0, hX⟩ := hv
  have hx := B.exec
  have hb := B.bytes
  have hr := B.returns
  have hts0 := atoms_spec (ws := wsMod_lead) B.pre
  have hts : ∀ w ∈ tb, w.before _ s = true := fun w h => hts0 w (List.mem_cons_of_mem _ h)
  have hown : s.vm.findClass "StateExplorerModel" = some m.cls := findClass_of_methodNamed B.named
  have hlocks := B.notSynchronized
  subst hsz
  have hD := hD0.self (sz := s.heap.size)
  generalize hAe : va_A [(h_mod, .inr (5, [.int mod_code, .int mod_gates, .int mod_feeds, .int mod_inputs, .int mod_latches, .int mod_outputs, .ref a_mod_sort, .ref a_mod_number, .ref a_mod_value, .ref a_mod_made, .ref a_mod_to, .ref a_mod_from, .ref a_mod_outputOf, .ref a_mod_negated, .int mod_explored, .ref a_mod_settles, .ref a_mod_next, .ref a_mod_ones, .ref a_mod_distance, .ref a_mod_apart, .ref a_mod_leads])), (a_mod_settles, .inl (cZ, 4096, .inl mod_settles)), (a_mod_next, .inl (cI, 4096, .inl mod_next)), (a_mod_leads, .inl (cZ, 65536, .inl mod_leads))] s.heap.size = A at hD hX ⊢
  have hA : ∀ q : Nat, s.heap.size ≤ q → A q := fun q h => by rw [← hAe]; exact Or.inr h
  have hS : va_S A s.heap s.heap [] := va_S.rf
  have hl := lv_entry ([.ref h_mod, .int p0, .int p1]) (n := 7) (Nat.le_of_ble_eq_true rfl)
  rw [lg_entry_eq]
  generalize (lg_sl ([.ref h_mod, .int p0, .int p1]) ++ List.replicate (7 - (lg_sl ([.ref h_mod, .int p0, .int p1])).length) Slot.unset).toArray = ls at hl ⊢
  have hl : lv_has ls 7 [(0, .ref h_mod), (1, .int p0), (2, .int p1)] := hl
  have C0 : sx_C p s m _ meth c cMod_lead 7 "StateExplorerModel" A (dC, dI) [(cI, .int), (cL, .long), (cZ, .boolean)] t1 t2 := ⟨hx, hb, hml, hown, hts, hA, hK, hlocks, hX⟩
  rw [m_Mod_lead] at hm
  refine lv_iconst (v := (0 : Int32)) hx hb dMod_lead_0 (by decide) ?_
  refine lv_istore_n (lv' := [(3, .int (0 : Int32)), (0, .ref h_mod), (1, .int p0), (2, .int p1)]) hx hb dMod_lead_1 rfl hl (by decide) rfl (fun ls hl => ?_)
  obtain ⟨v7, hv7, hm⟩ := sx_bind hm
  refine w_Mod_lead_2 C0 h_mod a_mod_sort a_mod_number a_mod_value a_mod_made a_mod_to a_mod_from a_mod_outputOf a_mod_negated a_mod_settles a_mod_next a_mod_ones a_mod_distance a_mod_apart a_mod_leads mod_code mod_gates mod_feeds mod_inputs mod_latches mod_outputs mod_explored mod_settles mod_next p0 p1 _ (0 : Int32) mod_leads v7 hv7 _ _ _ hP hD hS (lv_sub hl [1, 2, 3, 0] rfl) ?_
  intro H locs ls hP hD hS hl
  refine lv_iconst (v := (1 : Int32)) hx hb dMod_lead_32 (by decide) ?_
  refine lv_istore_n (lv' := [(3, .int (1 : Int32)), (0, .ref h_mod), (2, .int p1)]) hx hb dMod_lead_33 rfl hl (by decide) rfl (fun ls hl => ?_)
  obtain ⟨v24, hv24, hm⟩ := sx_bind hm
  refine w_Mod_lead_34 C0 h_mod a_mod_sort a_mod_number a_mod_value a_mod_made a_mod_to a_mod_from a_mod_outputOf a_mod_negated a_mod_settles a_mod_next a_mod_ones a_mod_distance a_mod_apart a_mod_leads mod_code mod_gates mod_feeds mod_inputs mod_latches mod_outputs mod_explored mod_settles mod_next p1 _ (1 : Int32) v7 v24 hv24 _ _ _ hP hD hS (lv_sub hl [1, 2, 0] rfl) ?_
  intro H locs ls hP hD hS hl
  obtain rfl := Option.some.inj hm
  exact W.vret hx hb hr (fun t ht hW => ⟨⟨(), rfl, trivial, sx_Wi hP hK hD ht hW.alike⟩, hS.F ht⟩) hS.2.2 dMod_lead_156
noncomputable def L_Mod_way_76 (mod_settles mod_next mod_leads : Nat → Int32) (x3 : Int32) (x4 : Int32) (x6 : Int32) : Nat → Int32 → Option (Int32)
  | 0, _ => none
  | n + 1, x5 => gd (vp_in (((16 : Int32) * x4) + x5) 4096) ((if mod_settles (((16 : Int32) * x4) + x5).toNatClampNeg = (0 : Int32) then (L_Mod_way_76 mod_settles mod_next mod_leads x3 x4 x6 n (x5 + (1 : Int32))) else gd (vp_in (((16 : Int32) * x4) + x5) 4096) (gd (vp_in (((256 : Int32) * ((x3 - x6) - (1 : Int32))) + (mod_next (((16 : Int32) * x4) + x5).toNatClampNeg)) 65536) ((if mod_leads (((256 : Int32) * ((x3 - x6) - (1 : Int32))) + (mod_next (((16 : Int32) * x4) + x5).toNatClampNeg)).toNatClampNeg = (0 : Int32) then (L_Mod_way_76 mod_settles mod_next mod_leads x3 x4 x6 n (x5 + (1 : Int32))) else some x5)))))
noncomputable def L_Mod_way_67 (mod_settles mod_next mod_leads : Nat → Int32) (x2 : Int32) (x3 : Int32) : Nat → Int32 → Int32 → Int32 → Option (Int32)
  | 0, _, _, _ => none
  | n + 1, x4, x5, x6 => (if x2 < x6 then some x5 else ((L_Mod_way_76 mod_settles mod_next mod_leads x3 x4 x6 fu (0 : Int32)).bind (fun v19 => gd (vp_in (((16 : Int32) * x4) + v19) 4096) ((L_Mod_way_67 mod_settles mod_next mod_leads x2 x3 n (mod_next (((16 : Int32) * x4) + v19).toNatClampNeg) v19 (x6 + (1 : Int32)))))))
noncomputable def m_Mod_way (mod_code mod_inputs mod_latches mod_explored : Int32) (mod_settles mod_next mod_distance mod_leads : Nat → Int32) (p0 : Int32) (p1 : Int32) : Option (Int32 × Int32 × (Nat → Int32)) := (sx_let (fun (z0J1 : Int32) => (m_Mod_isState mod_latches p0).bind (fun v2 => (sx_let (fun (z0J4 : Int32) (z1J4 : Int32) => (m_Mod_fails mod_code z1J4 z0J4).bind (fun v5 => (if v5.1 = (0 : Int32) then gd (vp_in p0 256) ((if p1 < (0 : Int32) then some ((-1 : Int32), v5.2, mod_leads) else (if p1 < mod_distance p0.toNatClampNeg then (m_Mod_lead mod_inputs mod_latches mod_settles mod_next mod_leads p0 (mod_distance p0.toNatClampNeg)).bind (fun v11 => ((L_Mod_way_67 mod_settles mod_next v11 p1 (mod_distance p0.toNatClampNeg) fu (0 : Int32) (0 : Int32) (0 : Int32)).bind (fun v21 => some (v21, v5.2, v11)))) else some ((-1 : Int32), v5.2, mod_leads)))) else some ((0 : Int32), v5.2, mod_leads)))) (fun J4 => (if v2 = (0 : Int32) then (J4 (1 : Int32) z0J1) else (J4 (0 : Int32) z0J1)))))) (fun J1 => (if mod_explored = (0 : Int32) then (J1 (1 : Int32)) else (J1 (0 : Int32)))))
def rm_Mod_way : Room := { frames := 2, cells := 0, slots := 0, locals := 46 }
set_option maxHeartbeats 4000000 in
set_option maxRecDepth 100000 in
theorem w_Mod_way_76 {p : Program} {l : Launch} {e : Env} {s : State} {m : MethodId} {args : Array Value} {below : List Frame} {meth : Method} {c : Code} {dC : Nat → ClassId} {dI : Nat → Nat → Nat} {cI cL cZ : ClassId} {A : Nat → Prop} {Q : State → Prop} {t1 t2 : Nat} (C0 : sx_C p s m args meth c cMod_way 7 "StateExplorerModel" A (dC, dI) [(cI, .int), (cL, .long), (cZ, .boolean)] t1 t2) (h_mod a_mod_sort a_mod_number a_mod_value a_mod_made a_mod_to a_mod_from a_mod_outputOf a_mod_negated a_mod_settles a_mod_next a_mod_ones a_mod_distance a_mod_apart a_mod_leads : Nat) (mod_code mod_gates mod_feeds mod_inputs mod_latches mod_outputs mod_explored : Int32) (mod_settles mod_next mod_distance mod_leads : Nat → Int32) (x2 : Int32) (x3 : Int32) (x4 : Int32) (x6 : Int32) {H : Heap} {locs : List Loc} (hP : va_P (dC, dI) vwCl [(h_mod, .inr (5, [.int mod_code, .int mod_gates, .int mod_feeds, .int mod_inputs, .int mod_latches, .int mod_outputs, .ref a_mod_sort, .ref a_mod_number, .ref a_mod_value, .ref a_mod_made, .ref a_mod_to, .ref a_mod_from, .ref a_mod_outputOf, .ref a_mod_negated, .int mod_explored, .ref a_mod_settles, .ref a_mod_next, .ref a_mod_ones, .ref a_mod_distance, .ref a_mod_apart, .ref a_mod_leads])), (a_mod_settles, .inl (cZ, 4096, .inl mod_settles)), (a_mod_next, .inl (cI, 4096, .inl mod_next)), (a_mod_distance, .inl (cI, 256, .inl mod_distance)), (a_mod_leads, .inl (cZ, 65536, .inl mod_leads))] H) (hD : va_D A [(h_mod, .inr (5, [.int mod_code, .int mod_gates, .int mod_feeds, .int mod_inputs, .int mod_latches, .int mod_outputs, .ref a_mod_sort, .ref a_mod_number, .ref a_mod_value, .ref a_mod_made, .ref a_mod_to, .ref a_mod_from, .ref a_mod_outputOf, .ref a_mod_negated, .int mod_explored, .ref a_mod_settles, .ref a_mod_next, .ref a_mod_ones, .ref a_mod_distance, .ref a_mod_apart, .ref a_mod_leads])), (a_mod_settles, .inl (cZ, 4096, .inl mod_settles)), (a_mod_next, .inl (cI, 4096, .inl mod_next)), (a_mod_distance, .inl (cI, 256, .inl mod_distance)), (a_mod_leads, .inl (cZ, 65536, .inl mod_leads))]) (hS : va_S A s.heap H locs) :
    ∀ (n : Nat) (x5 : Int32)  (r : Int32), L_Mod_way_76 mod_settles mod_next mod_leads x3 x4 x6 n x5 = some r → ∀ (ls : Array Slot), lv_has ls 7 [(0, .ref h_mod), (2, .int x2), (3, .int x3), (4, .int x4), (5, .int x5), (6, .int x6)] →
    (∀ (ls : Array Slot), lv_has ls 7 [(0, .ref h_mod), (2, .int x2), (3, .int x3), (4, .int x4), (5, .int r), (6, .int x6)] → W p l e (headSpec wsMod_way rm_Mod_way).room s m args below meth c H locs 0 0 Q (F0 m 130 ls [])) →
    W p l e (headSpec wsMod_way rm_Mod_way).room s m args below meth c H locs 0 0 Q (F0 m 76 ls []) := by
  obtain ⟨hx, hb, hml, hown, hts, hA, hK, hlocks, hX⟩ := id C0
  intro n
  induction n with
  | zero => intro x5 r hm; rw [L_Mod_way_76] at hm; cases hm
  | succ n ih =>
    intro x5 r hm ls hl k1
    rw [L_Mod_way_76] at hm
    refine lv_aload_n hx hb dMod_way_76 rfl (lv_at hl 0 rfl) ?_
    refine va_get (D := (dC, dI)) (ci := 5) (v := .ref a_mod_settles) (C := RMod) (T := TMod) (N := 21) hx hb hts inMod hown hK hP 0 rfl rfl 15 (by decide) (hts _ tw_626) (fun _ h9 => h9) rfl dMod_way_77 ?_
    refine lv_bipush (v := (16 : Int32)) hx hb dMod_way_80 (by decide) ?_
    refine lv_iload hx hb dMod_way_82 (lv_at hl 3 rfl) ?_
    refine lv_imul hx hb dMod_way_84 ?_
    refine lv_iload hx hb dMod_way_85 (lv_at hl 4 rfl) ?_
    refine lv_iadd hx hb dMod_way_87 ?_
    obtain ⟨g14, hm⟩ := gd_el hm
    refine va_zald hx hb hK hP 1 2 rfl rfl g14 dMod_way_88 ?_
    refine lv_if_eq (tgt := 124) hx hb dMod_way_89 (by decide) (fun c15 => ?_) (fun c15 => ?_)
    · have hm := sx_pos c15 hm
      refine lv_iinc (v := x5 + (1 : Int32)) (lv' := [(5, .int (x5 + (1 : Int32))), (0, .ref h_mod), (2, .int x2), (3, .int x3), (4, .int x4), (6, .int x6)]) hx hb dMod_way_124 hl (k := 4) rfl rfl (by decide) rfl (fun ls hl => ?_)
      refine lv_goto (tgt := 76) hx hb dMod_way_127 (by decide) ?_
      exact ih (x5 + (1 : Int32)) r hm _ (lv_sub hl [1, 2, 3, 4, 0, 5] rfl) k1
    · have hm := sx_neg c15 hm
      refine lv_aload_n hx hb dMod_way_92 rfl (lv_at hl 0 rfl) ?_
      refine va_get (D := (dC, dI)) (ci := 5) (v := .ref a_mod_leads) (C := RMod) (T := TMod) (N := 21) hx hb hts inMod hown hK hP 0 rfl rfl 20 (by decide) (hts _ tw_631) (fun _ h9 => h9) rfl dMod_way_93 ?_
      refine lv_sipush (v := (256 : Int32)) hx hb dMod_way_96 (by decide) ?_
      refine lv_iload_n hx hb dMod_way_99 rfl (lv_at hl 2 rfl) ?_
      refine lv_iload hx hb dMod_way_100 (lv_at hl 5 rfl) ?_
      refine lv_isub hx hb dMod_way_102 ?_
      refine lv_iconst (v := (1 : Int32)) hx hb dMod_way_103 (by decide) ?_
      refine lv_isub hx hb dMod_way_104 ?_
      refine lv_imul hx hb dMod_way_105 ?_
      refine lv_aload_n hx hb dMod_way_106 rfl (lv_at hl 0 rfl) ?_
      refine va_get (D := (dC, dI)) (ci := 5) (v := .ref a_mod_next) (C := RMod) (T := TMod) (N := 21) hx hb hts inMod hown hK hP 0 rfl rfl 16 (by decide) (hts _ tw_627) (fun _ h9 => h9) rfl dMod_way_107 ?_
      refine lv_bipush (v := (16 : Int32)) hx hb dMod_way_110 (by decide) ?_
      refine lv_iload hx hb dMod_way_112 (lv_at hl 3 rfl) ?_
      refine lv_imul hx hb dMod_way_114 ?_
      refine lv_iload hx hb dMod_way_115 (lv_at hl 4 rfl) ?_
      refine lv_iadd hx hb dMod_way_117 ?_
      obtain ⟨g16, hm⟩ := gd_el hm
      refine va_iald hx hb hK hP 2 0 rfl rfl g16 dMod_way_118 ?_
      refine lv_iadd hx hb dMod_way_119 ?_
      obtain ⟨g17, hm⟩ := gd_el hm
      refine va_zald hx hb hK hP 4 2 rfl rfl g17 dMod_way_120 ?_
      refine lv_if_ne (tgt := 130) hx hb dMod_way_121 (by decide) (fun c18 => ?_) (fun c18 => ?_)
      · have hm := sx_neg c18 hm
        obtain rfl := Option.some.inj hm
        exact k1 _ (hl)
      · have hm := sx_pos c18 hm
        refine lv_iinc (v := x5 + (1 : Int32)) (lv' := [(5, .int (x5 + (1 : Int32))), (0, .ref h_mod), (2, .int x2), (3, .int x3), (4, .int x4), (6, .int x6)]) hx hb dMod_way_124 hl (k := 4) rfl rfl (by decide) rfl (fun ls hl => ?_)
        refine lv_goto (tgt := 76) hx hb dMod_way_127 (by decide) ?_
        exact ih (x5 + (1 : Int32)) r hm _ (lv_sub hl [1, 2, 3, 4, 0, 5] rfl) k1
set_option maxHeartbeats 4000000 in
set_option maxRecDepth 100000 in
theorem w_Mod_way_67 {p : Program} {l : Launch} {e : Env} {s : State} {m : MethodId} {args : Array Value} {below : List Frame} {meth : Method} {c : Code} {dC : Nat → ClassId} {dI : Nat → Nat → Nat} {cI cL cZ : ClassId} {A : Nat → Prop} {Q : State → Prop} {t1 t2 : Nat} (C0 : sx_C p s m args meth c cMod_way 7 "StateExplorerModel" A (dC, dI) [(cI, .int), (cL, .long), (cZ, .boolean)] t1 t2) (h_mod a_mod_sort a_mod_number a_mod_value a_mod_made a_mod_to a_mod_from a_mod_outputOf a_mod_negated a_mod_settles a_mod_next a_mod_ones a_mod_distance a_mod_apart a_mod_leads : Nat) (mod_code mod_gates mod_feeds mod_inputs mod_latches mod_outputs mod_explored : Int32) (mod_settles mod_next mod_distance mod_leads : Nat → Int32) (x2 : Int32) (x3 : Int32) {H : Heap} {locs : List Loc} (hP : va_P (dC, dI) vwCl [(h_mod, .inr (5, [.int mod_code, .int mod_gates, .int mod_feeds, .int mod_inputs, .int mod_latches, .int mod_outputs, .ref a_mod_sort, .ref a_mod_number, .ref a_mod_value, .ref a_mod_made, .ref a_mod_to, .ref a_mod_from, .ref a_mod_outputOf, .ref a_mod_negated, .int mod_explored, .ref a_mod_settles, .ref a_mod_next, .ref a_mod_ones, .ref a_mod_distance, .ref a_mod_apart, .ref a_mod_leads])), (a_mod_settles, .inl (cZ, 4096, .inl mod_settles)), (a_mod_next, .inl (cI, 4096, .inl mod_next)), (a_mod_distance, .inl (cI, 256, .inl mod_distance)), (a_mod_leads, .inl (cZ, 65536, .inl mod_leads))] H) (hD : va_D A [(h_mod, .inr (5, [.int mod_code, .int mod_gates, .int mod_feeds, .int mod_inputs, .int mod_latches, .int mod_outputs, .ref a_mod_sort, .ref a_mod_number, .ref a_mod_value, .ref a_mod_made, .ref a_mod_to, .ref a_mod_from, .ref a_mod_outputOf, .ref a_mod_negated, .int mod_explored, .ref a_mod_settles, .ref a_mod_next, .ref a_mod_ones, .ref a_mod_distance, .ref a_mod_apart, .ref a_mod_leads])), (a_mod_settles, .inl (cZ, 4096, .inl mod_settles)), (a_mod_next, .inl (cI, 4096, .inl mod_next)), (a_mod_distance, .inl (cI, 256, .inl mod_distance)), (a_mod_leads, .inl (cZ, 65536, .inl mod_leads))]) (hS : va_S A s.heap H locs) :
    ∀ (n : Nat) (x4 : Int32) (x5 : Int32) (x6 : Int32)  (r : Int32), L_Mod_way_67 mod_settles mod_next mod_leads x2 x3 n x4 x5 x6 = some r → ∀ (ls : Array Slot), lv_has ls 7 [(0, .ref h_mod), (2, .int x2), (3, .int x3), (4, .int x4), (5, .int x5), (6, .int x6)] →
    (∀ (ls : Array Slot), lv_has ls 7 [(5, .int r)] → W p l e (headSpec wsMod_way rm_Mod_way).room s m args below meth c H locs 0 0 Q (F0 m 151 ls [])) →
    W p l e (headSpec wsMod_way rm_Mod_way).room s m args below meth c H locs 0 0 Q (F0 m 67 ls []) := by
  obtain ⟨hx, hb, hml, hown, hts, hA, hK, hlocks, hX⟩ := id C0
  intro n
  induction n with
  | zero => intro x4 x5 x6 r hm; rw [L_Mod_way_67] at hm; cases hm
  | succ n ih =>
    intro x4 x5 x6 r hm ls hl k1
    rw [L_Mod_way_67] at hm
    refine lv_iload hx hb dMod_way_67 (lv_at hl 5 rfl) ?_
    refine lv_iload_n hx hb dMod_way_69 rfl (lv_at hl 1 rfl) ?_
    refine lv_icmp_gt (tgt := 151) hx hb dMod_way_70 (by decide) (fun c13 => ?_) (fun c13 => ?_)
    · have hm := sx_pos c13 hm
      obtain rfl := Option.some.inj hm
      exact k1 _ (lv_sub hl [4] rfl)
    · have hm := sx_neg c13 hm
      refine lv_iconst (v := (0 : Int32)) hx hb dMod_way_73 (by decide) ?_
      refine lv_istore (lv' := [(5, .int (0 : Int32)), (0, .ref h_mod), (2, .int x2), (3, .int x3), (4, .int x4), (6, .int x6)]) hx hb dMod_way_74 hl (by decide) rfl (fun ls hl => ?_)
      obtain ⟨v19, hv19, hm⟩ := sx_bind hm
      refine w_Mod_way_76 C0 h_mod a_mod_sort a_mod_number a_mod_value a_mod_made a_mod_to a_mod_from a_mod_outputOf a_mod_negated a_mod_settles a_mod_next a_mod_ones a_mod_distance a_mod_apart a_mod_leads mod_code mod_gates mod_feeds mod_inputs mod_latches mod_outputs mod_explored mod_settles mod_next mod_distance mod_leads x2 x3 x4 x6 hP hD hS _ (0 : Int32) v19 hv19 _ (lv_sub hl [1, 2, 3, 4, 0, 5] rfl) ?_
      intro ls hl
      refine lv_aload_n hx hb dMod_way_130 rfl (lv_at hl 0 rfl) ?_
      refine va_get (D := (dC, dI)) (ci := 5) (v := .ref a_mod_next) (C := RMod) (T := TMod) (N := 21) hx hb hts inMod hown hK hP 0 rfl rfl 16 (by decide) (hts _ tw_627) (fun _ h9 => h9) rfl dMod_way_131 ?_
      refine lv_bipush (v := (16 : Int32)) hx hb dMod_way_134 (by decide) ?_
      refine lv_iload hx hb dMod_way_136 (lv_at hl 3 rfl) ?_
      refine lv_imul hx hb dMod_way_138 ?_
      refine lv_iload hx hb dMod_way_139 (lv_at hl 4 rfl) ?_
      refine lv_iadd hx hb dMod_way_141 ?_
      obtain ⟨g20, hm⟩ := gd_el hm
      refine va_iald hx hb hK hP 2 0 rfl rfl g20 dMod_way_142 ?_
      refine lv_istore (lv' := [(4, .int (mod_next (((16 : Int32) * x4) + v19).toNatClampNeg)), (0, .ref h_mod), (2, .int x2), (3, .int x3), (5, .int v19), (6, .int x6)]) hx hb dMod_way_143 hl (by decide) rfl (fun ls hl => ?_)
      refine lv_iinc (v := x6 + (1 : Int32)) (lv' := [(6, .int (x6 + (1 : Int32))), (4, .int (mod_next (((16 : Int32) * x4) + v19).toNatClampNeg)), (0, .ref h_mod), (2, .int x2), (3, .int x3), (5, .int v19)]) hx hb dMod_way_145 hl (k := 5) rfl rfl (by decide) rfl (fun ls hl => ?_)
      refine lv_goto (tgt := 67) hx hb dMod_way_148 (by decide) ?_
      exact ih (mod_next (((16 : Int32) * x4) + v19).toNatClampNeg) v19 (x6 + (1 : Int32)) r hm _ (lv_sub hl [2, 3, 4, 1, 5, 0] rfl) k1
set_option maxHeartbeats 4000000 in
set_option maxRecDepth 100000 in
theorem k_Mod_way (l : Launch) (dC : Nat → ClassId) (dI : Nat → Nat → Nat) (cI cL cZ : ClassId) (t1 t2 : Nat) (h_mod a_mod_sort a_mod_number a_mod_value a_mod_made a_mod_to a_mod_from a_mod_outputOf a_mod_negated a_mod_settles a_mod_next a_mod_ones a_mod_distance a_mod_apart a_mod_leads : Nat) (mod_code mod_gates mod_feeds mod_inputs mod_latches mod_outputs mod_explored : Int32) (mod_settles mod_next mod_distance mod_leads : Nat → Int32) (sz : Nat) (p0 : Int32) (p1 : Int32) (v : Int32 × Int32 × (Nat → Int32)) (hm : m_Mod_way mod_code mod_inputs mod_latches mod_explored mod_settles mod_next mod_distance mod_leads p0 p1 = some v) : Met l yMod_way wsMod_way rm_Mod_way (sx_Pc (dC, dI) [(cI, .int), (cL, .long), (cZ, .boolean)] t1 t2 [(h_mod, .inr (5, [.int mod_code, .int mod_gates, .int mod_feeds, .int mod_inputs, .int mod_latches, .int mod_outputs, .ref a_mod_sort, .ref a_mod_number, .ref a_mod_value, .ref a_mod_made, .ref a_mod_to, .ref a_mod_from, .ref a_mod_outputOf, .ref a_mod_negated, .int mod_explored, .ref a_mod_settles, .ref a_mod_next, .ref a_mod_ones, .ref a_mod_distance, .ref a_mod_apart, .ref a_mod_leads])), (a_mod_settles, .inl (cZ, 4096, .inl mod_settles)), (a_mod_next, .inl (cI, 4096, .inl mod_next)), (a_mod_distance, .inl (cI, 256, .inl mod_distance)), (a_mod_leads, .inl (cZ, 65536, .inl mod_leads))] sz [.ref h_mod, .int p0, .int p1]) (va_Qi (fun (r : Int32) (_ : Unit) => r = v.1) (fun _ t => sx_W (dC, dI) [(cI, .int), (cL, .long), (cZ, .boolean)] (va_A [(h_mod, .inr (5, [.int mod_code, .int mod_gates, .int mod_feeds, .int mod_inputs, .int mod_latches, .int mod_outputs, .ref a_mod_sort, .ref a_mod_number, .ref a_mod_value, .ref a_mod_made, .ref a_mod_to, .ref a_mod_from, .ref a_mod_outputOf, .ref a_mod_negated, .int mod_explored, .ref a_mod_settles, .ref a_mod_next, .ref a_mod_ones, .ref a_mod_distance, .ref a_mod_apart, .ref a_mod_leads])), (a_mod_settles, .inl (cZ, 4096, .inl mod_settles)), (a_mod_next, .inl (cI, 4096, .inl mod_next)), (a_mod_distance, .inl (cI, 256, .inl mod_distance)), (a_mod_leads, .inl (cZ, 65536, .inl mod_leads))] sz) [(h_mod, .inr (5, [.int v.2.1, .int mod_gates, .int mod_feeds, .int mod_inputs, .int mod_latches, .int mod_outputs, .ref a_mod_sort, .ref a_mod_number, .ref a_mod_value, .ref a_mod_made, .ref a_mod_to, .ref a_mod_from, .ref a_mod_outputOf, .ref a_mod_negated, .int mod_explored, .ref a_mod_settles, .ref a_mod_next, .ref a_mod_ones, .ref a_mod_distance, .ref a_mod_apart, .ref a_mod_leads])), (a_mod_settles, .inl (cZ, 4096, .inl mod_settles)), (a_mod_next, .inl (cI, 4096, .inl mod_next)), (a_mod_distance, .inl (cI, 256, .inl mod_distance)), (a_mod_leads, .inl (cZ, 65536, .inl v.2.2))] t) (va_A [(h_mod, .inr (5, [.int mod_code, .int mod_gates, .int mod_feeds, .int mod_inputs, .int mod_latches, .int mod_outputs, .ref a_mod_sort, .ref a_mod_number, .ref a_mod_value, .ref a_mod_made, .ref a_mod_to, .ref a_mod_from, .ref a_mod_outputOf, .ref a_mod_negated, .int mod_explored, .ref a_mod_settles, .ref a_mod_next, .ref a_mod_ones, .ref a_mod_distance, .ref a_mod_apart, .ref a_mod_leads])), (a_mod_settles, .inl (cZ, 4096, .inl mod_settles)), (a_mod_next, .inl (cI, 4096, .inl mod_next)), (a_mod_distance, .inl (cI, 256, .inl mod_distance)), (a_mod_leads, .inl (cZ, 65536, .inl mod_leads))] sz)) 0 0 (va_A [(h_mod, .inr (5, [.int mod_code, .int mod_gates, .int mod_feeds, .int mod_inputs, .int mod_latches, .int mod_outputs, .ref a_mod_sort, .ref a_mod_number, .ref a_mod_value, .ref a_mod_made, .ref a_mod_to, .ref a_mod_from, .ref a_mod_outputOf, .ref a_mod_negated, .int mod_explored, .ref a_mod_settles, .ref a_mod_next, .ref a_mod_ones, .ref a_mod_distance, .ref a_mod_apart, .ref a_mod_leads])), (a_mod_settles, .inl (cZ, 4096, .inl mod_settles)), (a_mod_next, .inl (cI, 4096, .inl mod_next)), (a_mod_distance, .inl (cI, 256, .inl mod_distance)), (a_mod_leads, .inl (cZ, 65536, .inl mod_leads))] sz) := by
  refine Met.ofW (cc := cMod_way) (maxL := 7) (ret := (some .int)) (by decide) rfl ?_
  intro p e s m args below meth c s₁ B hml hv
  obtain ⟨rfl, hsz, hP, hK, hD0, hX⟩ := hv
  have hx := B.exec
  have hb := B.bytes
  have hr := B.returns
  have hts0 := atoms_spec (ws := wsMod_way) B.pre
  have hts : ∀ w ∈ tb, w.before _ s = true := fun w h => hts0 w (List.mem_cons_of_mem _ h)
  have hown : s.vm.findClass "StateExplorerModel" = some m.cls := findClass_of_methodNamed B.named
  have hlocks := B.notSynchronized
  subst hsz
  have hD := hD0.self (sz := s.heap.size)
  generalize hAe : va_A [(h_mod, .inr (5, [.int mod_code, .int mod_gates, .int mod_feeds, .int mod_inputs, .int mod_latches, .int mod_outputs, .ref a_mod_sort, .ref a_mod_number, .ref a_mod_value, .ref a_mod_made, .ref a_mod_to, .ref a_mod_from, .ref a_mod_outputOf, .ref a_mod_negated, .int mod_explored, .ref a_mod_settles, .ref a_mod_next, .ref a_mod_ones, .ref a_mod_distance, .ref a_mod_apart, .ref a_mod_leads])), (a_mod_settles, .inl (cZ, 4096, .inl mod_settles)), (a_mod_next, .inl (cI, 4096, .inl mod_next)), (a_mod_distance, .inl (cI, 256, .inl mod_distance)), (a_mod_leads, .inl (cZ, 65536, .inl mod_leads))] s.heap.size = A at hD hX ⊢
  have hA : ∀ q : Nat, s.heap.size ≤ q → A q := fun q h => by rw [← hAe]; exact Or.inr h
  have hS : va_S A s.heap s.heap [] := va_S.rf
  have hl := lv_entry ([.ref h_mod, .int p0, .int p1]) (n := 7) (Nat.le_of_ble_eq_true rfl)
  rw [lg_entry_eq]
  generalize (lg_sl ([.ref h_mod, .int p0, .int p1]) ++ List.replicate (7 - (lg_sl ([.ref h_mod, .int p0, .int p1])).length) Slot.unset).toArray = ls at hl ⊢
  have hl : lv_has ls 7 [(0, .ref h_mod), (1, .int p0), (2, .int p1)] := hl
  have C0 : sx_C p s m _ meth c cMod_way 7 "StateExplorerModel" A (dC, dI) [(cI, .int), (cL, .long), (cZ, .boolean)] t1 t2 := ⟨hx, hb, hml, hown, hts, hA, hK, hlocks, hX⟩
  rw [m_Mod_way] at hm
  refine lv_aload_n hx hb dMod_way_0 rfl (lv_at hl 0 rfl) ?_
  refine lv_aload_n hx hb dMod_way_1 rfl (lv_at hl 0 rfl) ?_
  refine va_get (D := (dC, dI)) (ci := 5) (v := .int mod_explored) (C := RMod) (T := TMod) (N := 21) hx hb hts inMod hown hK hP 0 rfl rfl 14 (by decide) (hts _ tw_625) (fun _ h9 => h9) rfl dMod_way_2 ?_
  obtain ⟨J1, hJ1, hm⟩ := sx_lj hm
  have jJ1 : ∀ (z0J1 : Int32), J1 z0J1 = some v → ∀ (ls : Array Slot), lv_has ls 7 [(0, .ref h_mod), (1, .int p0), (2, .int p1)] → W p l e (headSpec wsMod_way rm_Mod_way).room s m ([.ref h_mod, .int p0, .int p1]).toArray below meth c s.heap [] 0 0 (MQ below (va_Qi (fun (r : Int32) (_ : Unit) => r = v.1) (fun _ t => sx_W (dC, dI) [(cI, .int), (cL, .long), (cZ, .boolean)] A [(h_mod, .inr (5, [.int v.2.1, .int mod_gates, .int mod_feeds, .int mod_inputs, .int mod_latches, .int mod_outputs, .ref a_mod_sort, .ref a_mod_number, .ref a_mod_value, .ref a_mod_made, .ref a_mod_to, .ref a_mod_from, .ref a_mod_outputOf, .ref a_mod_negated, .int mod_explored, .ref a_mod_settles, .ref a_mod_next, .ref a_mod_ones, .ref a_mod_distance, .ref a_mod_apart, .ref a_mod_leads])), (a_mod_settles, .inl (cZ, 4096, .inl mod_settles)), (a_mod_next, .inl (cI, 4096, .inl mod_next)), (a_mod_distance, .inl (cI, 256, .inl mod_distance)), (a_mod_leads, .inl (cZ, 65536, .inl v.2.2))] t) A) ([.ref h_mod, .int p0, .int p1]).toArray s 0 0 A) (F0 m 13 ls [.int z0J1, .ref h_mod]) := by
    intro z0J1 hm ls hl
    rw [hJ1] at hm
    dsimp only at hm
    refine lv_aload_n hx hb dMod_way_13 rfl (lv_at hl 0 rfl) ?_
    refine lv_iload_n hx hb dMod_way_14 rfl (lv_at hl 1 rfl) ?_
    obtain ⟨v2, hv2, hm⟩ := sx_bind hm
    have hPc := hP.sub (ws' := [(h_mod, .inr (5, [.int mod_code, .int mod_gates, .int mod_feeds, .int mod_inputs, .int mod_latches, .int mod_outputs, .ref a_mod_sort, .ref a_mod_number, .ref a_mod_value, .ref a_mod_made, .ref a_mod_to, .ref a_mod_from, .ref a_mod_outputOf, .ref a_mod_negated, .int mod_explored, .ref a_mod_settles, .ref a_mod_next, .ref a_mod_ones, .ref a_mod_distance, .ref a_mod_apart, .ref a_mod_leads]))]) [0] rfl
    have hDc := hD.sub (ws' := [(h_mod, .inr (5, [.int mod_code, .int mod_gates, .int mod_feeds, .int mod_inputs, .int mod_latches, .int mod_outputs, .ref a_mod_sort, .ref a_mod_number, .ref a_mod_value, .ref a_mod_made, .ref a_mod_to, .ref a_mod_from, .ref a_mod_outputOf, .ref a_mod_negated, .int mod_explored, .ref a_mod_settles, .ref a_mod_next, .ref a_mod_ones, .ref a_mod_distance, .ref a_mod_apart, .ref a_mod_leads]))]) [0] (by decide) rfl
    have hFc := va_free (wc := [(h_mod, .inr (5, [.int mod_code, .int mod_gates, .int mod_feeds, .int mod_inputs, .int mod_latches, .int mod_outputs, .ref a_mod_sort, .ref a_mod_number, .ref a_mod_value, .ref a_mod_made, .ref a_mod_to, .ref a_mod_from, .ref a_mod_outputOf, .ref a_mod_negated, .int mod_explored, .ref a_mod_settles, .ref a_mod_next, .ref a_mod_ones, .ref a_mod_distance, .ref a_mod_apart, .ref a_mod_leads]))]) hD hS hA [0] rfl
    refine sx_stI (va_runV (As := [.int p0]) (rest := [.int z0J1, .ref h_mod]) ⟨hx, hb, hml, hown, hts⟩ (k_Mod_isState l dC dI cI cL cZ t1 t2 h_mod a_mod_sort a_mod_number a_mod_value a_mod_made a_mod_to a_mod_from a_mod_outputOf a_mod_negated a_mod_settles a_mod_next a_mod_ones a_mod_distance a_mod_apart a_mod_leads mod_code mod_gates mod_feeds mod_inputs mod_latches mod_outputs mod_explored _ p0 v2 hv2) (cwV 1 hts (sx_gV tw_748 tw_750 tw_31 tw_41 tcMod_isState) rfl rfl rfl (by decide +kernel) ⟨Nat.le_of_ble_eq_true rfl, Nat.le_of_ble_eq_true rfl⟩) (sx_pV hK hX hS hPc hDc hFc (va_recv hK hPc (ci := 5) (q0 := 0) rfl rfl)) rfl rfl hl.1 rfl (lv_room (Nat.le_of_ble_eq_true rfl)) dMod_way_15 ⟨Nat.le_of_ble_eq_true rfl, Nat.le_of_ble_eq_true rfl⟩) ?_
    obtain ⟨J4, hJ4, hm⟩ := sx_lj hm
    have jJ4 : ∀ (z0J4 : Int32) (z1J4 : Int32), J4 z0J4 z1J4 = some v → ∀ (ls : Array Slot), lv_has ls 7 [(0, .ref h_mod), (1, .int p0), (2, .int p1)] → W p l e (headSpec wsMod_way rm_Mod_way).room s m ([.ref h_mod, .int p0, .int p1]).toArray below meth c s.heap [] 0 0 (MQ below (va_Qi (fun (r : Int32) (_ : Unit) => r = v.1) (fun _ t => sx_W (dC, dI) [(cI, .int), (cL, .long), (cZ, .boolean)] A [(h_mod, .inr (5, [.int v.2.1, .int mod_gates, .int mod_feeds, .int mod_inputs, .int mod_latches, .int mod_outputs, .ref a_mod_sort, .ref a_mod_number, .ref a_mod_value, .ref a_mod_made, .ref a_mod_to, .ref a_mod_from, .ref a_mod_outputOf, .ref a_mod_negated, .int mod_explored, .ref a_mod_settles, .ref a_mod_next, .ref a_mod_ones, .ref a_mod_distance, .ref a_mod_apart, .ref a_mod_leads])), (a_mod_settles, .inl (cZ, 4096, .inl mod_settles)), (a_mod_next, .inl (cI, 4096, .inl mod_next)), (a_mod_distance, .inl (cI, 256, .inl mod_distance)), (a_mod_leads, .inl (cZ, 65536, .inl v.2.2))] t) A) ([.ref h_mod, .int p0, .int p1]).toArray s 0 0 A) (F0 m 26 ls [.int z0J4, .int z1J4, .ref h_mod]) := by
      intro z0J4 z1J4 hm ls hl
      rw [hJ4] at hm
      dsimp only at hm
      obtain ⟨v5, hv5, hm⟩ := sx_bind hm
      have hPc := hP.sub (ws' := [(h_mod, .inr (5, [.int mod_code, .int mod_gates, .int mod_feeds, .int mod_inputs, .int mod_latches, .int mod_outputs, .ref a_mod_sort, .ref a_mod_number, .ref a_mod_value, .ref a_mod_made, .ref a_mod_to, .ref a_mod_from, .ref a_mod_outputOf, .ref a_mod_negated, .int mod_explored, .ref a_mod_settles, .ref a_mod_next, .ref a_mod_ones, .ref a_mod_distance, .ref a_mod_apart, .ref a_mod_leads]))]) [0] rfl
      have hDc := hD.sub (ws' := [(h_mod, .inr (5, [.int mod_code, .int mod_gates, .int mod_feeds, .int mod_inputs, .int mod_latches, .int mod_outputs, .ref a_mod_sort, .ref a_mod_number, .ref a_mod_value, .ref a_mod_made, .ref a_mod_to, .ref a_mod_from, .ref a_mod_outputOf, .ref a_mod_negated, .int mod_explored, .ref a_mod_settles, .ref a_mod_next, .ref a_mod_ones, .ref a_mod_distance, .ref a_mod_apart, .ref a_mod_leads]))]) [0] (by decide) rfl
      have hFc := va_free (wc := [(h_mod, .inr (5, [.int mod_code, .int mod_gates, .int mod_feeds, .int mod_inputs, .int mod_latches, .int mod_outputs, .ref a_mod_sort, .ref a_mod_number, .ref a_mod_value, .ref a_mod_made, .ref a_mod_to, .ref a_mod_from, .ref a_mod_outputOf, .ref a_mod_negated, .int mod_explored, .ref a_mod_settles, .ref a_mod_next, .ref a_mod_ones, .ref a_mod_distance, .ref a_mod_apart, .ref a_mod_leads]))]) hD hS hA [0] rfl
      refine va_calli (va_runV (As := [.int z1J4, .int z0J4]) (rest := []) ⟨hx, hb, hml, hown, hts⟩ (k_Mod_fails l dC dI cI cL cZ t1 t2 h_mod a_mod_sort a_mod_number a_mod_value a_mod_made a_mod_to a_mod_from a_mod_outputOf a_mod_negated a_mod_settles a_mod_next a_mod_ones a_mod_distance a_mod_apart a_mod_leads mod_code mod_gates mod_feeds mod_inputs mod_latches mod_outputs mod_explored _ z1J4 z0J4 v5 hv5) (cwV 2 hts (sx_gV tw_680 tw_682 tw_19 tw_41 tcMod_fails) rfl rfl rfl (by decide +kernel) ⟨Nat.le_of_ble_eq_true rfl, Nat.le_of_ble_eq_true rfl⟩) (sx_pV hK hX hS hPc hDc hFc (va_recv hK hPc (ci := 5) (q0 := 0) rfl rfl)) rfl rfl hl.1 rfl (lv_room (Nat.le_of_ble_eq_true rfl)) dMod_way_26 ⟨Nat.le_of_ble_eq_true rfl, Nat.le_of_ble_eq_true rfl⟩) hS (fun q _ h => hFc q h) hFc (fun r6 u_ t_ H locs ht hvm hw hB hz1 hk1 hS => ?_)
      obtain ⟨hP1, -, hD1⟩ := hB
      rw [ht] at hP1
      obtain ⟨hP, hD⟩ := va_join (wr := [(a_mod_settles, .inl (cZ, 4096, .inl mod_settles)), (a_mod_next, .inl (cI, 4096, .inl mod_next)), (a_mod_distance, .inl (cI, 256, .inl mod_distance)), (a_mod_leads, .inl (cZ, 65536, .inl mod_leads))]) (w1 := [(h_mod, .inr (5, [.int v5.2, .int mod_gates, .int mod_feeds, .int mod_inputs, .int mod_latches, .int mod_outputs, .ref a_mod_sort, .ref a_mod_number, .ref a_mod_value, .ref a_mod_made, .ref a_mod_to, .ref a_mod_from, .ref a_mod_outputOf, .ref a_mod_negated, .int mod_explored, .ref a_mod_settles, .ref a_mod_next, .ref a_mod_ones, .ref a_mod_distance, .ref a_mod_apart, .ref a_mod_leads]))]) hP hD [0] [1, 2, 3, 4] rfl rfl (by decide) (by decide) hk1 hFc hP1 hD1
      have hP : va_P (dC, dI) vwCl [(a_mod_settles, .inl (cZ, 4096, .inl mod_settles)), (a_mod_next, .inl (cI, 4096, .inl mod_next)), (a_mod_distance, .inl (cI, 256, .inl mod_distance)), (a_mod_leads, .inl (cZ, 65536, .inl mod_leads)), (h_mod, .inr (5, [.int v5.2, .int mod_gates, .int mod_feeds, .int mod_inputs, .int mod_latches, .int mod_outputs, .ref a_mod_sort, .ref a_mod_number, .ref a_mod_value, .ref a_mod_made, .ref a_mod_to, .ref a_mod_from, .ref a_mod_outputOf, .ref a_mod_negated, .int mod_explored, .ref a_mod_settles, .ref a_mod_next, .ref a_mod_ones, .ref a_mod_distance, .ref a_mod_apart, .ref a_mod_leads]))] H := hP
      have hD : va_D A [(a_mod_settles, .inl (cZ, 4096, .inl mod_settles)), (a_mod_next, .inl (cI, 4096, .inl mod_next)), (a_mod_distance, .inl (cI, 256, .inl mod_distance)), (a_mod_leads, .inl (cZ, 65536, .inl mod_leads)), (h_mod, .inr (5, [.int v5.2, .int mod_gates, .int mod_feeds, .int mod_inputs, .int mod_latches, .int mod_outputs, .ref a_mod_sort, .ref a_mod_number, .ref a_mod_value, .ref a_mod_made, .ref a_mod_to, .ref a_mod_from, .ref a_mod_outputOf, .ref a_mod_negated, .int mod_explored, .ref a_mod_settles, .ref a_mod_next, .ref a_mod_ones, .ref a_mod_distance, .ref a_mod_apart, .ref a_mod_leads]))] := hD
      have hw9 := hw.symm
      subst hw9
      refine lv_if_eq (tgt := 34) hx hb dMod_way_29 (by decide) (fun c7 => ?_) (fun c7 => ?_)
      · have hm := sx_pos c7 hm
        refine lv_aload_n hx hb dMod_way_34 rfl (lv_at hl 0 rfl) ?_
        refine va_get (D := (dC, dI)) (ci := 5) (v := .ref a_mod_distance) (C := RMod) (T := TMod) (N := 21) hx hb hts inMod hown hK hP 4 rfl rfl 18 (by decide) (hts _ tw_629) (fun _ h9 => h9) rfl dMod_way_35 ?_
        refine lv_iload_n hx hb dMod_way_38 rfl (lv_at hl 1 rfl) ?_
        obtain ⟨g8, hm⟩ := gd_el hm
        refine va_iald hx hb hK hP 2 0 rfl rfl g8 dMod_way_39 ?_
        refine lv_istore_n (lv' := [(3, .int (mod_distance p0.toNatClampNeg)), (0, .ref h_mod), (1, .int p0), (2, .int p1)]) hx hb dMod_way_40 rfl hl (by decide) rfl (fun ls hl => ?_)
        refine lv_iload_n hx hb dMod_way_41 rfl (lv_at hl 3 rfl) ?_
        refine lv_if_lt (tgt := 50) hx hb dMod_way_42 (by decide) (fun c9 => ?_) (fun c9 => ?_)
        · have hm := sx_pos c9 hm
          refine lv_iconst (v := (-1 : Int32)) hx hb dMod_way_50 (by decide) ?_
          obtain rfl := Option.some.inj hm
          exact W.iret (v := (-1 : Int32)) hx hb hr (fun t ht hW => ⟨⟨(-1 : Int32), (), rfl, rfl, sx_Wi (hP.sub (ws' := [(h_mod, .inr (5, [.int v5.2, .int mod_gates, .int mod_feeds, .int mod_inputs, .int mod_latches, .int mod_outputs, .ref a_mod_sort, .ref a_mod_number, .ref a_mod_value, .ref a_mod_made, .ref a_mod_to, .ref a_mod_from, .ref a_mod_outputOf, .ref a_mod_negated, .int mod_explored, .ref a_mod_settles, .ref a_mod_next, .ref a_mod_ones, .ref a_mod_distance, .ref a_mod_apart, .ref a_mod_leads])), (a_mod_settles, .inl (cZ, 4096, .inl mod_settles)), (a_mod_next, .inl (cI, 4096, .inl mod_next)), (a_mod_distance, .inl (cI, 256, .inl mod_distance)), (a_mod_leads, .inl (cZ, 65536, .inl mod_leads))]) [4, 0, 1, 2, 3] rfl) hK (hD.sub (ws' := [(h_mod, .inr (5, [.int v5.2, .int mod_gates, .int mod_feeds, .int mod_inputs, .int mod_latches, .int mod_outputs, .ref a_mod_sort, .ref a_mod_number, .ref a_mod_value, .ref a_mod_made, .ref a_mod_to, .ref a_mod_from, .ref a_mod_outputOf, .ref a_mod_negated, .int mod_explored, .ref a_mod_settles, .ref a_mod_next, .ref a_mod_ones, .ref a_mod_distance, .ref a_mod_apart, .ref a_mod_leads])), (a_mod_settles, .inl (cZ, 4096, .inl mod_settles)), (a_mod_next, .inl (cI, 4096, .inl mod_next)), (a_mod_distance, .inl (cI, 256, .inl mod_distance)), (a_mod_leads, .inl (cZ, 65536, .inl mod_leads))]) [4, 0, 1, 2, 3] (by decide) rfl) ht hW.alike⟩, hS.F ht⟩) hS.2.2 dMod_way_51
        · have hm := sx_neg c9 hm
          refine lv_iload_n hx hb dMod_way_45 rfl (lv_at hl 3 rfl) ?_
          refine lv_iload_n hx hb dMod_way_46 rfl (lv_at hl 0 rfl) ?_
          refine lv_icmp_lt (tgt := 52) hx hb dMod_way_47 (by decide) (fun c10 => ?_) (fun c10 => ?_)
          · have hm := sx_pos c10 hm
            refine lv_aload_n hx hb dMod_way_52 rfl (lv_at hl 1 rfl) ?_
            refine lv_iload_n hx hb dMod_way_53 rfl (lv_at hl 2 rfl) ?_
            refine lv_iload_n hx hb dMod_way_54 rfl (lv_at hl 0 rfl) ?_
            obtain ⟨v11, hv11, hm⟩ := sx_bind hm
            have hPc := hP.sub (ws' := [(h_mod, .inr (5, [.int v5.2, .int mod_gates, .int mod_feeds, .int mod_inputs, .int mod_latches, .int mod_outputs, .ref a_mod_sort, .ref a_mod_number, .ref a_mod_value, .ref a_mod_made, .ref a_mod_to, .ref a_mod_from, .ref a_mod_outputOf, .ref a_mod_negated, .int mod_explored, .ref a_mod_settles, .ref a_mod_next, .ref a_mod_ones, .ref a_mod_distance, .ref a_mod_apart, .ref a_mod_leads])), (a_mod_settles, .inl (cZ, 4096, .inl mod_settles)), (a_mod_next, .inl (cI, 4096, .inl mod_next)), (a_mod_leads, .inl (cZ, 65536, .inl mod_leads))]) [4, 0, 1, 3] rfl
            have hDc := hD.sub (ws' := [(h_mod, .inr (5, [.int v5.2, .int mod_gates, .int mod_feeds, .int mod_inputs, .int mod_latches, .int mod_outputs, .ref a_mod_sort, .ref a_mod_number, .ref a_mod_value, .ref a_mod_made, .ref a_mod_to, .ref a_mod_from, .ref a_mod_outputOf, .ref a_mod_negated, .int mod_explored, .ref a_mod_settles, .ref a_mod_next, .ref a_mod_ones, .ref a_mod_distance, .ref a_mod_apart, .ref a_mod_leads])), (a_mod_settles, .inl (cZ, 4096, .inl mod_settles)), (a_mod_next, .inl (cI, 4096, .inl mod_next)), (a_mod_leads, .inl (cZ, 65536, .inl mod_leads))]) [4, 0, 1, 3] (by decide) rfl
            have hFc := va_free (wc := [(h_mod, .inr (5, [.int v5.2, .int mod_gates, .int mod_feeds, .int mod_inputs, .int mod_latches, .int mod_outputs, .ref a_mod_sort, .ref a_mod_number, .ref a_mod_value, .ref a_mod_made, .ref a_mod_to, .ref a_mod_from, .ref a_mod_outputOf, .ref a_mod_negated, .int mod_explored, .ref a_mod_settles, .ref a_mod_next, .ref a_mod_ones, .ref a_mod_distance, .ref a_mod_apart, .ref a_mod_leads])), (a_mod_settles, .inl (cZ, 4096, .inl mod_settles)), (a_mod_next, .inl (cI, 4096, .inl mod_next)), (a_mod_leads, .inl (cZ, 65536, .inl mod_leads))]) hD hS hA [4, 0, 1, 3] rfl
            refine va_callv (va_runV (As := [.int p0, .int (mod_distance p0.toNatClampNeg)]) (rest := []) ⟨hx, hb, hml, hown, hts⟩ (k_Mod_lead l dC dI cI cL cZ t1 t2 h_mod a_mod_sort a_mod_number a_mod_value a_mod_made a_mod_to a_mod_from a_mod_outputOf a_mod_negated a_mod_settles a_mod_next a_mod_ones a_mod_distance a_mod_apart a_mod_leads v5.2 mod_gates mod_feeds mod_inputs mod_latches mod_outputs mod_explored mod_settles mod_next mod_leads _ p0 (mod_distance p0.toNatClampNeg) v11 hv11) (cwV 2 hts (sx_gV tw_756 tw_758 tw_32 tw_41 tcMod_lead) rfl rfl rfl (by decide +kernel) ⟨Nat.le_of_ble_eq_true rfl, Nat.le_of_ble_eq_true rfl⟩) (sx_pV hK hX hS hPc hDc hFc (va_recv hK hPc (ci := 5) (q0 := 0) rfl rfl)) rfl rfl hl.1 rfl (lv_room (Nat.le_of_ble_eq_true rfl)) dMod_way_55 ⟨Nat.le_of_ble_eq_true rfl, Nat.le_of_ble_eq_true rfl⟩) hS (fun q _ h => hFc q h) hFc (fun u_ t_ H locs ht hvm hw hB hz1 hk1 hS => ?_)
            obtain ⟨hP1, -, hD1⟩ := hB
            rw [ht] at hP1
            obtain ⟨hP, hD⟩ := va_join (wr := [(a_mod_distance, .inl (cI, 256, .inl mod_distance))]) (w1 := [(h_mod, .inr (5, [.int v5.2, .int mod_gates, .int mod_feeds, .int mod_inputs, .int mod_latches, .int mod_outputs, .ref a_mod_sort, .ref a_mod_number, .ref a_mod_value, .ref a_mod_made, .ref a_mod_to, .ref a_mod_from, .ref a_mod_outputOf, .ref a_mod_negated, .int mod_explored, .ref a_mod_settles, .ref a_mod_next, .ref a_mod_ones, .ref a_mod_distance, .ref a_mod_apart, .ref a_mod_leads])), (a_mod_settles, .inl (cZ, 4096, .inl mod_settles)), (a_mod_next, .inl (cI, 4096, .inl mod_next)), (a_mod_leads, .inl (cZ, 65536, .inl v11))]) hP hD [4, 0, 1, 3] [2] rfl rfl (by decide) (by decide) hk1 hFc hP1 hD1
            have hP : va_P (dC, dI) vwCl [(a_mod_distance, .inl (cI, 256, .inl mod_distance)), (h_mod, .inr (5, [.int v5.2, .int mod_gates, .int mod_feeds, .int mod_inputs, .int mod_latches, .int mod_outputs, .ref a_mod_sort, .ref a_mod_number, .ref a_mod_value, .ref a_mod_made, .ref a_mod_to, .ref a_mod_from, .ref a_mod_outputOf, .ref a_mod_negated, .int mod_explored, .ref a_mod_settles, .ref a_mod_next, .ref a_mod_ones, .ref a_mod_distance, .ref a_mod_apart, .ref a_mod_leads])), (a_mod_settles, .inl (cZ, 4096, .inl mod_settles)), (a_mod_next, .inl (cI, 4096, .inl mod_next)), (a_mod_leads, .inl (cZ, 65536, .inl v11))] H := hP
            have hD : va_D A [(a_mod_distance, .inl (cI, 256, .inl mod_distance)), (h_mod, .inr (5, [.int v5.2, .int mod_gates, .int mod_feeds, .int mod_inputs, .int mod_latches, .int mod_outputs, .ref a_mod_sort, .ref a_mod_number, .ref a_mod_value, .ref a_mod_made, .ref a_mod_to, .ref a_mod_from, .ref a_mod_outputOf, .ref a_mod_negated, .int mod_explored, .ref a_mod_settles, .ref a_mod_next, .ref a_mod_ones, .ref a_mod_distance, .ref a_mod_apart, .ref a_mod_leads])), (a_mod_settles, .inl (cZ, 4096, .inl mod_settles)), (a_mod_next, .inl (cI, 4096, .inl mod_next)), (a_mod_leads, .inl (cZ, 65536, .inl v11))] := hD
            refine lv_iconst (v := (0 : Int32)) hx hb dMod_way_58 (by decide) ?_
            refine lv_istore (lv' := [(4, .int (0 : Int32)), (3, .int (mod_distance p0.toNatClampNeg)), (0, .ref h_mod), (1, .int p0), (2, .int p1)]) hx hb dMod_way_59 hl (by decide) rfl (fun ls hl => ?_)
            refine lv_iconst (v := (0 : Int32)) hx hb dMod_way_61 (by decide) ?_
            refine lv_istore (lv' := [(5, .int (0 : Int32)), (4, .int (0 : Int32)), (3, .int (mod_distance p0.toNatClampNeg)), (0, .ref h_mod), (1, .int p0), (2, .int p1)]) hx hb dMod_way_62 hl (by decide) rfl (fun ls hl => ?_)
            refine lv_iconst (v := (0 : Int32)) hx hb dMod_way_64 (by decide) ?_
            refine lv_istore (lv' := [(6, .int (0 : Int32)), (5, .int (0 : Int32)), (4, .int (0 : Int32)), (3, .int (mod_distance p0.toNatClampNeg)), (0, .ref h_mod), (1, .int p0), (2, .int p1)]) hx hb dMod_way_65 hl (by decide) rfl (fun ls hl => ?_)
            obtain ⟨v21, hv21, hm⟩ := sx_bind hm
            refine w_Mod_way_67 C0 h_mod a_mod_sort a_mod_number a_mod_value a_mod_made a_mod_to a_mod_from a_mod_outputOf a_mod_negated a_mod_settles a_mod_next a_mod_ones a_mod_distance a_mod_apart a_mod_leads v5.2 mod_gates mod_feeds mod_inputs mod_latches mod_outputs mod_explored mod_settles mod_next mod_distance v11 p1 (mod_distance p0.toNatClampNeg) (hP.sub (ws' := [(h_mod, .inr (5, [.int v5.2, .int mod_gates, .int mod_feeds, .int mod_inputs, .int mod_latches, .int mod_outputs, .ref a_mod_sort, .ref a_mod_number, .ref a_mod_value, .ref a_mod_made, .ref a_mod_to, .ref a_mod_from, .ref a_mod_outputOf, .ref a_mod_negated, .int mod_explored, .ref a_mod_settles, .ref a_mod_next, .ref a_mod_ones, .ref a_mod_distance, .ref a_mod_apart, .ref a_mod_leads])), (a_mod_settles, .inl (cZ, 4096, .inl mod_settles)), (a_mod_next, .inl (cI, 4096, .inl mod_next)), (a_mod_distance, .inl (cI, 256, .inl mod_distance)), (a_mod_leads, .inl (cZ, 65536, .inl v11))]) [1, 2, 3, 0, 4] rfl) (hD.sub (ws' := [(h_mod, .inr (5, [.int v5.2, .int mod_gates, .int mod_feeds, .int mod_inputs, .int mod_latches, .int mod_outputs, .ref a_mod_sort, .ref a_mod_number, .ref a_mod_value, .ref a_mod_made, .ref a_mod_to, .ref a_mod_from, .ref a_mod_outputOf, .ref a_mod_negated, .int mod_explored, .ref a_mod_settles, .ref a_mod_next, .ref a_mod_ones, .ref a_mod_distance, .ref a_mod_apart, .ref a_mod_leads])), (a_mod_settles, .inl (cZ, 4096, .inl mod_settles)), (a_mod_next, .inl (cI, 4096, .inl mod_next)), (a_mod_distance, .inl (cI, 256, .inl mod_distance)), (a_mod_leads, .inl (cZ, 65536, .inl v11))]) [1, 2, 3, 0, 4] (by decide) rfl) hS _ (0 : Int32) (0 : Int32) (0 : Int32) v21 hv21 _ (lv_sub hl [4, 6, 3, 2, 1, 0] rfl) ?_
            intro ls hl
            refine lv_iload hx hb dMod_way_151 (lv_at hl 0 rfl) ?_
            obtain rfl := Option.some.inj hm
            exact W.iret (v := v21) hx hb hr (fun t ht hW => ⟨⟨v21, (), rfl, rfl, sx_Wi (hP.sub (ws' := [(h_mod, .inr (5, [.int v5.2, .int mod_gates, .int mod_feeds, .int mod_inputs, .int mod_latches, .int mod_outputs, .ref a_mod_sort, .ref a_mod_number, .ref a_mod_value, .ref a_mod_made, .ref a_mod_to, .ref a_mod_from, .ref a_mod_outputOf, .ref a_mod_negated, .int mod_explored, .ref a_mod_settles, .ref a_mod_next, .ref a_mod_ones, .ref a_mod_distance, .ref a_mod_apart, .ref a_mod_leads])), (a_mod_settles, .inl (cZ, 4096, .inl mod_settles)), (a_mod_next, .inl (cI, 4096, .inl mod_next)), (a_mod_distance, .inl (cI, 256, .inl mod_distance)), (a_mod_leads, .inl (cZ, 65536, .inl v11))]) [1, 2, 3, 0, 4] rfl) hK (hD.sub (ws' := [(h_mod, .inr (5, [.int v5.2, .int mod_gates, .int mod_feeds, .int mod_inputs, .int mod_latches, .int mod_outputs, .ref a_mod_sort, .ref a_mod_number, .ref a_mod_value, .ref a_mod_made, .ref a_mod_to, .ref a_mod_from, .ref a_mod_outputOf, .ref a_mod_negated, .int mod_explored, .ref a_mod_settles, .ref a_mod_next, .ref a_mod_ones, .ref a_mod_distance, .ref a_mod_apart, .ref a_mod_leads])), (a_mod_settles, .inl (cZ, 4096, .inl mod_settles)), (a_mod_next, .inl (cI, 4096, .inl mod_next)), (a_mod_distance, .inl (cI, 256, .inl mod_distance)), (a_mod_leads, .inl (cZ, 65536, .inl v11))]) [1, 2, 3, 0, 4] (by decide) rfl) ht hW.alike⟩, hS.F ht⟩) hS.2.2 dMod_way_153
          · have hm := sx_neg c10 hm
            refine lv_iconst (v := (-1 : Int32)) hx hb dMod_way_50 (by decide) ?_
            obtain rfl := Option.some.inj hm
            exact W.iret (v := (-1 : Int32)) hx hb hr (fun t ht hW => ⟨⟨(-1 : Int32), (), rfl, rfl, sx_Wi (hP.sub (ws' := [(h_mod, .inr (5, [.int v5.2, .int mod_gates, .int mod_feeds, .int mod_inputs, .int mod_latches, .int mod_outputs, .ref a_mod_sort, .ref a_mod_number, .ref a_mod_value, .ref a_mod_made, .ref a_mod_to, .ref a_mod_from, .ref a_mod_outputOf, .ref a_mod_negated, .int mod_explored, .ref a_mod_settles, .ref a_mod_next, .ref a_mod_ones, .ref a_mod_distance, .ref a_mod_apart, .ref a_mod_leads])), (a_mod_settles, .inl (cZ, 4096, .inl mod_settles)), (a_mod_next, .inl (cI, 4096, .inl mod_next)), (a_mod_distance, .inl (cI, 256, .inl mod_distance)), (a_mod_leads, .inl (cZ, 65536, .inl mod_leads))]) [4, 0, 1, 2, 3] rfl) hK (hD.sub (ws' := [(h_mod, .inr (5, [.int v5.2, .int mod_gates, .int mod_feeds, .int mod_inputs, .int mod_latches, .int mod_outputs, .ref a_mod_sort, .ref a_mod_number, .ref a_mod_value, .ref a_mod_made, .ref a_mod_to, .ref a_mod_from, .ref a_mod_outputOf, .ref a_mod_negated, .int mod_explored, .ref a_mod_settles, .ref a_mod_next, .ref a_mod_ones, .ref a_mod_distance, .ref a_mod_apart, .ref a_mod_leads])), (a_mod_settles, .inl (cZ, 4096, .inl mod_settles)), (a_mod_next, .inl (cI, 4096, .inl mod_next)), (a_mod_distance, .inl (cI, 256, .inl mod_distance)), (a_mod_leads, .inl (cZ, 65536, .inl mod_leads))]) [4, 0, 1, 2, 3] (by decide) rfl) ht hW.alike⟩, hS.F ht⟩) hS.2.2 dMod_way_51
      · have hm := sx_neg c7 hm
        refine lv_iconst (v := (0 : Int32)) hx hb dMod_way_32 (by decide) ?_
        obtain rfl := Option.some.inj hm
        exact W.iret (v := (0 : Int32)) hx hb hr (fun t ht hW => ⟨⟨(0 : Int32), (), rfl, rfl, sx_Wi (hP.sub (ws' := [(h_mod, .inr (5, [.int v5.2, .int mod_gates, .int mod_feeds, .int mod_inputs, .int mod_latches, .int mod_outputs, .ref a_mod_sort, .ref a_mod_number, .ref a_mod_value, .ref a_mod_made, .ref a_mod_to, .ref a_mod_from, .ref a_mod_outputOf, .ref a_mod_negated, .int mod_explored, .ref a_mod_settles, .ref a_mod_next, .ref a_mod_ones, .ref a_mod_distance, .ref a_mod_apart, .ref a_mod_leads])), (a_mod_settles, .inl (cZ, 4096, .inl mod_settles)), (a_mod_next, .inl (cI, 4096, .inl mod_next)), (a_mod_distance, .inl (cI, 256, .inl mod_distance)), (a_mod_leads, .inl (cZ, 65536, .inl mod_leads))]) [4, 0, 1, 2, 3] rfl) hK (hD.sub (ws' := [(h_mod, .inr (5, [.int v5.2, .int mod_gates, .int mod_feeds, .int mod_inputs, .int mod_latches, .int mod_outputs, .ref a_mod_sort, .ref a_mod_number, .ref a_mod_value, .ref a_mod_made, .ref a_mod_to, .ref a_mod_from, .ref a_mod_outputOf, .ref a_mod_negated, .int mod_explored, .ref a_mod_settles, .ref a_mod_next, .ref a_mod_ones, .ref a_mod_distance, .ref a_mod_apart, .ref a_mod_leads])), (a_mod_settles, .inl (cZ, 4096, .inl mod_settles)), (a_mod_next, .inl (cI, 4096, .inl mod_next)), (a_mod_distance, .inl (cI, 256, .inl mod_distance)), (a_mod_leads, .inl (cZ, 65536, .inl mod_leads))]) [4, 0, 1, 2, 3] (by decide) rfl) ht hW.alike⟩, hS.F ht⟩) hS.2.2 dMod_way_33
    refine lv_if_ne (tgt := 25) hx hb dMod_way_18 (by decide) (fun c22 => ?_) (fun c22 => ?_)
    · have hm := sx_neg c22 hm
      refine lv_iconst (v := (0 : Int32)) hx hb dMod_way_25 (by decide) ?_
      exact jJ4 (0 : Int32) z0J1 hm _ (hl)
    · have hm := sx_pos c22 hm
      refine lv_iconst (v := (1 : Int32)) hx hb dMod_way_21 (by decide) ?_
      refine lv_goto (tgt := 26) hx hb dMod_way_22 (by decide) ?_
      exact jJ4 (1 : Int32) z0J1 hm _ (hl)
  refine lv_if_ne (tgt := 12) hx hb dMod_way_5 (by decide) (fun c23 => ?_) (fun c23 => ?_)
  · have hm := sx_neg c23 hm
    refine lv_iconst (v := (0 : Int32)) hx hb dMod_way_12 (by decide) ?_
    exact jJ1 (0 : Int32) hm _ (hl)
  · have hm := sx_pos c23 hm
    refine lv_iconst (v := (1 : Int32)) hx hb dMod_way_8 (by decide) ?_
    refine lv_goto (tgt := 13) hx hb dMod_way_9 (by decide) ?_
    exact jJ1 (1 : Int32) hm _ (hl)
noncomputable def L_Mod_many_26 (mod_latches : Int32) (mod_distance : Nat → Int32) (x1 : Int32) : Nat → Int32 → Int32 → Option (Int32)
  | 0, _, _ => none
  | n + 1, x2, x3 => (m_Mod_states mod_latches).bind (fun v5 => (if v5 ≤ x3 then some x2 else (if x1 < (0 : Int32) then some x2 else gd (vp_in x3 256) ((if mod_distance x3.toNatClampNeg = x1 then (L_Mod_many_26 mod_latches mod_distance x1 n (x2 + (1 : Int32)) (x3 + (1 : Int32))) else (L_Mod_many_26 mod_latches mod_distance x1 n x2 (x3 + (1 : Int32))))))))
noncomputable def m_Mod_many (mod_code mod_latches mod_explored : Int32) (mod_distance : Nat → Int32) (p0 : Int32) : Option (Int32 × Int32) := (sx_let (fun (z0J1 : Int32) => (m_Mod_fails mod_code z0J1 (0 : Int32)).bind (fun v2 => (if v2.1 = (0 : Int32) then ((L_Mod_many_26 mod_latches mod_distance p0 fu (0 : Int32) (0 : Int32)).bind (fun v11 => some (v11, v2.2))) else some ((0 : Int32), v2.2)))) (fun J1 => (if mod_explored = (0 : Int32) then (J1 (1 : Int32)) else (J1 (0 : Int32)))))
def rm_Mod_many : Room := { frames := 1, cells := 0, slots := 0, locals := 22 }
set_option maxHeartbeats 4000000 in
set_option maxRecDepth 100000 in
theorem w_Mod_many_26 {p : Program} {l : Launch} {e : Env} {s : State} {m : MethodId} {args : Array Value} {below : List Frame} {meth : Method} {c : Code} {dC : Nat → ClassId} {dI : Nat → Nat → Nat} {cI cL cZ : ClassId} {A : Nat → Prop} {Q : State → Prop} {t1 t2 : Nat} (C0 : sx_C p s m args meth c cMod_many 4 "StateExplorerModel" A (dC, dI) [(cI, .int), (cL, .long), (cZ, .boolean)] t1 t2) (h_mod a_mod_sort a_mod_number a_mod_value a_mod_made a_mod_to a_mod_from a_mod_outputOf a_mod_negated a_mod_settles a_mod_next a_mod_ones a_mod_distance a_mod_apart a_mod_leads : Nat) (mod_code mod_gates mod_feeds mod_inputs mod_latches mod_outputs mod_explored : Int32) (mod_distance : Nat → Int32) (x1 : Int32) {H : Heap} {locs : List Loc} (hP : va_P (dC, dI) vwCl [(h_mod, .inr (5, [.int mod_code, .int mod_gates, .int mod_feeds, .int mod_inputs, .int mod_latches, .int mod_outputs, .ref a_mod_sort, .ref a_mod_number, .ref a_mod_value, .ref a_mod_made, .ref a_mod_to, .ref a_mod_from, .ref a_mod_outputOf, .ref a_mod_negated, .int mod_explored, .ref a_mod_settles, .ref a_mod_next, .ref a_mod_ones, .ref a_mod_distance, .ref a_mod_apart, .ref a_mod_leads])), (a_mod_distance, .inl (cI, 256, .inl mod_distance))] H) (hD : va_D A [(h_mod, .inr (5, [.int mod_code, .int mod_gates, .int mod_feeds, .int mod_inputs, .int mod_latches, .int mod_outputs, .ref a_mod_sort, .ref a_mod_number, .ref a_mod_value, .ref a_mod_made, .ref a_mod_to, .ref a_mod_from, .ref a_mod_outputOf, .ref a_mod_negated, .int mod_explored, .ref a_mod_settles, .ref a_mod_next, .ref a_mod_ones, .ref a_mod_distance, .ref a_mod_apart, .ref a_mod_leads])), (a_mod_distance, .inl (cI, 256, .inl mod_distance))]) (hS : va_S A s.heap H locs) :
    ∀ (n : Nat) (x2 : Int32) (x3 : Int32)  (r : Int32), L_Mod_many_26 mod_latches mod_distance x1 n x2 x3 = some r → ∀ (ls : Array Slot), lv_has ls 4 [(0, .ref h_mod), (1, .int x1), (2, .int x2), (3, .int x3)] →
    (∀ (ls : Array Slot), lv_has ls 4 [(2, .int r)] → W p l e (headSpec wsMod_many rm_Mod_many).room s m args below meth c H locs 0 0 Q (F0 m 62 ls [])) →
    W p l e (headSpec wsMod_many rm_Mod_many).room s m args below meth c H locs 0 0 Q (F0 m 26 ls []) := by
  obtain ⟨hx, hb, hml, hown, hts, hA, hK, hlocks, hX⟩ := id C0
  intro n
  induction n with
  | zero => intro x2 x3 r hm; rw [L_Mod_many_26] at hm; cases hm
  | succ n ih =>
    intro x2 x3 r hm ls hl k1
    rw [L_Mod_many_26] at hm
    refine lv_iload_n hx hb dMod_many_26 rfl (lv_at hl 3 rfl) ?_
    refine lv_aload_n hx hb dMod_many_27 rfl (lv_at hl 0 rfl) ?_
    obtain ⟨v5, hv5, hm⟩ := sx_bind hm
    have hPc := hP.sub (ws' := [(h_mod, .inr (5, [.int mod_code, .int mod_gates, .int mod_feeds, .int mod_inputs, .int mod_latches, .int mod_outputs, .ref a_mod_sort, .ref a_mod_number, .ref a_mod_value, .ref a_mod_made, .ref a_mod_to, .ref a_mod_from, .ref a_mod_outputOf, .ref a_mod_negated, .int mod_explored, .ref a_mod_settles, .ref a_mod_next, .ref a_mod_ones, .ref a_mod_distance, .ref a_mod_apart, .ref a_mod_leads]))]) [0] rfl
    have hDc := hD.sub (ws' := [(h_mod, .inr (5, [.int mod_code, .int mod_gates, .int mod_feeds, .int mod_inputs, .int mod_latches, .int mod_outputs, .ref a_mod_sort, .ref a_mod_number, .ref a_mod_value, .ref a_mod_made, .ref a_mod_to, .ref a_mod_from, .ref a_mod_outputOf, .ref a_mod_negated, .int mod_explored, .ref a_mod_settles, .ref a_mod_next, .ref a_mod_ones, .ref a_mod_distance, .ref a_mod_apart, .ref a_mod_leads]))]) [0] (by decide) rfl
    have hFc := va_free (wc := [(h_mod, .inr (5, [.int mod_code, .int mod_gates, .int mod_feeds, .int mod_inputs, .int mod_latches, .int mod_outputs, .ref a_mod_sort, .ref a_mod_number, .ref a_mod_value, .ref a_mod_made, .ref a_mod_to, .ref a_mod_from, .ref a_mod_outputOf, .ref a_mod_negated, .int mod_explored, .ref a_mod_settles, .ref a_mod_next, .ref a_mod_ones, .ref a_mod_distance, .ref a_mod_apart, .ref a_mod_leads]))]) hD hS hA [0] rfl
    refine sx_stI (va_runV (As := []) (rest := [.int x3]) ⟨hx, hb, hml, hown, hts⟩ (k_Mod_states l dC dI cI cL cZ t1 t2 h_mod a_mod_sort a_mod_number a_mod_value a_mod_made a_mod_to a_mod_from a_mod_outputOf a_mod_negated a_mod_settles a_mod_next a_mod_ones a_mod_distance a_mod_apart a_mod_leads mod_code mod_gates mod_feeds mod_inputs mod_latches mod_outputs mod_explored _ v5 hv5) (cwV 0 hts (sx_gV tw_708 tw_710 tw_22 tw_41 tcMod_states) rfl rfl rfl (by decide +kernel) ⟨Nat.le_of_ble_eq_true rfl, Nat.le_of_ble_eq_true rfl⟩) (sx_pV hK hX hS hPc hDc hFc (va_recv hK hPc (ci := 5) (q0 := 0) rfl rfl)) rfl rfl hl.1 rfl (lv_room (Nat.le_of_ble_eq_true rfl)) dMod_many_28 ⟨Nat.le_of_ble_eq_true rfl, Nat.le_of_ble_eq_true rfl⟩) ?_
    refine lv_icmp_ge (tgt := 62) hx hb dMod_many_31 (by decide) (fun c7 => ?_) (fun c7 => ?_)
    · have hm := sx_pos c7 hm
      obtain rfl := Option.some.inj hm
      exact k1 _ (lv_sub hl [2] rfl)
    · have hm := sx_neg c7 hm
      refine lv_iload_n hx hb dMod_many_34 rfl (lv_at hl 1 rfl) ?_
      refine lv_if_lt (tgt := 62) hx hb dMod_many_35 (by decide) (fun c8 => ?_) (fun c8 => ?_)
      · have hm := sx_pos c8 hm
        obtain rfl := Option.some.inj hm
        exact k1 _ (lv_sub hl [2] rfl)
      · have hm := sx_neg c8 hm
        refine lv_aload_n hx hb dMod_many_38 rfl (lv_at hl 0 rfl) ?_
        refine va_get (D := (dC, dI)) (ci := 5) (v := .ref a_mod_distance) (C := RMod) (T := TMod) (N := 21) hx hb hts inMod hown hK hP 0 rfl rfl 18 (by decide) (hts _ tw_629) (fun _ h9 => h9) rfl dMod_many_39 ?_
        refine lv_iload_n hx hb dMod_many_42 rfl (lv_at hl 3 rfl) ?_
        obtain ⟨g9, hm⟩ := gd_el hm
        refine va_iald hx hb hK hP 1 0 rfl rfl g9 dMod_many_43 ?_
        refine lv_iload_n hx hb dMod_many_44 rfl (lv_at hl 1 rfl) ?_
        refine lv_icmp_ne (tgt := 54) hx hb dMod_many_45 (by decide) (fun c10 => ?_) (fun c10 => ?_)
        · have hm := sx_neg c10 hm
          refine lv_iload_n hx hb dMod_many_54 rfl (lv_at hl 2 rfl) ?_
          refine lv_istore_n (lv' := [(2, .int x2), (0, .ref h_mod), (1, .int x1), (3, .int x3)]) hx hb dMod_many_55 rfl hl (by decide) rfl (fun ls hl => ?_)
          refine lv_iinc (v := x3 + (1 : Int32)) (lv' := [(3, .int (x3 + (1 : Int32))), (2, .int x2), (0, .ref h_mod), (1, .int x1)]) hx hb dMod_many_56 hl (k := 3) rfl rfl (by decide) rfl (fun ls hl => ?_)
          refine lv_goto (tgt := 26) hx hb dMod_many_59 (by decide) ?_
          exact ih x2 (x3 + (1 : Int32)) r hm _ (lv_sub hl [2, 3, 1, 0] rfl) k1
        · have hm := sx_pos c10 hm
          refine lv_iload_n hx hb dMod_many_48 rfl (lv_at hl 2 rfl) ?_
          refine lv_iconst (v := (1 : Int32)) hx hb dMod_many_49 (by decide) ?_
          refine lv_iadd hx hb dMod_many_50 ?_
          refine lv_goto (tgt := 55) hx hb dMod_many_51 (by decide) ?_
          refine lv_istore_n (lv' := [(2, .int (x2 + (1 : Int32))), (0, .ref h_mod), (1, .int x1), (3, .int x3)]) hx hb dMod_many_55 rfl hl (by decide) rfl (fun ls hl => ?_)
          refine lv_iinc (v := x3 + (1 : Int32)) (lv' := [(3, .int (x3 + (1 : Int32))), (2, .int (x2 + (1 : Int32))), (0, .ref h_mod), (1, .int x1)]) hx hb dMod_many_56 hl (k := 3) rfl rfl (by decide) rfl (fun ls hl => ?_)
          refine lv_goto (tgt := 26) hx hb dMod_many_59 (by decide) ?_
          exact ih (x2 + (1 : Int32)) (x3 + (1 : Int32)) r hm _ (lv_sub hl [2, 3, 1, 0] rfl) k1
set_option maxHeartbeats 4000000 in
set_option maxRecDepth 100000 in
theorem k_Mod_many (l : Launch) (dC : Nat → ClassId) (dI : Nat → Nat → Nat) (cI cL cZ : ClassId) (t1 t2 : Nat) (h_mod a_mod_sort a_mod_number a_mod_value a_mod_made a_mod_to a_mod_from a_mod_outputOf a_mod_negated a_mod_settles a_mod_next a_mod_ones a_mod_distance a_mod_apart a_mod_leads : Nat) (mod_code mod_gates mod_feeds mod_inputs mod_latches mod_outputs mod_explored : Int32) (mod_distance : Nat → Int32) (sz : Nat) (p0 : Int32) (v : Int32 × Int32) (hm : m_Mod_many mod_code mod_latches mod_explored mod_distance p0 = some v) : Met l yMod_many wsMod_many rm_Mod_many (sx_Pc (dC, dI) [(cI, .int), (cL, .long), (cZ, .boolean)] t1 t2 [(h_mod, .inr (5, [.int mod_code, .int mod_gates, .int mod_feeds, .int mod_inputs, .int mod_latches, .int mod_outputs, .ref a_mod_sort, .ref a_mod_number, .ref a_mod_value, .ref a_mod_made, .ref a_mod_to, .ref a_mod_from, .ref a_mod_outputOf, .ref a_mod_negated, .int mod_explored, .ref a_mod_settles, .ref a_mod_next, .ref a_mod_ones, .ref a_mod_distance, .ref a_mod_apart, .ref a_mod_leads])), (a_mod_distance, .inl (cI, 256, .inl mod_distance))] sz [.ref h_mod, .int p0]) (va_Qi (fun (r : Int32) (_ : Unit) => r = v.1) (fun _ t => sx_W (dC, dI) [(cI, .int), (cL, .long), (cZ, .boolean)] (va_A [(h_mod, .inr (5, [.int mod_code, .int mod_gates, .int mod_feeds, .int mod_inputs, .int mod_latches, .int mod_outputs, .ref a_mod_sort, .ref a_mod_number, .ref a_mod_value, .ref a_mod_made, .ref a_mod_to, .ref a_mod_from, .ref a_mod_outputOf, .ref a_mod_negated, .int mod_explored, .ref a_mod_settles, .ref a_mod_next, .ref a_mod_ones, .ref a_mod_distance, .ref a_mod_apart, .ref a_mod_leads])), (a_mod_distance, .inl (cI, 256, .inl mod_distance))] sz) [(h_mod, .inr (5, [.int v.2, .int mod_gates, .int mod_feeds, .int mod_inputs, .int mod_latches, .int mod_outputs, .ref a_mod_sort, .ref a_mod_number, .ref a_mod_value, .ref a_mod_made, .ref a_mod_to, .ref a_mod_from, .ref a_mod_outputOf, .ref a_mod_negated, .int mod_explored, .ref a_mod_settles, .ref a_mod_next, .ref a_mod_ones, .ref a_mod_distance, .ref a_mod_apart, .ref a_mod_leads])), (a_mod_distance, .inl (cI, 256, .inl mod_distance))] t) (va_A [(h_mod, .inr (5, [.int mod_code, .int mod_gates, .int mod_feeds, .int mod_inputs, .int mod_latches, .int mod_outputs, .ref a_mod_sort, .ref a_mod_number, .ref a_mod_value, .ref a_mod_made, .ref a_mod_to, .ref a_mod_from, .ref a_mod_outputOf, .ref a_mod_negated, .int mod_explored, .ref a_mod_settles, .ref a_mod_next, .ref a_mod_ones, .ref a_mod_distance, .ref a_mod_apart, .ref a_mod_leads])), (a_mod_distance, .inl (cI, 256, .inl mod_distance))] sz)) 0 0 (va_A [(h_mod, .inr (5, [.int mod_code, .int mod_gates, .int mod_feeds, .int mod_inputs, .int mod_latches, .int mod_outputs, .ref a_mod_sort, .ref a_mod_number, .ref a_mod_value, .ref a_mod_made, .ref a_mod_to, .ref a_mod_from, .ref a_mod_outputOf, .ref a_mod_negated, .int mod_explored, .ref a_mod_settles, .ref a_mod_next, .ref a_mod_ones, .ref a_mod_distance, .ref a_mod_apart, .ref a_mod_leads])), (a_mod_distance, .inl (cI, 256, .inl mod_distance))] sz) := by
  refine Met.ofW (cc := cMod_many) (maxL := 4) (ret := (some .int)) (by decide) rfl ?_
  intro p e s m args below meth c s₁ B hml hv
  obtain ⟨rfl, hsz, hP, hK, hD0, hX⟩ := hv
  have hx := B.exec
  have hb := B.bytes
  have hr := B.returns
  have hts0 := atoms_spec (ws := wsMod_many) B.pre
  have hts : ∀ w ∈ tb, w.before _ s = true := fun w h => hts0 w (List.mem_cons_of_mem _ h)
  have hown : s.vm.findClass "StateExplorerModel" = some m.cls := findClass_of_methodNamed B.named
  have hlocks := B.notSynchronized
  subst hsz
  have hD := hD0.self (sz := s.heap.size)
  generalize hAe : va_A [(h_mod, .inr (5, [.int mod_code, .int mod_gates, .int mod_feeds, .int mod_inputs, .int mod_latches, .int mod_outputs, .ref a_mod_sort, .ref a_mod_number, .ref a_mod_value, .ref a_mod_made, .ref a_mod_to, .ref a_mod_from, .ref a_mod_outputOf, .ref a_mod_negated, .int mod_explored, .ref a_mod_settles, .ref a_mod_next, .ref a_mod_ones, .ref a_mod_distance, .ref a_mod_apart, .ref a_mod_leads])), (a_mod_distance, .inl (cI, 256, .inl mod_distance))] s.heap.size = A at hD hX ⊢
  have hA : ∀ q : Nat, s.heap.size ≤ q → A q := fun q h => by rw [← hAe]; exact Or.inr h
  have hS : va_S A s.heap s.heap [] := va_S.rf
  have hl := lv_entry ([.ref h_mod, .int p0]) (n := 4) (Nat.le_of_ble_eq_true rfl)
  rw [lg_entry_eq]
  generalize (lg_sl ([.ref h_mod, .int p0]) ++ List.replicate (4 - (lg_sl ([.ref h_mod, .int p0])).length) Slot.unset).toArray = ls at hl ⊢
  have hl : lv_has ls 4 [(0, .ref h_mod), (1, .int p0)] := hl
  have C0 : sx_C p s m _ meth c cMod_many 4 "StateExplorerModel" A (dC, dI) [(cI, .int), (cL, .long), (cZ, .boolean)] t1 t2 := ⟨hx, hb, hml, hown, hts, hA, hK, hlocks, hX⟩
  rw [m_Mod_many] at hm
  refine lv_aload_n hx hb dMod_many_0 rfl (lv_at hl 0 rfl) ?_
  refine lv_aload_n hx hb dMod_many_1 rfl (lv_at hl 0 rfl) ?_
  refine va_get (D := (dC, dI)) (ci := 5) (v := .int mod_explored) (C := RMod) (T := TMod) (N := 21) hx hb hts inMod hown hK hP 0 rfl rfl 14 (by decide) (hts _ tw_625) (fun _ h9 => h9) rfl dMod_many_2 ?_
  obtain ⟨J1, hJ1, hm⟩ := sx_lj hm
  have jJ1 : ∀ (z0J1 : Int32), J1 z0J1 = some v → ∀ (ls : Array Slot), lv_has ls 4 [(0, .ref h_mod), (1, .int p0)] → W p l e (headSpec wsMod_many rm_Mod_many).room s m ([.ref h_mod, .int p0]).toArray below meth c s.heap [] 0 0 (MQ below (va_Qi (fun (r : Int32) (_ : Unit) => r = v.1) (fun _ t => sx_W (dC, dI) [(cI, .int), (cL, .long), (cZ, .boolean)] A [(h_mod, .inr (5, [.int v.2, .int mod_gates, .int mod_feeds, .int mod_inputs, .int mod_latches, .int mod_outputs, .ref a_mod_sort, .ref a_mod_number, .ref a_mod_value, .ref a_mod_made, .ref a_mod_to, .ref a_mod_from, .ref a_mod_outputOf, .ref a_mod_negated, .int mod_explored, .ref a_mod_settles, .ref a_mod_next, .ref a_mod_ones, .ref a_mod_distance, .ref a_mod_apart, .ref a_mod_leads])), (a_mod_distance, .inl (cI, 256, .inl mod_distance))] t) A) ([.ref h_mod, .int p0]).toArray s 0 0 A) (F0 m 13 ls [.int z0J1, .ref h_mod]) := by
    intro z0J1 hm ls hl
    rw [hJ1] at hm
    dsimp only at hm
    refine lv_iconst (v := (0 : Int32)) hx hb dMod_many_13 (by decide) ?_
    obtain ⟨v2, hv2, hm⟩ := sx_bind hm
    have hPc := hP.sub (ws' := [(h_mod, .inr (5, [.int mod_code, .int mod_gates, .int mod_feeds, .int mod_inputs, .int mod_latches, .int mod_outputs, .ref a_mod_sort, .ref a_mod_number, .ref a_mod_value, .ref a_mod_made, .ref a_mod_to, .ref a_mod_from, .ref a_mod_outputOf, .ref a_mod_negated, .int mod_explored, .ref a_mod_settles, .ref a_mod_next, .ref a_mod_ones, .ref a_mod_distance, .ref a_mod_apart, .ref a_mod_leads]))]) [0] rfl
    have hDc := hD.sub (ws' := [(h_mod, .inr (5, [.int mod_code, .int mod_gates, .int mod_feeds, .int mod_inputs, .int mod_latches, .int mod_outputs, .ref a_mod_sort, .ref a_mod_number, .ref a_mod_value, .ref a_mod_made, .ref a_mod_to, .ref a_mod_from, .ref a_mod_outputOf, .ref a_mod_negated, .int mod_explored, .ref a_mod_settles, .ref a_mod_next, .ref a_mod_ones, .ref a_mod_distance, .ref a_mod_apart, .ref a_mod_leads]))]) [0] (by decide) rfl
    have hFc := va_free (wc := [(h_mod, .inr (5, [.int mod_code, .int mod_gates, .int mod_feeds, .int mod_inputs, .int mod_latches, .int mod_outputs, .ref a_mod_sort, .ref a_mod_number, .ref a_mod_value, .ref a_mod_made, .ref a_mod_to, .ref a_mod_from, .ref a_mod_outputOf, .ref a_mod_negated, .int mod_explored, .ref a_mod_settles, .ref a_mod_next, .ref a_mod_ones, .ref a_mod_distance, .ref a_mod_apart, .ref a_mod_leads]))]) hD hS hA [0] rfl
    refine va_calli (va_runV (As := [.int z0J1, .int (0 : Int32)]) (rest := []) ⟨hx, hb, hml, hown, hts⟩ (k_Mod_fails l dC dI cI cL cZ t1 t2 h_mod a_mod_sort a_mod_number a_mod_value a_mod_made a_mod_to a_mod_from a_mod_outputOf a_mod_negated a_mod_settles a_mod_next a_mod_ones a_mod_distance a_mod_apart a_mod_leads mod_code mod_gates mod_feeds mod_inputs mod_latches mod_outputs mod_explored _ z0J1 (0 : Int32) v2 hv2) (cwV 2 hts (sx_gV tw_680 tw_682 tw_19 tw_41 tcMod_fails) rfl rfl rfl (by decide +kernel) ⟨Nat.le_of_ble_eq_true rfl, Nat.le_of_ble_eq_true rfl⟩) (sx_pV hK hX hS hPc hDc hFc (va_recv hK hPc (ci := 5) (q0 := 0) rfl rfl)) rfl rfl hl.1 rfl (lv_room (Nat.le_of_ble_eq_true rfl)) dMod_many_14 ⟨Nat.le_of_ble_eq_true rfl, Nat.le_of_ble_eq_true rfl⟩) hS (fun q _ h => hFc q h) hFc (fun r3 u_ t_ H locs ht hvm hw hB hz1 hk1 hS => ?_)
    obtain ⟨hP1, -, hD1⟩ := hB
    rw [ht] at hP1
    obtain ⟨hP, hD⟩ := va_join (wr := [(a_mod_distance, .inl (cI, 256, .inl mod_distance))]) (w1 := [(h_mod, .inr (5, [.int v2.2, .int mod_gates, .int mod_feeds, .int mod_inputs, .int mod_latches, .int mod_outputs, .ref a_mod_sort, .ref a_mod_number, .ref a_mod_value, .ref a_mod_made, .ref a_mod_to, .ref a_mod_from, .ref a_mod_outputOf, .ref a_mod_negated, .int mod_explored, .ref a_mod_settles, .ref a_mod_next, .ref a_mod_ones, .ref a_mod_distance, .ref a_mod_apart, .ref a_mod_leads]))]) hP hD [0] [1] rfl rfl (by decide) (by decide) hk1 hFc hP1 hD1
    have hP : va_P (dC, dI) vwCl [(a_mod_distance, .inl (cI, 256, .inl mod_distance)), (h_mod, .inr (5, [.int v2.2, .int mod_gates, .int mod_feeds, .int mod_inputs, .int mod_latches, .int mod_outputs, .ref a_mod_sort, .ref a_mod_number, .ref a_mod_value, .ref a_mod_made, .ref a_mod_to, .ref a_mod_from, .ref a_mod_outputOf, .ref a_mod_negated, .int mod_explored, .ref a_mod_settles, .ref a_mod_next, .ref a_mod_ones, .ref a_mod_distance, .ref a_mod_apart, .ref a_mod_leads]))] H := hP
    have hD : va_D A [(a_mod_distance, .inl (cI, 256, .inl mod_distance)), (h_mod, .inr (5, [.int v2.2, .int mod_gates, .int mod_feeds, .int mod_inputs, .int mod_latches, .int mod_outputs, .ref a_mod_sort, .ref a_mod_number, .ref a_mod_value, .ref a_mod_made, .ref a_mod_to, .ref a_mod_from, .ref a_mod_outputOf, .ref a_mod_negated, .int mod_explored, .ref a_mod_settles, .ref a_mod_next, .ref a_mod_ones, .ref a_mod_distance, .ref a_mod_apart, .ref a_mod_leads]))] := hD
    have hw9 := hw.symm
    subst hw9
    refine lv_if_eq (tgt := 22) hx hb dMod_many_17 (by decide) (fun c4 => ?_) (fun c4 => ?_)
    · have hm := sx_pos c4 hm
      refine lv_iconst (v := (0 : Int32)) hx hb dMod_many_22 (by decide) ?_
      refine lv_istore_n (lv' := [(2, .int (0 : Int32)), (0, .ref h_mod), (1, .int p0)]) hx hb dMod_many_23 rfl hl (by decide) rfl (fun ls hl => ?_)
      refine lv_iconst (v := (0 : Int32)) hx hb dMod_many_24 (by decide) ?_
      refine lv_istore_n (lv' := [(3, .int (0 : Int32)), (2, .int (0 : Int32)), (0, .ref h_mod), (1, .int p0)]) hx hb dMod_many_25 rfl hl (by decide) rfl (fun ls hl => ?_)
      obtain ⟨v11, hv11, hm⟩ := sx_bind hm
      refine w_Mod_many_26 C0 h_mod a_mod_sort a_mod_number a_mod_value a_mod_made a_mod_to a_mod_from a_mod_outputOf a_mod_negated a_mod_settles a_mod_next a_mod_ones a_mod_distance a_mod_apart a_mod_leads v2.2 mod_gates mod_feeds mod_inputs mod_latches mod_outputs mod_explored mod_distance p0 (hP.sub (ws' := [(h_mod, .inr (5, [.int v2.2, .int mod_gates, .int mod_feeds, .int mod_inputs, .int mod_latches, .int mod_outputs, .ref a_mod_sort, .ref a_mod_number, .ref a_mod_value, .ref a_mod_made, .ref a_mod_to, .ref a_mod_from, .ref a_mod_outputOf, .ref a_mod_negated, .int mod_explored, .ref a_mod_settles, .ref a_mod_next, .ref a_mod_ones, .ref a_mod_distance, .ref a_mod_apart, .ref a_mod_leads])), (a_mod_distance, .inl (cI, 256, .inl mod_distance))]) [1, 0] rfl) (hD.sub (ws' := [(h_mod, .inr (5, [.int v2.2, .int mod_gates, .int mod_feeds, .int mod_inputs, .int mod_latches, .int mod_outputs, .ref a_mod_sort, .ref a_mod_number, .ref a_mod_value, .ref a_mod_made, .ref a_mod_to, .ref a_mod_from, .ref a_mod_outputOf, .ref a_mod_negated, .int mod_explored, .ref a_mod_settles, .ref a_mod_next, .ref a_mod_ones, .ref a_mod_distance, .ref a_mod_apart, .ref a_mod_leads])), (a_mod_distance, .inl (cI, 256, .inl mod_distance))]) [1, 0] (by decide) rfl) hS _ (0 : Int32) (0 : Int32) v11 hv11 _ (lv_sub hl [2, 3, 1, 0] rfl) ?_
      intro ls hl
      refine lv_iload_n hx hb dMod_many_62 rfl (lv_at hl 0 rfl) ?_
      obtain rfl := Option.some.inj hm
      exact W.iret (v := v11) hx hb hr (fun t ht hW => ⟨⟨v11, (), rfl, rfl, sx_Wi (hP.sub (ws' := [(h_mod, .inr (5, [.int v2.2, .int mod_gates, .int mod_feeds, .int mod_inputs, .int mod_latches, .int mod_outputs, .ref a_mod_sort, .ref a_mod_number, .ref a_mod_value, .ref a_mod_made, .ref a_mod_to, .ref a_mod_from, .ref a_mod_outputOf, .ref a_mod_negated, .int mod_explored, .ref a_mod_settles, .ref a_mod_next, .ref a_mod_ones, .ref a_mod_distance, .ref a_mod_apart, .ref a_mod_leads])), (a_mod_distance, .inl (cI, 256, .inl mod_distance))]) [1, 0] rfl) hK (hD.sub (ws' := [(h_mod, .inr (5, [.int v2.2, .int mod_gates, .int mod_feeds, .int mod_inputs, .int mod_latches, .int mod_outputs, .ref a_mod_sort, .ref a_mod_number, .ref a_mod_value, .ref a_mod_made, .ref a_mod_to, .ref a_mod_from, .ref a_mod_outputOf, .ref a_mod_negated, .int mod_explored, .ref a_mod_settles, .ref a_mod_next, .ref a_mod_ones, .ref a_mod_distance, .ref a_mod_apart, .ref a_mod_leads])), (a_mod_distance, .inl (cI, 256, .inl mod_distance))]) [1, 0] (by decide) rfl) ht hW.alike⟩, hS.F ht⟩) hS.2.2 dMod_many_63
    · have hm := sx_neg c4 hm
      refine lv_iconst (v := (0 : Int32)) hx hb dMod_many_20 (by decide) ?_
      obtain rfl := Option.some.inj hm
      exact W.iret (v := (0 : Int32)) hx hb hr (fun t ht hW => ⟨⟨(0 : Int32), (), rfl, rfl, sx_Wi (hP.sub (ws' := [(h_mod, .inr (5, [.int v2.2, .int mod_gates, .int mod_feeds, .int mod_inputs, .int mod_latches, .int mod_outputs, .ref a_mod_sort, .ref a_mod_number, .ref a_mod_value, .ref a_mod_made, .ref a_mod_to, .ref a_mod_from, .ref a_mod_outputOf, .ref a_mod_negated, .int mod_explored, .ref a_mod_settles, .ref a_mod_next, .ref a_mod_ones, .ref a_mod_distance, .ref a_mod_apart, .ref a_mod_leads])), (a_mod_distance, .inl (cI, 256, .inl mod_distance))]) [1, 0] rfl) hK (hD.sub (ws' := [(h_mod, .inr (5, [.int v2.2, .int mod_gates, .int mod_feeds, .int mod_inputs, .int mod_latches, .int mod_outputs, .ref a_mod_sort, .ref a_mod_number, .ref a_mod_value, .ref a_mod_made, .ref a_mod_to, .ref a_mod_from, .ref a_mod_outputOf, .ref a_mod_negated, .int mod_explored, .ref a_mod_settles, .ref a_mod_next, .ref a_mod_ones, .ref a_mod_distance, .ref a_mod_apart, .ref a_mod_leads])), (a_mod_distance, .inl (cI, 256, .inl mod_distance))]) [1, 0] (by decide) rfl) ht hW.alike⟩, hS.F ht⟩) hS.2.2 dMod_many_21
  refine lv_if_ne (tgt := 12) hx hb dMod_many_5 (by decide) (fun c12 => ?_) (fun c12 => ?_)
  · have hm := sx_neg c12 hm
    refine lv_iconst (v := (0 : Int32)) hx hb dMod_many_12 (by decide) ?_
    exact jJ1 (0 : Int32) hm _ (hl)
  · have hm := sx_pos c12 hm
    refine lv_iconst (v := (1 : Int32)) hx hb dMod_many_8 (by decide) ?_
    refine lv_goto (tgt := 13) hx hb dMod_many_9 (by decide) ?_
    exact jJ1 (1 : Int32) hm _ (hl)
noncomputable def m_Mod_next (mod_code mod_inputs mod_latches mod_explored : Int32) (mod_settles mod_next : Nat → Int32) (p0 : Int32) (p1 : Int32) : Option (Int32 × Int32) := (sx_let (fun (z0J1 : Int32) => (m_Mod_isState mod_latches p0).bind (fun v2 => (sx_let (fun (z0J4 : Int32) (z1J4 : Int32) => (m_Mod_fails mod_code z1J4 z0J4).bind (fun v5 => (if v5.1 = (0 : Int32) then (m_Mod_choices mod_inputs).bind (fun v8 => gd (¬ v8 = 0) (gd (vp_in (((16 : Int32) * p0) + (p1 - p1 / v8 * v8)) 4096) ((if mod_settles (((16 : Int32) * p0) + (p1 - p1 / v8 * v8)).toNatClampNeg = (0 : Int32) then some ((-1 : Int32), v5.2) else gd (vp_in (((16 : Int32) * p0) + (p1 - p1 / v8 * v8)) 4096) (some (mod_next (((16 : Int32) * p0) + (p1 - p1 / v8 * v8)).toNatClampNeg, v5.2)))))) else some ((0 : Int32), v5.2)))) (fun J4 => sx_let (fun (z0J14 : Int32) => (J4 (1 : Int32) z0J14)) (fun J14 => (if v2 = (0 : Int32) then (J14 z0J1) else (if p1 < (0 : Int32) then (J14 z0J1) else (if p1 ≤ (15 : Int32) then (J4 (0 : Int32) z0J1) else (J14 z0J1))))))))) (fun J1 => (if mod_explored = (0 : Int32) then (J1 (1 : Int32)) else (J1 (0 : Int32)))))
def rm_Mod_next : Room := { frames := 2, cells := 0, slots := 0, locals := 41 }
set_option maxHeartbeats 4000000 in
set_option maxRecDepth 100000 in
theorem k_Mod_next (l : Launch) (dC : Nat → ClassId) (dI : Nat → Nat → Nat) (cI cL cZ : ClassId) (t1 t2 : Nat) (h_mod a_mod_sort a_mod_number a_mod_value a_mod_made a_mod_to a_mod_from a_mod_outputOf a_mod_negated a_mod_settles a_mod_next a_mod_ones a_mod_distance a_mod_apart a_mod_leads : Nat) (mod_code mod_gates mod_feeds mod_inputs mod_latches mod_outputs mod_explored : Int32) (mod_settles mod_next : Nat → Int32) (sz : Nat) (p0 : Int32) (p1 : Int32) (v : Int32 × Int32) (hm : m_Mod_next mod_code mod_inputs mod_latches mod_explored mod_settles mod_next p0 p1 = some v) : Met l yMod_next wsMod_next rm_Mod_next (sx_Pc (dC, dI) [(cI, .int), (cL, .long), (cZ, .boolean)] t1 t2 [(h_mod, .inr (5, [.int mod_code, .int mod_gates, .int mod_feeds, .int mod_inputs, .int mod_latches, .int mod_outputs, .ref a_mod_sort, .ref a_mod_number, .ref a_mod_value, .ref a_mod_made, .ref a_mod_to, .ref a_mod_from, .ref a_mod_outputOf, .ref a_mod_negated, .int mod_explored, .ref a_mod_settles, .ref a_mod_next, .ref a_mod_ones, .ref a_mod_distance, .ref a_mod_apart, .ref a_mod_leads])), (a_mod_settles, .inl (cZ, 4096, .inl mod_settles)), (a_mod_next, .inl (cI, 4096, .inl mod_next))] sz [.ref h_mod, .int p0, .int p1]) (va_Qi (fun (r : Int32) (_ : Unit) => r = v.1) (fun _ t => sx_W (dC, dI) [(cI, .int), (cL, .long), (cZ, .boolean)] (va_A [(h_mod, .inr (5, [.int mod_code, .int mod_gates, .int mod_feeds, .int mod_inputs, .int mod_latches, .int mod_outputs, .ref a_mod_sort, .ref a_mod_number, .ref a_mod_value, .ref a_mod_made, .ref a_mod_to, .ref a_mod_from, .ref a_mod_outputOf, .ref a_mod_negated, .int mod_explored, .ref a_mod_settles, .ref a_mod_next, .ref a_mod_ones, .ref a_mod_distance, .ref a_mod_apart, .ref a_mod_leads])), (a_mod_settles, .inl (cZ, 4096, .inl mod_settles)), (a_mod_next, .inl (cI, 4096, .inl mod_next))] sz) [(h_mod, .inr (5, [.int v.2, .int mod_gates, .int mod_feeds, .int mod_inputs, .int mod_latches, .int mod_outputs, .ref a_mod_sort, .ref a_mod_number, .ref a_mod_value, .ref a_mod_made, .ref a_mod_to, .ref a_mod_from, .ref a_mod_outputOf, .ref a_mod_negated, .int mod_explored, .ref a_mod_settles, .ref a_mod_next, .ref a_mod_ones, .ref a_mod_distance, .ref a_mod_apart, .ref a_mod_leads])), (a_mod_settles, .inl (cZ, 4096, .inl mod_settles)), (a_mod_next, .inl (cI, 4096, .inl mod_next))] t) (va_A [(h_mod, .inr (5, [.int mod_code, .int mod_gates, .int mod_feeds, .int mod_inputs, .int mod_latches, .int mod_outputs, .ref a_mod_sort, .ref a_mod_number, .ref a_mod_value, .ref a_mod_made, .ref a_mod_to, .ref a_mod_from, .ref a_mod_outputOf, .ref a_mod_negated, .int mod_explored, .ref a_mod_settles, .ref a_mod_next, .ref a_mod_ones, .ref a_mod_distance, .ref a_mod_apart, .ref a_mod_leads])), (a_mod_settles, .inl (cZ, 4096, .inl mod_settles)), (a_mod_next, .inl (cI, 4096, .inl mod_next))] sz)) 0 0 (va_A [(h_mod, .inr (5, [.int mod_code, .int mod_gates, .int mod_feeds, .int mod_inputs, .int mod_latches, .int mod_outputs, .ref a_mod_sort, .ref a_mod_number, .ref a_mod_value, .ref a_mod_made, .ref a_mod_to, .ref a_mod_from, .ref a_mod_outputOf, .ref a_mod_negated, .int mod_explored, .ref a_mod_settles, .ref a_mod_next, .ref a_mod_ones, .ref a_mod_distance, .ref a_mod_apart, .ref a_mod_leads])), (a_mod_settles, .inl (cZ, 4096, .inl mod_settles)), (a_mod_next, .inl (cI, 4096, .inl mod_next))] sz) := by
  refine Met.ofW (cc := cMod_next) (maxL := 4) (ret := (some .int)) (by decide) rfl ?_
  intro p e s m args below meth c s₁ B hml hv
  obtain ⟨rfl, hsz, hP, hK, hD0, hX⟩ := hv
  have hx := B.exec
  have hb := B.bytes
  have hr := B.returns
  have hts0 := atoms_spec (ws := wsMod_next) B.pre
  have hts : ∀ w ∈ tb, w.before _ s = true := fun w h => hts0 w (List.mem_cons_of_mem _ h)
  have hown : s.vm.findClass "StateExplorerModel" = some m.cls := findClass_of_methodNamed B.named
  have hlocks := B.notSynchronized
  subst hsz
  have hD := hD0.self (sz := s.heap.size)
  generalize hAe : va_A [(h_mod, .inr (5, [.int mod_code, .int mod_gates, .int mod_feeds, .int mod_inputs, .int mod_latches, .int mod_outputs, .ref a_mod_sort, .ref a_mod_number, .ref a_mod_value, .ref a_mod_made, .ref a_mod_to, .ref a_mod_from, .ref a_mod_outputOf, .ref a_mod_negated, .int mod_explored, .ref a_mod_settles, .ref a_mod_next, .ref a_mod_ones, .ref a_mod_distance, .ref a_mod_apart, .ref a_mod_leads])), (a_mod_settles, .inl (cZ, 4096, .inl mod_settles)), (a_mod_next, .inl (cI, 4096, .inl mod_next))] s.heap.size = A at hD hX ⊢
  have hA : ∀ q : Nat, s.heap.size ≤ q → A q := fun q h => by rw [← hAe]; exact Or.inr h
  have hS : va_S A s.heap s.heap [] := va_S.rf
  have hl := lv_entry ([.ref h_mod, .int p0, .int p1]) (n := 4) (Nat.le_of_ble_eq_true rfl)
  rw [lg_entry_eq]
  generalize (lg_sl ([.ref h_mod, .int p0, .int p1]) ++ List.replicate (4 - (lg_sl ([.ref h_mod, .int p0, .int p1])).length) Slot.unset).toArray = ls at hl ⊢
  have hl : lv_has ls 4 [(0, .ref h_mod), (1, .int p0), (2, .int p1)] := hl
  have C0 : sx_C p s m _ meth c cMod_next 4 "StateExplorerModel" A (dC, dI) [(cI, .int), (cL, .long), (cZ, .boolean)] t1 t2 := ⟨hx, hb, hml, hown, hts, hA, hK, hlocks, hX⟩
  rw [m_Mod_next] at hm
  refine lv_aload_n hx hb dMod_next_0 rfl (lv_at hl 0 rfl) ?_
  refine lv_aload_n hx hb dMod_next_1 rfl (lv_at hl 0 rfl) ?_
  refine va_get (D := (dC, dI)) (ci := 5) (v := .int mod_explored) (C := RMod) (T := TMod) (N := 21) hx hb hts inMod hown hK hP 0 rfl rfl 14 (by decide) (hts _ tw_625) (fun _ h9 => h9) rfl dMod_next_2 ?_
  obtain ⟨J1, hJ1, hm⟩ := sx_lj hm
  have jJ1 : ∀ (z0J1 : Int32), J1 z0J1 = some v → ∀ (ls : Array Slot), lv_has ls 4 [(0, .ref h_mod), (1, .int p0), (2, .int p1)] → W p l e (headSpec wsMod_next rm_Mod_next).room s m ([.ref h_mod, .int p0, .int p1]).toArray below meth c s.heap [] 0 0 (MQ below (va_Qi (fun (r : Int32) (_ : Unit) => r = v.1) (fun _ t => sx_W (dC, dI) [(cI, .int), (cL, .long), (cZ, .boolean)] A [(h_mod, .inr (5, [.int v.2, .int mod_gates, .int mod_feeds, .int mod_inputs, .int mod_latches, .int mod_outputs, .ref a_mod_sort, .ref a_mod_number, .ref a_mod_value, .ref a_mod_made, .ref a_mod_to, .ref a_mod_from, .ref a_mod_outputOf, .ref a_mod_negated, .int mod_explored, .ref a_mod_settles, .ref a_mod_next, .ref a_mod_ones, .ref a_mod_distance, .ref a_mod_apart, .ref a_mod_leads])), (a_mod_settles, .inl (cZ, 4096, .inl mod_settles)), (a_mod_next, .inl (cI, 4096, .inl mod_next))] t) A) ([.ref h_mod, .int p0, .int p1]).toArray s 0 0 A) (F0 m 13 ls [.int z0J1, .ref h_mod]) := by
    intro z0J1 hm ls hl
    rw [hJ1] at hm
    dsimp only at hm
    refine lv_aload_n hx hb dMod_next_13 rfl (lv_at hl 0 rfl) ?_
    refine lv_iload_n hx hb dMod_next_14 rfl (lv_at hl 1 rfl) ?_
    obtain ⟨v2, hv2, hm⟩ := sx_bind hm
    have hPc := hP.sub (ws' := [(h_mod, .inr (5, [.int mod_code, .int mod_gates, .int mod_feeds, .int mod_inputs, .int mod_latches, .int mod_outputs, .ref a_mod_sort, .ref a_mod_number, .ref a_mod_value, .ref a_mod_made, .ref a_mod_to, .ref a_mod_from, .ref a_mod_outputOf, .ref a_mod_negated, .int mod_explored, .ref a_mod_settles, .ref a_mod_next, .ref a_mod_ones, .ref a_mod_distance, .ref a_mod_apart, .ref a_mod_leads]))]) [0] rfl
    have hDc := hD.sub (ws' := [(h_mod, .inr (5, [.int mod_code, .int mod_gates, .int mod_feeds, .int mod_inputs, .int mod_latches, .int mod_outputs, .ref a_mod_sort, .ref a_mod_number, .ref a_mod_value, .ref a_mod_made, .ref a_mod_to, .ref a_mod_from, .ref a_mod_outputOf, .ref a_mod_negated, .int mod_explored, .ref a_mod_settles, .ref a_mod_next, .ref a_mod_ones, .ref a_mod_distance, .ref a_mod_apart, .ref a_mod_leads]))]) [0] (by decide) rfl
    have hFc := va_free (wc := [(h_mod, .inr (5, [.int mod_code, .int mod_gates, .int mod_feeds, .int mod_inputs, .int mod_latches, .int mod_outputs, .ref a_mod_sort, .ref a_mod_number, .ref a_mod_value, .ref a_mod_made, .ref a_mod_to, .ref a_mod_from, .ref a_mod_outputOf, .ref a_mod_negated, .int mod_explored, .ref a_mod_settles, .ref a_mod_next, .ref a_mod_ones, .ref a_mod_distance, .ref a_mod_apart, .ref a_mod_leads]))]) hD hS hA [0] rfl
    refine sx_stI (va_runV (As := [.int p0]) (rest := [.int z0J1, .ref h_mod]) ⟨hx, hb, hml, hown, hts⟩ (k_Mod_isState l dC dI cI cL cZ t1 t2 h_mod a_mod_sort a_mod_number a_mod_value a_mod_made a_mod_to a_mod_from a_mod_outputOf a_mod_negated a_mod_settles a_mod_next a_mod_ones a_mod_distance a_mod_apart a_mod_leads mod_code mod_gates mod_feeds mod_inputs mod_latches mod_outputs mod_explored _ p0 v2 hv2) (cwV 1 hts (sx_gV tw_748 tw_750 tw_31 tw_41 tcMod_isState) rfl rfl rfl (by decide +kernel) ⟨Nat.le_of_ble_eq_true rfl, Nat.le_of_ble_eq_true rfl⟩) (sx_pV hK hX hS hPc hDc hFc (va_recv hK hPc (ci := 5) (q0 := 0) rfl rfl)) rfl rfl hl.1 rfl (lv_room (Nat.le_of_ble_eq_true rfl)) dMod_next_15 ⟨Nat.le_of_ble_eq_true rfl, Nat.le_of_ble_eq_true rfl⟩) ?_
    obtain ⟨J4, hJ4, hm⟩ := sx_lj hm
    have jJ4 : ∀ (z0J4 : Int32) (z1J4 : Int32), J4 z0J4 z1J4 = some v → ∀ (ls : Array Slot), lv_has ls 4 [(0, .ref h_mod), (1, .int p0), (2, .int p1)] → W p l e (headSpec wsMod_next rm_Mod_next).room s m ([.ref h_mod, .int p0, .int p1]).toArray below meth c s.heap [] 0 0 (MQ below (va_Qi (fun (r : Int32) (_ : Unit) => r = v.1) (fun _ t => sx_W (dC, dI) [(cI, .int), (cL, .long), (cZ, .boolean)] A [(h_mod, .inr (5, [.int v.2, .int mod_gates, .int mod_feeds, .int mod_inputs, .int mod_latches, .int mod_outputs, .ref a_mod_sort, .ref a_mod_number, .ref a_mod_value, .ref a_mod_made, .ref a_mod_to, .ref a_mod_from, .ref a_mod_outputOf, .ref a_mod_negated, .int mod_explored, .ref a_mod_settles, .ref a_mod_next, .ref a_mod_ones, .ref a_mod_distance, .ref a_mod_apart, .ref a_mod_leads])), (a_mod_settles, .inl (cZ, 4096, .inl mod_settles)), (a_mod_next, .inl (cI, 4096, .inl mod_next))] t) A) ([.ref h_mod, .int p0, .int p1]).toArray s 0 0 A) (F0 m 36 ls [.int z0J4, .int z1J4, .ref h_mod]) := by
      intro z0J4 z1J4 hm ls hl
      rw [hJ4] at hm
      dsimp only at hm
      obtain ⟨v5, hv5, hm⟩ := sx_bind hm
      have hPc := hP.sub (ws' := [(h_mod, .inr (5, [.int mod_code, .int mod_gates, .int mod_feeds, .int mod_inputs, .int mod_latches, .int mod_outputs, .ref a_mod_sort, .ref a_mod_number, .ref a_mod_value, .ref a_mod_made, .ref a_mod_to, .ref a_mod_from, .ref a_mod_outputOf, .ref a_mod_negated, .int mod_explored, .ref a_mod_settles, .ref a_mod_next, .ref a_mod_ones, .ref a_mod_distance, .ref a_mod_apart, .ref a_mod_leads]))]) [0] rfl
      have hDc := hD.sub (ws' := [(h_mod, .inr (5, [.int mod_code, .int mod_gates, .int mod_feeds, .int mod_inputs, .int mod_latches, .int mod_outputs, .ref a_mod_sort, .ref a_mod_number, .ref a_mod_value, .ref a_mod_made, .ref a_mod_to, .ref a_mod_from, .ref a_mod_outputOf, .ref a_mod_negated, .int mod_explored, .ref a_mod_settles, .ref a_mod_next, .ref a_mod_ones, .ref a_mod_distance, .ref a_mod_apart, .ref a_mod_leads]))]) [0] (by decide) rfl
      have hFc := va_free (wc := [(h_mod, .inr (5, [.int mod_code, .int mod_gates, .int mod_feeds, .int mod_inputs, .int mod_latches, .int mod_outputs, .ref a_mod_sort, .ref a_mod_number, .ref a_mod_value, .ref a_mod_made, .ref a_mod_to, .ref a_mod_from, .ref a_mod_outputOf, .ref a_mod_negated, .int mod_explored, .ref a_mod_settles, .ref a_mod_next, .ref a_mod_ones, .ref a_mod_distance, .ref a_mod_apart, .ref a_mod_leads]))]) hD hS hA [0] rfl
      refine va_calli (va_runV (As := [.int z1J4, .int z0J4]) (rest := []) ⟨hx, hb, hml, hown, hts⟩ (k_Mod_fails l dC dI cI cL cZ t1 t2 h_mod a_mod_sort a_mod_number a_mod_value a_mod_made a_mod_to a_mod_from a_mod_outputOf a_mod_negated a_mod_settles a_mod_next a_mod_ones a_mod_distance a_mod_apart a_mod_leads mod_code mod_gates mod_feeds mod_inputs mod_latches mod_outputs mod_explored _ z1J4 z0J4 v5 hv5) (cwV 2 hts (sx_gV tw_680 tw_682 tw_19 tw_41 tcMod_fails) rfl rfl rfl (by decide +kernel) ⟨Nat.le_of_ble_eq_true rfl, Nat.le_of_ble_eq_true rfl⟩) (sx_pV hK hX hS hPc hDc hFc (va_recv hK hPc (ci := 5) (q0 := 0) rfl rfl)) rfl rfl hl.1 rfl (lv_room (Nat.le_of_ble_eq_true rfl)) dMod_next_36 ⟨Nat.le_of_ble_eq_true rfl, Nat.le_of_ble_eq_true rfl⟩) hS (fun q _ h => hFc q h) hFc (fun r6 u_ t_ H locs ht hvm hw hB hz1 hk1 hS => ?_)
      obtain ⟨hP1, -, hD1⟩ := hB
      rw [ht] at hP1
      obtain ⟨hP, hD⟩ := va_join (wr := [(a_mod_settles, .inl (cZ, 4096, .inl mod_settles)), (a_mod_next, .inl (cI, 4096, .inl mod_next))]) (w1 := [(h_mod, .inr (5, [.int v5.2, .int mod_gates, .int mod_feeds, .int mod_inputs, .int mod_latches, .int mod_outputs, .ref a_mod_sort, .ref a_mod_number, .ref a_mod_value, .ref a_mod_made, .ref a_mod_to, .ref a_mod_from, .ref a_mod_outputOf, .ref a_mod_negated, .int mod_explored, .ref a_mod_settles, .ref a_mod_next, .ref a_mod_ones, .ref a_mod_distance, .ref a_mod_apart, .ref a_mod_leads]))]) hP hD [0] [1, 2] rfl rfl (by decide) (by decide) hk1 hFc hP1 hD1
      have hP : va_P (dC, dI) vwCl [(a_mod_settles, .inl (cZ, 4096, .inl mod_settles)), (a_mod_next, .inl (cI, 4096, .inl mod_next)), (h_mod, .inr (5, [.int v5.2, .int mod_gates, .int mod_feeds, .int mod_inputs, .int mod_latches, .int mod_outputs, .ref a_mod_sort, .ref a_mod_number, .ref a_mod_value, .ref a_mod_made, .ref a_mod_to, .ref a_mod_from, .ref a_mod_outputOf, .ref a_mod_negated, .int mod_explored, .ref a_mod_settles, .ref a_mod_next, .ref a_mod_ones, .ref a_mod_distance, .ref a_mod_apart, .ref a_mod_leads]))] H := hP
      have hD : va_D A [(a_mod_settles, .inl (cZ, 4096, .inl mod_settles)), (a_mod_next, .inl (cI, 4096, .inl mod_next)), (h_mod, .inr (5, [.int v5.2, .int mod_gates, .int mod_feeds, .int mod_inputs, .int mod_latches, .int mod_outputs, .ref a_mod_sort, .ref a_mod_number, .ref a_mod_value, .ref a_mod_made, .ref a_mod_to, .ref a_mod_from, .ref a_mod_outputOf, .ref a_mod_negated, .int mod_explored, .ref a_mod_settles, .ref a_mod_next, .ref a_mod_ones, .ref a_mod_distance, .ref a_mod_apart, .ref a_mod_leads]))] := hD
      have hw9 := hw.symm
      subst hw9
      refine lv_if_eq (tgt := 44) hx hb dMod_next_39 (by decide) (fun c7 => ?_) (fun c7 => ?_)
      · have hm := sx_pos c7 hm
        refine lv_bipush (v := (16 : Int32)) hx hb dMod_next_44 (by decide) ?_
        refine lv_iload_n hx hb dMod_next_46 rfl (lv_at hl 1 rfl) ?_
        refine lv_imul hx hb dMod_next_47 ?_
        refine lv_iload_n hx hb dMod_next_48 rfl (lv_at hl 2 rfl) ?_
        refine lv_aload_n hx hb dMod_next_49 rfl (lv_at hl 0 rfl) ?_
        obtain ⟨v8, hv8, hm⟩ := sx_bind hm
        have hPc := hP.sub (ws' := [(h_mod, .inr (5, [.int v5.2, .int mod_gates, .int mod_feeds, .int mod_inputs, .int mod_latches, .int mod_outputs, .ref a_mod_sort, .ref a_mod_number, .ref a_mod_value, .ref a_mod_made, .ref a_mod_to, .ref a_mod_from, .ref a_mod_outputOf, .ref a_mod_negated, .int mod_explored, .ref a_mod_settles, .ref a_mod_next, .ref a_mod_ones, .ref a_mod_distance, .ref a_mod_apart, .ref a_mod_leads]))]) [2] rfl
        have hDc := hD.sub (ws' := [(h_mod, .inr (5, [.int v5.2, .int mod_gates, .int mod_feeds, .int mod_inputs, .int mod_latches, .int mod_outputs, .ref a_mod_sort, .ref a_mod_number, .ref a_mod_value, .ref a_mod_made, .ref a_mod_to, .ref a_mod_from, .ref a_mod_outputOf, .ref a_mod_negated, .int mod_explored, .ref a_mod_settles, .ref a_mod_next, .ref a_mod_ones, .ref a_mod_distance, .ref a_mod_apart, .ref a_mod_leads]))]) [2] (by decide) rfl
        have hFc := va_free (wc := [(h_mod, .inr (5, [.int v5.2, .int mod_gates, .int mod_feeds, .int mod_inputs, .int mod_latches, .int mod_outputs, .ref a_mod_sort, .ref a_mod_number, .ref a_mod_value, .ref a_mod_made, .ref a_mod_to, .ref a_mod_from, .ref a_mod_outputOf, .ref a_mod_negated, .int mod_explored, .ref a_mod_settles, .ref a_mod_next, .ref a_mod_ones, .ref a_mod_distance, .ref a_mod_apart, .ref a_mod_leads]))]) hD hS hA [2] rfl
        refine sx_stI (va_runV (As := []) (rest := [.int p1, .int ((16 : Int32) * p0)]) ⟨hx, hb, hml, hown, hts⟩ (k_Mod_choices l dC dI cI cL cZ t1 t2 h_mod a_mod_sort a_mod_number a_mod_value a_mod_made a_mod_to a_mod_from a_mod_outputOf a_mod_negated a_mod_settles a_mod_next a_mod_ones a_mod_distance a_mod_apart a_mod_leads v5.2 mod_gates mod_feeds mod_inputs mod_latches mod_outputs mod_explored _ v8 hv8) (cwV 0 hts (sx_gV tw_712 tw_714 tw_23 tw_41 tcMod_choices) rfl rfl rfl (by decide +kernel) ⟨Nat.le_of_ble_eq_true rfl, Nat.le_of_ble_eq_true rfl⟩) (sx_pV hK hX hS hPc hDc hFc (va_recv hK hPc (ci := 5) (q0 := 0) rfl rfl)) rfl rfl hl.1 rfl (lv_room (Nat.le_of_ble_eq_true rfl)) dMod_next_50 ⟨Nat.le_of_ble_eq_true rfl, Nat.le_of_ble_eq_true rfl⟩) ?_
        obtain ⟨g10, hm⟩ := gd_el hm
        refine lv_irem hx hb dMod_next_53 g10 ?_
        refine lv_iadd hx hb dMod_next_54 ?_
        refine lv_istore_n (lv' := [(3, .int (((16 : Int32) * p0) + (p1 - p1 / v8 * v8))), (0, .ref h_mod), (1, .int p0), (2, .int p1)]) hx hb dMod_next_55 rfl hl (by decide) rfl (fun ls hl => ?_)
        refine lv_aload_n hx hb dMod_next_56 rfl (lv_at hl 1 rfl) ?_
        refine va_get (D := (dC, dI)) (ci := 5) (v := .ref a_mod_settles) (C := RMod) (T := TMod) (N := 21) hx hb hts inMod hown hK hP 2 rfl rfl 15 (by decide) (hts _ tw_626) (fun _ h9 => h9) rfl dMod_next_57 ?_
        refine lv_iload_n hx hb dMod_next_60 rfl (lv_at hl 0 rfl) ?_
        obtain ⟨g11, hm⟩ := gd_el hm
        refine va_zald hx hb hK hP 0 2 rfl rfl g11 dMod_next_61 ?_
        refine lv_if_eq (tgt := 74) hx hb dMod_next_62 (by decide) (fun c12 => ?_) (fun c12 => ?_)
        · have hm := sx_pos c12 hm
          refine lv_iconst (v := (-1 : Int32)) hx hb dMod_next_74 (by decide) ?_
          obtain rfl := Option.some.inj hm
          exact W.iret (v := (-1 : Int32)) hx hb hr (fun t ht hW => ⟨⟨(-1 : Int32), (), rfl, rfl, sx_Wi (hP.sub (ws' := [(h_mod, .inr (5, [.int v5.2, .int mod_gates, .int mod_feeds, .int mod_inputs, .int mod_latches, .int mod_outputs, .ref a_mod_sort, .ref a_mod_number, .ref a_mod_value, .ref a_mod_made, .ref a_mod_to, .ref a_mod_from, .ref a_mod_outputOf, .ref a_mod_negated, .int mod_explored, .ref a_mod_settles, .ref a_mod_next, .ref a_mod_ones, .ref a_mod_distance, .ref a_mod_apart, .ref a_mod_leads])), (a_mod_settles, .inl (cZ, 4096, .inl mod_settles)), (a_mod_next, .inl (cI, 4096, .inl mod_next))]) [2, 0, 1] rfl) hK (hD.sub (ws' := [(h_mod, .inr (5, [.int v5.2, .int mod_gates, .int mod_feeds, .int mod_inputs, .int mod_latches, .int mod_outputs, .ref a_mod_sort, .ref a_mod_number, .ref a_mod_value, .ref a_mod_made, .ref a_mod_to, .ref a_mod_from, .ref a_mod_outputOf, .ref a_mod_negated, .int mod_explored, .ref a_mod_settles, .ref a_mod_next, .ref a_mod_ones, .ref a_mod_distance, .ref a_mod_apart, .ref a_mod_leads])), (a_mod_settles, .inl (cZ, 4096, .inl mod_settles)), (a_mod_next, .inl (cI, 4096, .inl mod_next))]) [2, 0, 1] (by decide) rfl) ht hW.alike⟩, hS.F ht⟩) hS.2.2 dMod_next_75
        · have hm := sx_neg c12 hm
          refine lv_aload_n hx hb dMod_next_65 rfl (lv_at hl 1 rfl) ?_
          refine va_get (D := (dC, dI)) (ci := 5) (v := .ref a_mod_next) (C := RMod) (T := TMod) (N := 21) hx hb hts inMod hown hK hP 2 rfl rfl 16 (by decide) (hts _ tw_627) (fun _ h9 => h9) rfl dMod_next_66 ?_
          refine lv_iload_n hx hb dMod_next_69 rfl (lv_at hl 0 rfl) ?_
          obtain ⟨g13, hm⟩ := gd_el hm
          refine va_iald hx hb hK hP 1 0 rfl rfl g13 dMod_next_70 ?_
          refine lv_goto (tgt := 75) hx hb dMod_next_71 (by decide) ?_
          obtain rfl := Option.some.inj hm
          exact W.iret (v := mod_next (((16 : Int32) * p0) + (p1 - p1 / v8 * v8)).toNatClampNeg) hx hb hr (fun t ht hW => ⟨⟨(mod_next (((16 : Int32) * p0) + (p1 - p1 / v8 * v8)).toNatClampNeg), (), rfl, rfl, sx_Wi (hP.sub (ws' := [(h_mod, .inr (5, [.int v5.2, .int mod_gates, .int mod_feeds, .int mod_inputs, .int mod_latches, .int mod_outputs, .ref a_mod_sort, .ref a_mod_number, .ref a_mod_value, .ref a_mod_made, .ref a_mod_to, .ref a_mod_from, .ref a_mod_outputOf, .ref a_mod_negated, .int mod_explored, .ref a_mod_settles, .ref a_mod_next, .ref a_mod_ones, .ref a_mod_distance, .ref a_mod_apart, .ref a_mod_leads])), (a_mod_settles, .inl (cZ, 4096, .inl mod_settles)), (a_mod_next, .inl (cI, 4096, .inl mod_next))]) [2, 0, 1] rfl) hK (hD.sub (ws' := [(h_mod, .inr (5, [.int v5.2, .int mod_gates, .int mod_feeds, .int mod_inputs, .int mod_latches, .int mod_outputs, .ref a_mod_sort, .ref a_mod_number, .ref a_mod_value, .ref a_mod_made, .ref a_mod_to, .ref a_mod_from, .ref a_mod_outputOf, .ref a_mod_negated, .int mod_explored, .ref a_mod_settles, .ref a_mod_next, .ref a_mod_ones, .ref a_mod_distance, .ref a_mod_apart, .ref a_mod_leads])), (a_mod_settles, .inl (cZ, 4096, .inl mod_settles)), (a_mod_next, .inl (cI, 4096, .inl mod_next))]) [2, 0, 1] (by decide) rfl) ht hW.alike⟩, hS.F ht⟩) hS.2.2 dMod_next_75
      · have hm := sx_neg c7 hm
        refine lv_iconst (v := (0 : Int32)) hx hb dMod_next_42 (by decide) ?_
        obtain rfl := Option.some.inj hm
        exact W.iret (v := (0 : Int32)) hx hb hr (fun t ht hW => ⟨⟨(0 : Int32), (), rfl, rfl, sx_Wi (hP.sub (ws' := [(h_mod, .inr (5, [.int v5.2, .int mod_gates, .int mod_feeds, .int mod_inputs, .int mod_latches, .int mod_outputs, .ref a_mod_sort, .ref a_mod_number, .ref a_mod_value, .ref a_mod_made, .ref a_mod_to, .ref a_mod_from, .ref a_mod_outputOf, .ref a_mod_negated, .int mod_explored, .ref a_mod_settles, .ref a_mod_next, .ref a_mod_ones, .ref a_mod_distance, .ref a_mod_apart, .ref a_mod_leads])), (a_mod_settles, .inl (cZ, 4096, .inl mod_settles)), (a_mod_next, .inl (cI, 4096, .inl mod_next))]) [2, 0, 1] rfl) hK (hD.sub (ws' := [(h_mod, .inr (5, [.int v5.2, .int mod_gates, .int mod_feeds, .int mod_inputs, .int mod_latches, .int mod_outputs, .ref a_mod_sort, .ref a_mod_number, .ref a_mod_value, .ref a_mod_made, .ref a_mod_to, .ref a_mod_from, .ref a_mod_outputOf, .ref a_mod_negated, .int mod_explored, .ref a_mod_settles, .ref a_mod_next, .ref a_mod_ones, .ref a_mod_distance, .ref a_mod_apart, .ref a_mod_leads])), (a_mod_settles, .inl (cZ, 4096, .inl mod_settles)), (a_mod_next, .inl (cI, 4096, .inl mod_next))]) [2, 0, 1] (by decide) rfl) ht hW.alike⟩, hS.F ht⟩) hS.2.2 dMod_next_43
    obtain ⟨J14, hJ14, hm⟩ := sx_lj hm
    have jJ14 : ∀ (z0J14 : Int32), J14 z0J14 = some v → ∀ (ls : Array Slot), lv_has ls 4 [(0, .ref h_mod), (1, .int p0), (2, .int p1)] → W p l e (headSpec wsMod_next rm_Mod_next).room s m ([.ref h_mod, .int p0, .int p1]).toArray below meth c s.heap [] 0 0 (MQ below (va_Qi (fun (r : Int32) (_ : Unit) => r = v.1) (fun _ t => sx_W (dC, dI) [(cI, .int), (cL, .long), (cZ, .boolean)] A [(h_mod, .inr (5, [.int v.2, .int mod_gates, .int mod_feeds, .int mod_inputs, .int mod_latches, .int mod_outputs, .ref a_mod_sort, .ref a_mod_number, .ref a_mod_value, .ref a_mod_made, .ref a_mod_to, .ref a_mod_from, .ref a_mod_outputOf, .ref a_mod_negated, .int mod_explored, .ref a_mod_settles, .ref a_mod_next, .ref a_mod_ones, .ref a_mod_distance, .ref a_mod_apart, .ref a_mod_leads])), (a_mod_settles, .inl (cZ, 4096, .inl mod_settles)), (a_mod_next, .inl (cI, 4096, .inl mod_next))] t) A) ([.ref h_mod, .int p0, .int p1]).toArray s 0 0 A) (F0 m 31 ls [.int z0J14, .ref h_mod]) := by
      intro z0J14 hm ls hl
      rw [hJ14] at hm
      dsimp only at hm
      refine lv_iconst (v := (1 : Int32)) hx hb dMod_next_31 (by decide) ?_
      refine lv_goto (tgt := 36) hx hb dMod_next_32 (by decide) ?_
      exact jJ4 (1 : Int32) z0J14 hm _ (hl)
    refine lv_if_eq (tgt := 31) hx hb dMod_next_18 (by decide) (fun c15 => ?_) (fun c15 => ?_)
    · have hm := sx_pos c15 hm
      exact jJ14 z0J1 hm _ (hl)
    · have hm := sx_neg c15 hm
      refine lv_iload_n hx hb dMod_next_21 rfl (lv_at hl 2 rfl) ?_
      refine lv_if_lt (tgt := 31) hx hb dMod_next_22 (by decide) (fun c16 => ?_) (fun c16 => ?_)
      · have hm := sx_pos c16 hm
        exact jJ14 z0J1 hm _ (hl)
      · have hm := sx_neg c16 hm
        refine lv_iload_n hx hb dMod_next_25 rfl (lv_at hl 2 rfl) ?_
        refine lv_bipush (v := (15 : Int32)) hx hb dMod_next_26 (by decide) ?_
        refine lv_icmp_le (tgt := 35) hx hb dMod_next_28 (by decide) (fun c17 => ?_) (fun c17 => ?_)
        · have hm := sx_pos c17 hm
          refine lv_iconst (v := (0 : Int32)) hx hb dMod_next_35 (by decide) ?_
          exact jJ4 (0 : Int32) z0J1 hm _ (hl)
        · have hm := sx_neg c17 hm
          exact jJ14 z0J1 hm _ (hl)
  refine lv_if_ne (tgt := 12) hx hb dMod_next_5 (by decide) (fun c18 => ?_) (fun c18 => ?_)
  · have hm := sx_neg c18 hm
    refine lv_iconst (v := (0 : Int32)) hx hb dMod_next_12 (by decide) ?_
    exact jJ1 (0 : Int32) hm _ (hl)
  · have hm := sx_pos c18 hm
    refine lv_iconst (v := (1 : Int32)) hx hb dMod_next_8 (by decide) ?_
    refine lv_goto (tgt := 13) hx hb dMod_next_9 (by decide) ?_
    exact jJ1 (1 : Int32) hm _ (hl)
noncomputable def L_Mod_doubt_46 (mod_inputs mod_latches : Int32) (mod_settles mod_distance : Nat → Int32) (x2 : Int32) : Nat → Int32 → Option ((Int32) ⊕ (Unit))
  | 0, _ => none
  | n + 1, x3 => (m_Mod_states mod_latches).bind (fun v7 => (if (16 : Int32) * v7 ≤ x3 then some (.inr ()) else gd (¬ (16 : Int32) = 0) (gd (vp_in (x3 / (16 : Int32)) 256) ((if mod_distance (x3 / (16 : Int32)).toNatClampNeg = x2 then gd (¬ (16 : Int32) = 0) ((m_Mod_choices mod_inputs).bind (fun v14 => (if v14 ≤ x3 - x3 / (16 : Int32) * (16 : Int32) then (L_Mod_doubt_46 mod_inputs mod_latches mod_settles mod_distance x2 n (x3 + (1 : Int32))) else gd (vp_in x3 4096) ((if mod_settles x3.toNatClampNeg = (0 : Int32) then some (.inl x3) else (L_Mod_doubt_46 mod_inputs mod_latches mod_settles mod_distance x2 n (x3 + (1 : Int32)))))))) else (L_Mod_doubt_46 mod_inputs mod_latches mod_settles mod_distance x2 n (x3 + (1 : Int32))))))))
noncomputable def L_Mod_doubt_37 (mod_inputs mod_latches : Int32) (mod_settles mod_distance : Nat → Int32) : Nat → Int32 → Option ((Int32 × Int32) ⊕ (Unit))
  | 0, _ => none
  | n + 1, x2 => (if (256 : Int32) ≤ x2 then some (.inr ()) else ((L_Mod_doubt_46 mod_inputs mod_latches mod_settles mod_distance x2 fu (0 : Int32)).bind (Sum.elim (fun v20 => some (.inl (x2, v20))) (fun v21 => (L_Mod_doubt_37 mod_inputs mod_latches mod_settles mod_distance n (x2 + (1 : Int32)))))))
noncomputable def m_Mod_doubt (mod_code mod_inputs mod_latches mod_explored : Int32) (mod_settles mod_distance : Nat → Int32) (p0 : Int32) : Option (Int32 × Int32) := (sx_let (fun (z0J1 : Int32) => (sx_let (fun (z0J2 : Int32) (z1J2 : Int32) => (m_Mod_fails mod_code z1J2 z0J2).bind (fun v3 => (if v3.1 = (0 : Int32) then ((L_Mod_doubt_37 mod_inputs mod_latches mod_settles mod_distance fu (0 : Int32)).bind (Sum.elim (fun v23 => (if p0 = (0 : Int32) then some (v23.1, v3.2) else (if p0 = (1 : Int32) then gd (¬ (16 : Int32) = 0) (some (v23.2 / (16 : Int32), v3.2)) else gd (¬ (16 : Int32) = 0) (some (v23.2 - v23.2 / (16 : Int32) * (16 : Int32), v3.2))))) (fun v28 => some ((-1 : Int32), v3.2)))) else some ((0 : Int32), v3.2)))) (fun J2 => sx_let (fun (z0J29 : Int32) => (J2 (1 : Int32) z0J29)) (fun J29 => (if p0 < (0 : Int32) then (J29 z0J1) else (if p0 ≤ (2 : Int32) then (J2 (0 : Int32) z0J1) else (J29 z0J1))))))) (fun J1 => (if mod_explored = (0 : Int32) then (J1 (1 : Int32)) else (J1 (0 : Int32)))))
def rm_Mod_doubt : Room := { frames := 1, cells := 0, slots := 0, locals := 22 }
set_option maxHeartbeats 4000000 in
set_option maxRecDepth 100000 in
theorem w_Mod_doubt_46 {p : Program} {l : Launch} {e : Env} {s : State} {m : MethodId} {args : Array Value} {below : List Frame} {meth : Method} {c : Code} {dC : Nat → ClassId} {dI : Nat → Nat → Nat} {cI cL cZ : ClassId} {A : Nat → Prop} {Q : State → Prop} {t1 t2 : Nat} (C0 : sx_C p s m args meth c cMod_doubt 4 "StateExplorerModel" A (dC, dI) [(cI, .int), (cL, .long), (cZ, .boolean)] t1 t2) (h_mod a_mod_sort a_mod_number a_mod_value a_mod_made a_mod_to a_mod_from a_mod_outputOf a_mod_negated a_mod_settles a_mod_next a_mod_ones a_mod_distance a_mod_apart a_mod_leads : Nat) (mod_code mod_gates mod_feeds mod_inputs mod_latches mod_outputs mod_explored : Int32) (mod_settles mod_distance : Nat → Int32) (x1 : Int32) (x2 : Int32) {H : Heap} {locs : List Loc} (hP : va_P (dC, dI) vwCl [(h_mod, .inr (5, [.int mod_code, .int mod_gates, .int mod_feeds, .int mod_inputs, .int mod_latches, .int mod_outputs, .ref a_mod_sort, .ref a_mod_number, .ref a_mod_value, .ref a_mod_made, .ref a_mod_to, .ref a_mod_from, .ref a_mod_outputOf, .ref a_mod_negated, .int mod_explored, .ref a_mod_settles, .ref a_mod_next, .ref a_mod_ones, .ref a_mod_distance, .ref a_mod_apart, .ref a_mod_leads])), (a_mod_settles, .inl (cZ, 4096, .inl mod_settles)), (a_mod_distance, .inl (cI, 256, .inl mod_distance))] H) (hD : va_D A [(h_mod, .inr (5, [.int mod_code, .int mod_gates, .int mod_feeds, .int mod_inputs, .int mod_latches, .int mod_outputs, .ref a_mod_sort, .ref a_mod_number, .ref a_mod_value, .ref a_mod_made, .ref a_mod_to, .ref a_mod_from, .ref a_mod_outputOf, .ref a_mod_negated, .int mod_explored, .ref a_mod_settles, .ref a_mod_next, .ref a_mod_ones, .ref a_mod_distance, .ref a_mod_apart, .ref a_mod_leads])), (a_mod_settles, .inl (cZ, 4096, .inl mod_settles)), (a_mod_distance, .inl (cI, 256, .inl mod_distance))]) (hS : va_S A s.heap H locs) :
    ∀ (n : Nat) (x3 : Int32)  (r : (Int32) ⊕ (Unit)), L_Mod_doubt_46 mod_inputs mod_latches mod_settles mod_distance x2 n x3 = some r → ∀ (ls : Array Slot), lv_has ls 4 [(0, .ref h_mod), (1, .int x1), (2, .int x2), (3, .int x3)] →
    (∀ (y : Int32), r = .inl y → ∀ (ls : Array Slot), lv_has ls 4 [(1, .int x1), (2, .int x2), (3, .int y)] → W p l e (headSpec wsMod_doubt rm_Mod_doubt).room s m args below meth c H locs 0 0 Q (F0 m 90 ls [])) →
    (∀ (y : Unit), r = .inr y → ∀ (ls : Array Slot), lv_has ls 4 [(0, .ref h_mod), (1, .int x1), (2, .int x2)] → W p l e (headSpec wsMod_doubt rm_Mod_doubt).room s m args below meth c H locs 0 0 Q (F0 m 121 ls [])) →
    W p l e (headSpec wsMod_doubt rm_Mod_doubt).room s m args below meth c H locs 0 0 Q (F0 m 46 ls []) := by
  obtain ⟨hx, hb, hml, hown, hts, hA, hK, hlocks, hX⟩ := id C0
  intro n
  induction n with
  | zero => intro x3 r hm; rw [L_Mod_doubt_46] at hm; cases hm
  | succ n ih =>
    intro x3 r hm ls hl k1 k2
    rw [L_Mod_doubt_46] at hm
    refine lv_iload_n hx hb dMod_doubt_46 rfl (lv_at hl 3 rfl) ?_
    refine lv_bipush (v := (16 : Int32)) hx hb dMod_doubt_47 (by decide) ?_
    refine lv_aload_n hx hb dMod_doubt_49 rfl (lv_at hl 0 rfl) ?_
    obtain ⟨v7, hv7, hm⟩ := sx_bind hm
    have hPc := hP.sub (ws' := [(h_mod, .inr (5, [.int mod_code, .int mod_gates, .int mod_feeds, .int mod_inputs, .int mod_latches, .int mod_outputs, .ref a_mod_sort, .ref a_mod_number, .ref a_mod_value, .ref a_mod_made, .ref a_mod_to, .ref a_mod_from, .ref a_mod_outputOf, .ref a_mod_negated, .int mod_explored, .ref a_mod_settles, .ref a_mod_next, .ref a_mod_ones, .ref a_mod_distance, .ref a_mod_apart, .ref a_mod_leads]))]) [0] rfl
    have hDc := hD.sub (ws' := [(h_mod, .inr (5, [.int mod_code, .int mod_gates, .int mod_feeds, .int mod_inputs, .int mod_latches, .int mod_outputs, .ref a_mod_sort, .ref a_mod_number, .ref a_mod_value, .ref a_mod_made, .ref a_mod_to, .ref a_mod_from, .ref a_mod_outputOf, .ref a_mod_negated, .int mod_explored, .ref a_mod_settles, .ref a_mod_next, .ref a_mod_ones, .ref a_mod_distance, .ref a_mod_apart, .ref a_mod_leads]))]) [0] (by decide) rfl
    have hFc := va_free (wc := [(h_mod, .inr (5, [.int mod_code, .int mod_gates, .int mod_feeds, .int mod_inputs, .int mod_latches, .int mod_outputs, .ref a_mod_sort, .ref a_mod_number, .ref a_mod_value, .ref a_mod_made, .ref a_mod_to, .ref a_mod_from, .ref a_mod_outputOf, .ref a_mod_negated, .int mod_explored, .ref a_mod_settles, .ref a_mod_next, .ref a_mod_ones, .ref a_mod_distance, .ref a_mod_apart, .ref a_mod_leads]))]) hD hS hA [0] rfl
    refine sx_stI (va_runV (As := []) (rest := [.int (16 : Int32), .int x3]) ⟨hx, hb, hml, hown, hts⟩ (k_Mod_states l dC dI cI cL cZ t1 t2 h_mod a_mod_sort a_mod_number a_mod_value a_mod_made a_mod_to a_mod_from a_mod_outputOf a_mod_negated a_mod_settles a_mod_next a_mod_ones a_mod_distance a_mod_apart a_mod_leads mod_code mod_gates mod_feeds mod_inputs mod_latches mod_outputs mod_explored _ v7 hv7) (cwV 0 hts (sx_gV tw_708 tw_710 tw_22 tw_41 tcMod_states) rfl rfl rfl (by decide +kernel) ⟨Nat.le_of_ble_eq_true rfl, Nat.le_of_ble_eq_true rfl⟩) (sx_pV hK hX hS hPc hDc hFc (va_recv hK hPc (ci := 5) (q0 := 0) rfl rfl)) rfl rfl hl.1 rfl (lv_room (Nat.le_of_ble_eq_true rfl)) dMod_doubt_50 ⟨Nat.le_of_ble_eq_true rfl, Nat.le_of_ble_eq_true rfl⟩) ?_
    refine lv_imul hx hb dMod_doubt_53 ?_
    refine lv_icmp_ge (tgt := 121) hx hb dMod_doubt_54 (by decide) (fun c9 => ?_) (fun c9 => ?_)
    · have hm := sx_pos c9 hm
      obtain rfl := Option.some.inj hm
      exact k2 _ rfl _ (lv_sub hl [0, 1, 2] rfl)
    · have hm := sx_neg c9 hm
      refine lv_aload_n hx hb dMod_doubt_57 rfl (lv_at hl 0 rfl) ?_
      refine va_get (D := (dC, dI)) (ci := 5) (v := .ref a_mod_distance) (C := RMod) (T := TMod) (N := 21) hx hb hts inMod hown hK hP 0 rfl rfl 18 (by decide) (hts _ tw_629) (fun _ h9 => h9) rfl dMod_doubt_58 ?_
      refine lv_iload_n hx hb dMod_doubt_61 rfl (lv_at hl 3 rfl) ?_
      refine lv_bipush (v := (16 : Int32)) hx hb dMod_doubt_62 (by decide) ?_
      obtain ⟨g10, hm⟩ := gd_el hm
      refine lv_idiv hx hb dMod_doubt_64 g10 ?_
      obtain ⟨g11, hm⟩ := gd_el hm
      refine va_iald hx hb hK hP 2 0 rfl rfl g11 dMod_doubt_65 ?_
      refine lv_iload_n hx hb dMod_doubt_66 rfl (lv_at hl 2 rfl) ?_
      refine lv_icmp_ne (tgt := 115) hx hb dMod_doubt_67 (by decide) (fun c12 => ?_) (fun c12 => ?_)
      · have hm := sx_neg c12 hm
        refine lv_iinc (v := x3 + (1 : Int32)) (lv' := [(3, .int (x3 + (1 : Int32))), (0, .ref h_mod), (1, .int x1), (2, .int x2)]) hx hb dMod_doubt_115 hl (k := 3) rfl rfl (by decide) rfl (fun ls hl => ?_)
        refine lv_goto (tgt := 46) hx hb dMod_doubt_118 (by decide) ?_
        exact ih (x3 + (1 : Int32)) r hm _ (lv_sub hl [1, 2, 3, 0] rfl) k1 k2
      · have hm := sx_pos c12 hm
        refine lv_iload_n hx hb dMod_doubt_70 rfl (lv_at hl 3 rfl) ?_
        refine lv_bipush (v := (16 : Int32)) hx hb dMod_doubt_71 (by decide) ?_
        obtain ⟨g13, hm⟩ := gd_el hm
        refine lv_irem hx hb dMod_doubt_73 g13 ?_
        refine lv_aload_n hx hb dMod_doubt_74 rfl (lv_at hl 0 rfl) ?_
        obtain ⟨v14, hv14, hm⟩ := sx_bind hm
        have hPc := hP.sub (ws' := [(h_mod, .inr (5, [.int mod_code, .int mod_gates, .int mod_feeds, .int mod_inputs, .int mod_latches, .int mod_outputs, .ref a_mod_sort, .ref a_mod_number, .ref a_mod_value, .ref a_mod_made, .ref a_mod_to, .ref a_mod_from, .ref a_mod_outputOf, .ref a_mod_negated, .int mod_explored, .ref a_mod_settles, .ref a_mod_next, .ref a_mod_ones, .ref a_mod_distance, .ref a_mod_apart, .ref a_mod_leads]))]) [0] rfl
        have hDc := hD.sub (ws' := [(h_mod, .inr (5, [.int mod_code, .int mod_gates, .int mod_feeds, .int mod_inputs, .int mod_latches, .int mod_outputs, .ref a_mod_sort, .ref a_mod_number, .ref a_mod_value, .ref a_mod_made, .ref a_mod_to, .ref a_mod_from, .ref a_mod_outputOf, .ref a_mod_negated, .int mod_explored, .ref a_mod_settles, .ref a_mod_next, .ref a_mod_ones, .ref a_mod_distance, .ref a_mod_apart, .ref a_mod_leads]))]) [0] (by decide) rfl
        have hFc := va_free (wc := [(h_mod, .inr (5, [.int mod_code, .int mod_gates, .int mod_feeds, .int mod_inputs, .int mod_latches, .int mod_outputs, .ref a_mod_sort, .ref a_mod_number, .ref a_mod_value, .ref a_mod_made, .ref a_mod_to, .ref a_mod_from, .ref a_mod_outputOf, .ref a_mod_negated, .int mod_explored, .ref a_mod_settles, .ref a_mod_next, .ref a_mod_ones, .ref a_mod_distance, .ref a_mod_apart, .ref a_mod_leads]))]) hD hS hA [0] rfl
        refine sx_stI (va_runV (As := []) (rest := [.int (x3 - x3 / (16 : Int32) * (16 : Int32))]) ⟨hx, hb, hml, hown, hts⟩ (k_Mod_choices l dC dI cI cL cZ t1 t2 h_mod a_mod_sort a_mod_number a_mod_value a_mod_made a_mod_to a_mod_from a_mod_outputOf a_mod_negated a_mod_settles a_mod_next a_mod_ones a_mod_distance a_mod_apart a_mod_leads mod_code mod_gates mod_feeds mod_inputs mod_latches mod_outputs mod_explored _ v14 hv14) (cwV 0 hts (sx_gV tw_712 tw_714 tw_23 tw_41 tcMod_choices) rfl rfl rfl (by decide +kernel) ⟨Nat.le_of_ble_eq_true rfl, Nat.le_of_ble_eq_true rfl⟩) (sx_pV hK hX hS hPc hDc hFc (va_recv hK hPc (ci := 5) (q0 := 0) rfl rfl)) rfl rfl hl.1 rfl (lv_room (Nat.le_of_ble_eq_true rfl)) dMod_doubt_75 ⟨Nat.le_of_ble_eq_true rfl, Nat.le_of_ble_eq_true rfl⟩) ?_
        refine lv_icmp_ge (tgt := 115) hx hb dMod_doubt_78 (by decide) (fun c16 => ?_) (fun c16 => ?_)
        · have hm := sx_pos c16 hm
          refine lv_iinc (v := x3 + (1 : Int32)) (lv' := [(3, .int (x3 + (1 : Int32))), (0, .ref h_mod), (1, .int x1), (2, .int x2)]) hx hb dMod_doubt_115 hl (k := 3) rfl rfl (by decide) rfl (fun ls hl => ?_)
          refine lv_goto (tgt := 46) hx hb dMod_doubt_118 (by decide) ?_
          exact ih (x3 + (1 : Int32)) r hm _ (lv_sub hl [1, 2, 3, 0] rfl) k1 k2
        · have hm := sx_neg c16 hm
          refine lv_aload_n hx hb dMod_doubt_81 rfl (lv_at hl 0 rfl) ?_
          refine va_get (D := (dC, dI)) (ci := 5) (v := .ref a_mod_settles) (C := RMod) (T := TMod) (N := 21) hx hb hts inMod hown hK hP 0 rfl rfl 15 (by decide) (hts _ tw_626) (fun _ h9 => h9) rfl dMod_doubt_82 ?_
          refine lv_iload_n hx hb dMod_doubt_85 rfl (lv_at hl 3 rfl) ?_
          obtain ⟨g17, hm⟩ := gd_el hm
          refine va_zald hx hb hK hP 1 2 rfl rfl g17 dMod_doubt_86 ?_
          refine lv_if_ne (tgt := 115) hx hb dMod_doubt_87 (by decide) (fun c18 => ?_) (fun c18 => ?_)
          · have hm := sx_neg c18 hm
            refine lv_iinc (v := x3 + (1 : Int32)) (lv' := [(3, .int (x3 + (1 : Int32))), (0, .ref h_mod), (1, .int x1), (2, .int x2)]) hx hb dMod_doubt_115 hl (k := 3) rfl rfl (by decide) rfl (fun ls hl => ?_)
            refine lv_goto (tgt := 46) hx hb dMod_doubt_118 (by decide) ?_
            exact ih (x3 + (1 : Int32)) r hm _ (lv_sub hl [1, 2, 3, 0] rfl) k1 k2
          · have hm := sx_pos c18 hm
            obtain rfl := Option.some.inj hm
            exact k1 _ rfl _ (lv_sub hl [1, 2, 3] rfl)
set_option maxHeartbeats 4000000 in
set_option maxRecDepth 100000 in
theorem w_Mod_doubt_37 {p : Program} {l : Launch} {e : Env} {s : State} {m : MethodId} {args : Array Value} {below : List Frame} {meth : Method} {c : Code} {dC : Nat → ClassId} {dI : Nat → Nat → Nat} {cI cL cZ : ClassId} {A : Nat → Prop} {Q : State → Prop} {t1 t2 : Nat} (C0 : sx_C p s m args meth c cMod_doubt 4 "StateExplorerModel" A (dC, dI) [(cI, .int), (cL, .long), (cZ, .boolean)] t1 t2) (h_mod a_mod_sort a_mod_number a_mod_value a_mod_made a_mod_to a_mod_from a_mod_outputOf a_mod_negated a_mod_settles a_mod_next a_mod_ones a_mod_distance a_mod_apart a_mod_leads : Nat) (mod_code mod_gates mod_feeds mod_inputs mod_latches mod_outputs mod_explored : Int32) (mod_settles mod_distance : Nat → Int32) (x1 : Int32) {H : Heap} {locs : List Loc} (hP : va_P (dC, dI) vwCl [(h_mod, .inr (5, [.int mod_code, .int mod_gates, .int mod_feeds, .int mod_inputs, .int mod_latches, .int mod_outputs, .ref a_mod_sort, .ref a_mod_number, .ref a_mod_value, .ref a_mod_made, .ref a_mod_to, .ref a_mod_from, .ref a_mod_outputOf, .ref a_mod_negated, .int mod_explored, .ref a_mod_settles, .ref a_mod_next, .ref a_mod_ones, .ref a_mod_distance, .ref a_mod_apart, .ref a_mod_leads])), (a_mod_settles, .inl (cZ, 4096, .inl mod_settles)), (a_mod_distance, .inl (cI, 256, .inl mod_distance))] H) (hD : va_D A [(h_mod, .inr (5, [.int mod_code, .int mod_gates, .int mod_feeds, .int mod_inputs, .int mod_latches, .int mod_outputs, .ref a_mod_sort, .ref a_mod_number, .ref a_mod_value, .ref a_mod_made, .ref a_mod_to, .ref a_mod_from, .ref a_mod_outputOf, .ref a_mod_negated, .int mod_explored, .ref a_mod_settles, .ref a_mod_next, .ref a_mod_ones, .ref a_mod_distance, .ref a_mod_apart, .ref a_mod_leads])), (a_mod_settles, .inl (cZ, 4096, .inl mod_settles)), (a_mod_distance, .inl (cI, 256, .inl mod_distance))]) (hS : va_S A s.heap H locs) :
    ∀ (n : Nat) (x2 : Int32)  (r : (Int32 × Int32) ⊕ (Unit)), L_Mod_doubt_37 mod_inputs mod_latches mod_settles mod_distance n x2 = some r → ∀ (ls : Array Slot), lv_has ls 4 [(0, .ref h_mod), (1, .int x1), (2, .int x2)] →
    (∀ (y : Int32 × Int32), r = .inl y → ∀ (ls : Array Slot), lv_has ls 4 [(1, .int x1), (2, .int y.1), (3, .int y.2)] → W p l e (headSpec wsMod_doubt rm_Mod_doubt).room s m args below meth c H locs 0 0 Q (F0 m 90 ls [])) →
    (∀ (y : Unit), r = .inr y → ∀ (ls : Array Slot), lv_has ls 4 [] → W p l e (headSpec wsMod_doubt rm_Mod_doubt).room s m args below meth c H locs 0 0 Q (F0 m 127 ls [])) →
    W p l e (headSpec wsMod_doubt rm_Mod_doubt).room s m args below meth c H locs 0 0 Q (F0 m 37 ls []) := by
  obtain ⟨hx, hb, hml, hown, hts, hA, hK, hlocks, hX⟩ := id C0
  intro n
  induction n with
  | zero => intro x2 r hm; rw [L_Mod_doubt_37] at hm; cases hm
  | succ n ih =>
    intro x2 r hm ls hl k1 k2
    rw [L_Mod_doubt_37] at hm
    refine lv_iload_n hx hb dMod_doubt_37 rfl (lv_at hl 2 rfl) ?_
    refine lv_sipush (v := (256 : Int32)) hx hb dMod_doubt_38 (by decide) ?_
    refine lv_icmp_ge (tgt := 127) hx hb dMod_doubt_41 (by decide) (fun c6 => ?_) (fun c6 => ?_)
    · have hm := sx_pos c6 hm
      obtain rfl := Option.some.inj hm
      exact k2 _ rfl _ (lv_sub hl [] rfl)
    · have hm := sx_neg c6 hm
      refine lv_iconst (v := (0 : Int32)) hx hb dMod_doubt_44 (by decide) ?_
      refine lv_istore_n (lv' := [(3, .int (0 : Int32)), (0, .ref h_mod), (1, .int x1), (2, .int x2)]) hx hb dMod_doubt_45 rfl hl (by decide) rfl (fun ls hl => ?_)
      obtain ⟨v19, hv19, hm⟩ := sx_bind hm
      refine w_Mod_doubt_46 C0 h_mod a_mod_sort a_mod_number a_mod_value a_mod_made a_mod_to a_mod_from a_mod_outputOf a_mod_negated a_mod_settles a_mod_next a_mod_ones a_mod_distance a_mod_apart a_mod_leads mod_code mod_gates mod_feeds mod_inputs mod_latches mod_outputs mod_explored mod_settles mod_distance x1 x2 hP hD hS _ (0 : Int32) v19 hv19 _ (lv_sub hl [1, 2, 3, 0] rfl) ?_ ?_
      · intro v20 he ls hl
        subst he
        obtain rfl := Option.some.inj hm
        exact k1 _ rfl _ (hl)
      · intro v21 he ls hl
        subst he
        refine lv_iinc (v := x2 + (1 : Int32)) (lv' := [(2, .int (x2 + (1 : Int32))), (0, .ref h_mod), (1, .int x1)]) hx hb dMod_doubt_121 hl (k := 2) rfl rfl (by decide) rfl (fun ls hl => ?_)
        refine lv_goto (tgt := 37) hx hb dMod_doubt_124 (by decide) ?_
        exact ih (x2 + (1 : Int32)) r hm _ (lv_sub hl [1, 2, 0] rfl) k1 k2
set_option maxHeartbeats 4000000 in
set_option maxRecDepth 100000 in
theorem k_Mod_doubt (l : Launch) (dC : Nat → ClassId) (dI : Nat → Nat → Nat) (cI cL cZ : ClassId) (t1 t2 : Nat) (h_mod a_mod_sort a_mod_number a_mod_value a_mod_made a_mod_to a_mod_from a_mod_outputOf a_mod_negated a_mod_settles a_mod_next a_mod_ones a_mod_distance a_mod_apart a_mod_leads : Nat) (mod_code mod_gates mod_feeds mod_inputs mod_latches mod_outputs mod_explored : Int32) (mod_settles mod_distance : Nat → Int32) (sz : Nat) (p0 : Int32) (v : Int32 × Int32) (hm : m_Mod_doubt mod_code mod_inputs mod_latches mod_explored mod_settles mod_distance p0 = some v) : Met l yMod_doubt wsMod_doubt rm_Mod_doubt (sx_Pc (dC, dI) [(cI, .int), (cL, .long), (cZ, .boolean)] t1 t2 [(h_mod, .inr (5, [.int mod_code, .int mod_gates, .int mod_feeds, .int mod_inputs, .int mod_latches, .int mod_outputs, .ref a_mod_sort, .ref a_mod_number, .ref a_mod_value, .ref a_mod_made, .ref a_mod_to, .ref a_mod_from, .ref a_mod_outputOf, .ref a_mod_negated, .int mod_explored, .ref a_mod_settles, .ref a_mod_next, .ref a_mod_ones, .ref a_mod_distance, .ref a_mod_apart, .ref a_mod_leads])), (a_mod_settles, .inl (cZ, 4096, .inl mod_settles)), (a_mod_distance, .inl (cI, 256, .inl mod_distance))] sz [.ref h_mod, .int p0]) (va_Qi (fun (r : Int32) (_ : Unit) => r = v.1) (fun _ t => sx_W (dC, dI) [(cI, .int), (cL, .long), (cZ, .boolean)] (va_A [(h_mod, .inr (5, [.int mod_code, .int mod_gates, .int mod_feeds, .int mod_inputs, .int mod_latches, .int mod_outputs, .ref a_mod_sort, .ref a_mod_number, .ref a_mod_value, .ref a_mod_made, .ref a_mod_to, .ref a_mod_from, .ref a_mod_outputOf, .ref a_mod_negated, .int mod_explored, .ref a_mod_settles, .ref a_mod_next, .ref a_mod_ones, .ref a_mod_distance, .ref a_mod_apart, .ref a_mod_leads])), (a_mod_settles, .inl (cZ, 4096, .inl mod_settles)), (a_mod_distance, .inl (cI, 256, .inl mod_distance))] sz) [(h_mod, .inr (5, [.int v.2, .int mod_gates, .int mod_feeds, .int mod_inputs, .int mod_latches, .int mod_outputs, .ref a_mod_sort, .ref a_mod_number, .ref a_mod_value, .ref a_mod_made, .ref a_mod_to, .ref a_mod_from, .ref a_mod_outputOf, .ref a_mod_negated, .int mod_explored, .ref a_mod_settles, .ref a_mod_next, .ref a_mod_ones, .ref a_mod_distance, .ref a_mod_apart, .ref a_mod_leads])), (a_mod_settles, .inl (cZ, 4096, .inl mod_settles)), (a_mod_distance, .inl (cI, 256, .inl mod_distance))] t) (va_A [(h_mod, .inr (5, [.int mod_code, .int mod_gates, .int mod_feeds, .int mod_inputs, .int mod_latches, .int mod_outputs, .ref a_mod_sort, .ref a_mod_number, .ref a_mod_value, .ref a_mod_made, .ref a_mod_to, .ref a_mod_from, .ref a_mod_outputOf, .ref a_mod_negated, .int mod_explored, .ref a_mod_settles, .ref a_mod_next, .ref a_mod_ones, .ref a_mod_distance, .ref a_mod_apart, .ref a_mod_leads])), (a_mod_settles, .inl (cZ, 4096, .inl mod_settles)), (a_mod_distance, .inl (cI, 256, .inl mod_distance))] sz)) 0 0 (va_A [(h_mod, .inr (5, [.int mod_code, .int mod_gates, .int mod_feeds, .int mod_inputs, .int mod_latches, .int mod_outputs, .ref a_mod_sort, .ref a_mod_number, .ref a_mod_value, .ref a_mod_made, .ref a_mod_to, .ref a_mod_from, .ref a_mod_outputOf, .ref a_mod_negated, .int mod_explored, .ref a_mod_settles, .ref a_mod_next, .ref a_mod_ones, .ref a_mod_distance, .ref a_mod_apart, .ref a_mod_leads])), (a_mod_settles, .inl (cZ, 4096, .inl mod_settles)), (a_mod_distance, .inl (cI, 256, .inl mod_distance))] sz) := by
  refine Met.ofW (cc := cMod_doubt) (maxL := 4) (ret := (some .int)) (by decide) rfl ?_
  intro p e s m args below meth c s₁ B hml hv
  obtain ⟨rfl, hsz, hP, hK, hD0, hX⟩ := hv
  have hx := B.exec
  have hb := B.bytes
  have hr := B.returns
  have hts0 := atoms_spec (ws := wsMod_doubt) B.pre
  have hts : ∀ w ∈ tb, w.before _ s = true := fun w h => hts0 w (List.mem_cons_of_mem _ h)
  have hown : s.vm.findClass "StateExplorerModel" = some m.cls := findClass_of_methodNamed B.named
  have hlocks := B.notSynchronized
  subst hsz
  have hD := hD0.self (sz := s.heap.size)
  generalize hAe : va_A [(h_mod, .inr (5, [.int mod_code, .int mod_gates, .int mod_feeds, .int mod_inputs, .int mod_latches, .int mod_outputs, .ref a_mod_sort, .ref a_mod_number, .ref a_mod_value, .ref a_mod_made, .ref a_mod_to, .ref a_mod_from, .ref a_mod_outputOf, .ref a_mod_negated, .int mod_explored, .ref a_mod_settles, .ref a_mod_next, .ref a_mod_ones, .ref a_mod_distance, .ref a_mod_apart, .ref a_mod_leads])), (a_mod_settles, .inl (cZ, 4096, .inl mod_settles)), (a_mod_distance, .inl (cI, 256, .inl mod_distance))] s.heap.size = A at hD hX ⊢
  have hA : ∀ q : Nat, s.heap.size ≤ q → A q := fun q h => by rw [← hAe]; exact Or.inr h
  have hS : va_S A s.heap s.heap [] := va_S.rf
  have hl := lv_entry ([.ref h_mod, .int p0]) (n := 4) (Nat.le_of_ble_eq_true rfl)
  rw [lg_entry_eq]
  generalize (lg_sl ([.ref h_mod, .int p0]) ++ List.replicate (4 - (lg_sl ([.ref h_mod, .int p0])).length) Slot.unset).toArray = ls at hl ⊢
  have hl : lv_has ls 4 [(0, .ref h_mod), (1, .int p0)] := hl
  have C0 : sx_C p s m _ meth c cMod_doubt 4 "StateExplorerModel" A (dC, dI) [(cI, .int), (cL, .long), (cZ, .boolean)] t1 t2 := ⟨hx, hb, hml, hown, hts, hA, hK, hlocks, hX⟩
  rw [m_Mod_doubt] at hm
  refine lv_aload_n hx hb dMod_doubt_0 rfl (lv_at hl 0 rfl) ?_
  refine lv_aload_n hx hb dMod_doubt_1 rfl (lv_at hl 0 rfl) ?_
  refine va_get (D := (dC, dI)) (ci := 5) (v := .int mod_explored) (C := RMod) (T := TMod) (N := 21) hx hb hts inMod hown hK hP 0 rfl rfl 14 (by decide) (hts _ tw_625) (fun _ h9 => h9) rfl dMod_doubt_2 ?_
  obtain ⟨J1, hJ1, hm⟩ := sx_lj hm
  have jJ1 : ∀ (z0J1 : Int32), J1 z0J1 = some v → ∀ (ls : Array Slot), lv_has ls 4 [(0, .ref h_mod), (1, .int p0)] → W p l e (headSpec wsMod_doubt rm_Mod_doubt).room s m ([.ref h_mod, .int p0]).toArray below meth c s.heap [] 0 0 (MQ below (va_Qi (fun (r : Int32) (_ : Unit) => r = v.1) (fun _ t => sx_W (dC, dI) [(cI, .int), (cL, .long), (cZ, .boolean)] A [(h_mod, .inr (5, [.int v.2, .int mod_gates, .int mod_feeds, .int mod_inputs, .int mod_latches, .int mod_outputs, .ref a_mod_sort, .ref a_mod_number, .ref a_mod_value, .ref a_mod_made, .ref a_mod_to, .ref a_mod_from, .ref a_mod_outputOf, .ref a_mod_negated, .int mod_explored, .ref a_mod_settles, .ref a_mod_next, .ref a_mod_ones, .ref a_mod_distance, .ref a_mod_apart, .ref a_mod_leads])), (a_mod_settles, .inl (cZ, 4096, .inl mod_settles)), (a_mod_distance, .inl (cI, 256, .inl mod_distance))] t) A) ([.ref h_mod, .int p0]).toArray s 0 0 A) (F0 m 13 ls [.int z0J1, .ref h_mod]) := by
    intro z0J1 hm ls hl
    rw [hJ1] at hm
    dsimp only at hm
    refine lv_iload_n hx hb dMod_doubt_13 rfl (lv_at hl 1 rfl) ?_
    obtain ⟨J2, hJ2, hm⟩ := sx_lj hm
    have jJ2 : ∀ (z0J2 : Int32) (z1J2 : Int32), J2 z0J2 z1J2 = some v → ∀ (ls : Array Slot), lv_has ls 4 [(0, .ref h_mod), (1, .int p0)] → W p l e (headSpec wsMod_doubt rm_Mod_doubt).room s m ([.ref h_mod, .int p0]).toArray below meth c s.heap [] 0 0 (MQ below (va_Qi (fun (r : Int32) (_ : Unit) => r = v.1) (fun _ t => sx_W (dC, dI) [(cI, .int), (cL, .long), (cZ, .boolean)] A [(h_mod, .inr (5, [.int v.2, .int mod_gates, .int mod_feeds, .int mod_inputs, .int mod_latches, .int mod_outputs, .ref a_mod_sort, .ref a_mod_number, .ref a_mod_value, .ref a_mod_made, .ref a_mod_to, .ref a_mod_from, .ref a_mod_outputOf, .ref a_mod_negated, .int mod_explored, .ref a_mod_settles, .ref a_mod_next, .ref a_mod_ones, .ref a_mod_distance, .ref a_mod_apart, .ref a_mod_leads])), (a_mod_settles, .inl (cZ, 4096, .inl mod_settles)), (a_mod_distance, .inl (cI, 256, .inl mod_distance))] t) A) ([.ref h_mod, .int p0]).toArray s 0 0 A) (F0 m 27 ls [.int z0J2, .int z1J2, .ref h_mod]) := by
      intro z0J2 z1J2 hm ls hl
      rw [hJ2] at hm
      dsimp only at hm
      obtain ⟨v3, hv3, hm⟩ := sx_bind hm
      have hPc := hP.sub (ws' := [(h_mod, .inr (5, [.int mod_code, .int mod_gates, .int mod_feeds, .int mod_inputs, .int mod_latches, .int mod_outputs, .ref a_mod_sort, .ref a_mod_number, .ref a_mod_value, .ref a_mod_made, .ref a_mod_to, .ref a_mod_from, .ref a_mod_outputOf, .ref a_mod_negated, .int mod_explored, .ref a_mod_settles, .ref a_mod_next, .ref a_mod_ones, .ref a_mod_distance, .ref a_mod_apart, .ref a_mod_leads]))]) [0] rfl
      have hDc := hD.sub (ws' := [(h_mod, .inr (5, [.int mod_code, .int mod_gates, .int mod_feeds, .int mod_inputs, .int mod_latches, .int mod_outputs, .ref a_mod_sort, .ref a_mod_number, .ref a_mod_value, .ref a_mod_made, .ref a_mod_to, .ref a_mod_from, .ref a_mod_outputOf, .ref a_mod_negated, .int mod_explored, .ref a_mod_settles, .ref a_mod_next, .ref a_mod_ones, .ref a_mod_distance, .ref a_mod_apart, .ref a_mod_leads]))]) [0] (by decide) rfl
      have hFc := va_free (wc := [(h_mod, .inr (5, [.int mod_code, .int mod_gates, .int mod_feeds, .int mod_inputs, .int mod_latches, .int mod_outputs, .ref a_mod_sort, .ref a_mod_number, .ref a_mod_value, .ref a_mod_made, .ref a_mod_to, .ref a_mod_from, .ref a_mod_outputOf, .ref a_mod_negated, .int mod_explored, .ref a_mod_settles, .ref a_mod_next, .ref a_mod_ones, .ref a_mod_distance, .ref a_mod_apart, .ref a_mod_leads]))]) hD hS hA [0] rfl
      refine va_calli (va_runV (As := [.int z1J2, .int z0J2]) (rest := []) ⟨hx, hb, hml, hown, hts⟩ (k_Mod_fails l dC dI cI cL cZ t1 t2 h_mod a_mod_sort a_mod_number a_mod_value a_mod_made a_mod_to a_mod_from a_mod_outputOf a_mod_negated a_mod_settles a_mod_next a_mod_ones a_mod_distance a_mod_apart a_mod_leads mod_code mod_gates mod_feeds mod_inputs mod_latches mod_outputs mod_explored _ z1J2 z0J2 v3 hv3) (cwV 2 hts (sx_gV tw_680 tw_682 tw_19 tw_41 tcMod_fails) rfl rfl rfl (by decide +kernel) ⟨Nat.le_of_ble_eq_true rfl, Nat.le_of_ble_eq_true rfl⟩) (sx_pV hK hX hS hPc hDc hFc (va_recv hK hPc (ci := 5) (q0 := 0) rfl rfl)) rfl rfl hl.1 rfl (lv_room (Nat.le_of_ble_eq_true rfl)) dMod_doubt_27 ⟨Nat.le_of_ble_eq_true rfl, Nat.le_of_ble_eq_true rfl⟩) hS (fun q _ h => hFc q h) hFc (fun r4 u_ t_ H locs ht hvm hw hB hz1 hk1 hS => ?_)
      obtain ⟨hP1, -, hD1⟩ := hB
      rw [ht] at hP1
      obtain ⟨hP, hD⟩ := va_join (wr := [(a_mod_settles, .inl (cZ, 4096, .inl mod_settles)), (a_mod_distance, .inl (cI, 256, .inl mod_distance))]) (w1 := [(h_mod, .inr (5, [.int v3.2, .int mod_gates, .int mod_feeds, .int mod_inputs, .int mod_latches, .int mod_outputs, .ref a_mod_sort, .ref a_mod_number, .ref a_mod_value, .ref a_mod_made, .ref a_mod_to, .ref a_mod_from, .ref a_mod_outputOf, .ref a_mod_negated, .int mod_explored, .ref a_mod_settles, .ref a_mod_next, .ref a_mod_ones, .ref a_mod_distance, .ref a_mod_apart, .ref a_mod_leads]))]) hP hD [0] [1, 2] rfl rfl (by decide) (by decide) hk1 hFc hP1 hD1
      have hP : va_P (dC, dI) vwCl [(a_mod_settles, .inl (cZ, 4096, .inl mod_settles)), (a_mod_distance, .inl (cI, 256, .inl mod_distance)), (h_mod, .inr (5, [.int v3.2, .int mod_gates, .int mod_feeds, .int mod_inputs, .int mod_latches, .int mod_outputs, .ref a_mod_sort, .ref a_mod_number, .ref a_mod_value, .ref a_mod_made, .ref a_mod_to, .ref a_mod_from, .ref a_mod_outputOf, .ref a_mod_negated, .int mod_explored, .ref a_mod_settles, .ref a_mod_next, .ref a_mod_ones, .ref a_mod_distance, .ref a_mod_apart, .ref a_mod_leads]))] H := hP
      have hD : va_D A [(a_mod_settles, .inl (cZ, 4096, .inl mod_settles)), (a_mod_distance, .inl (cI, 256, .inl mod_distance)), (h_mod, .inr (5, [.int v3.2, .int mod_gates, .int mod_feeds, .int mod_inputs, .int mod_latches, .int mod_outputs, .ref a_mod_sort, .ref a_mod_number, .ref a_mod_value, .ref a_mod_made, .ref a_mod_to, .ref a_mod_from, .ref a_mod_outputOf, .ref a_mod_negated, .int mod_explored, .ref a_mod_settles, .ref a_mod_next, .ref a_mod_ones, .ref a_mod_distance, .ref a_mod_apart, .ref a_mod_leads]))] := hD
      have hw9 := hw.symm
      subst hw9
      refine lv_if_eq (tgt := 35) hx hb dMod_doubt_30 (by decide) (fun c5 => ?_) (fun c5 => ?_)
      · have hm := sx_pos c5 hm
        refine lv_iconst (v := (0 : Int32)) hx hb dMod_doubt_35 (by decide) ?_
        refine lv_istore_n (lv' := [(2, .int (0 : Int32)), (0, .ref h_mod), (1, .int p0)]) hx hb dMod_doubt_36 rfl hl (by decide) rfl (fun ls hl => ?_)
        obtain ⟨v22, hv22, hm⟩ := sx_bind hm
        refine w_Mod_doubt_37 C0 h_mod a_mod_sort a_mod_number a_mod_value a_mod_made a_mod_to a_mod_from a_mod_outputOf a_mod_negated a_mod_settles a_mod_next a_mod_ones a_mod_distance a_mod_apart a_mod_leads v3.2 mod_gates mod_feeds mod_inputs mod_latches mod_outputs mod_explored mod_settles mod_distance p0 (hP.sub (ws' := [(h_mod, .inr (5, [.int v3.2, .int mod_gates, .int mod_feeds, .int mod_inputs, .int mod_latches, .int mod_outputs, .ref a_mod_sort, .ref a_mod_number, .ref a_mod_value, .ref a_mod_made, .ref a_mod_to, .ref a_mod_from, .ref a_mod_outputOf, .ref a_mod_negated, .int mod_explored, .ref a_mod_settles, .ref a_mod_next, .ref a_mod_ones, .ref a_mod_distance, .ref a_mod_apart, .ref a_mod_leads])), (a_mod_settles, .inl (cZ, 4096, .inl mod_settles)), (a_mod_distance, .inl (cI, 256, .inl mod_distance))]) [2, 0, 1] rfl) (hD.sub (ws' := [(h_mod, .inr (5, [.int v3.2, .int mod_gates, .int mod_feeds, .int mod_inputs, .int mod_latches, .int mod_outputs, .ref a_mod_sort, .ref a_mod_number, .ref a_mod_value, .ref a_mod_made, .ref a_mod_to, .ref a_mod_from, .ref a_mod_outputOf, .ref a_mod_negated, .int mod_explored, .ref a_mod_settles, .ref a_mod_next, .ref a_mod_ones, .ref a_mod_distance, .ref a_mod_apart, .ref a_mod_leads])), (a_mod_settles, .inl (cZ, 4096, .inl mod_settles)), (a_mod_distance, .inl (cI, 256, .inl mod_distance))]) [2, 0, 1] (by decide) rfl) hS _ (0 : Int32) v22 hv22 _ (lv_sub hl [1, 2, 0] rfl) ?_ ?_
        · intro v23 he ls hl
          subst he
          refine lv_iload_n hx hb dMod_doubt_90 rfl (lv_at hl 0 rfl) ?_
          refine lv_if_ne (tgt := 98) hx hb dMod_doubt_91 (by decide) (fun c24 => ?_) (fun c24 => ?_)
          · have hm := sx_neg c24 hm
            refine lv_iload_n hx hb dMod_doubt_98 rfl (lv_at hl 0 rfl) ?_
            refine lv_iconst (v := (1 : Int32)) hx hb dMod_doubt_99 (by decide) ?_
            refine lv_icmp_ne (tgt := 110) hx hb dMod_doubt_100 (by decide) (fun c25 => ?_) (fun c25 => ?_)
            · have hm := sx_neg c25 hm
              refine lv_iload_n hx hb dMod_doubt_110 rfl (lv_at hl 2 rfl) ?_
              refine lv_bipush (v := (16 : Int32)) hx hb dMod_doubt_111 (by decide) ?_
              obtain ⟨g26, hm⟩ := gd_el hm
              refine lv_irem hx hb dMod_doubt_113 g26 ?_
              obtain rfl := Option.some.inj hm
              exact W.iret (v := v23.2 - v23.2 / (16 : Int32) * (16 : Int32)) hx hb hr (fun t ht hW => ⟨⟨(v23.2 - v23.2 / (16 : Int32) * (16 : Int32)), (), rfl, rfl, sx_Wi (hP.sub (ws' := [(h_mod, .inr (5, [.int v3.2, .int mod_gates, .int mod_feeds, .int mod_inputs, .int mod_latches, .int mod_outputs, .ref a_mod_sort, .ref a_mod_number, .ref a_mod_value, .ref a_mod_made, .ref a_mod_to, .ref a_mod_from, .ref a_mod_outputOf, .ref a_mod_negated, .int mod_explored, .ref a_mod_settles, .ref a_mod_next, .ref a_mod_ones, .ref a_mod_distance, .ref a_mod_apart, .ref a_mod_leads])), (a_mod_settles, .inl (cZ, 4096, .inl mod_settles)), (a_mod_distance, .inl (cI, 256, .inl mod_distance))]) [2, 0, 1] rfl) hK (hD.sub (ws' := [(h_mod, .inr (5, [.int v3.2, .int mod_gates, .int mod_feeds, .int mod_inputs, .int mod_latches, .int mod_outputs, .ref a_mod_sort, .ref a_mod_number, .ref a_mod_value, .ref a_mod_made, .ref a_mod_to, .ref a_mod_from, .ref a_mod_outputOf, .ref a_mod_negated, .int mod_explored, .ref a_mod_settles, .ref a_mod_next, .ref a_mod_ones, .ref a_mod_distance, .ref a_mod_apart, .ref a_mod_leads])), (a_mod_settles, .inl (cZ, 4096, .inl mod_settles)), (a_mod_distance, .inl (cI, 256, .inl mod_distance))]) [2, 0, 1] (by decide) rfl) ht hW.alike⟩, hS.F ht⟩) hS.2.2 dMod_doubt_114
            · have hm := sx_pos c25 hm
              refine lv_iload_n hx hb dMod_doubt_103 rfl (lv_at hl 2 rfl) ?_
              refine lv_bipush (v := (16 : Int32)) hx hb dMod_doubt_104 (by decide) ?_
              obtain ⟨g27, hm⟩ := gd_el hm
              refine lv_idiv hx hb dMod_doubt_106 g27 ?_
              refine lv_goto (tgt := 114) hx hb dMod_doubt_107 (by decide) ?_
              obtain rfl := Option.some.inj hm
              exact W.iret (v := v23.2 / (16 : Int32)) hx hb hr (fun t ht hW => ⟨⟨(v23.2 / (16 : Int32)), (), rfl, rfl, sx_Wi (hP.sub (ws' := [(h_mod, .inr (5, [.int v3.2, .int mod_gates, .int mod_feeds, .int mod_inputs, .int mod_latches, .int mod_outputs, .ref a_mod_sort, .ref a_mod_number, .ref a_mod_value, .ref a_mod_made, .ref a_mod_to, .ref a_mod_from, .ref a_mod_outputOf, .ref a_mod_negated, .int mod_explored, .ref a_mod_settles, .ref a_mod_next, .ref a_mod_ones, .ref a_mod_distance, .ref a_mod_apart, .ref a_mod_leads])), (a_mod_settles, .inl (cZ, 4096, .inl mod_settles)), (a_mod_distance, .inl (cI, 256, .inl mod_distance))]) [2, 0, 1] rfl) hK (hD.sub (ws' := [(h_mod, .inr (5, [.int v3.2, .int mod_gates, .int mod_feeds, .int mod_inputs, .int mod_latches, .int mod_outputs, .ref a_mod_sort, .ref a_mod_number, .ref a_mod_value, .ref a_mod_made, .ref a_mod_to, .ref a_mod_from, .ref a_mod_outputOf, .ref a_mod_negated, .int mod_explored, .ref a_mod_settles, .ref a_mod_next, .ref a_mod_ones, .ref a_mod_distance, .ref a_mod_apart, .ref a_mod_leads])), (a_mod_settles, .inl (cZ, 4096, .inl mod_settles)), (a_mod_distance, .inl (cI, 256, .inl mod_distance))]) [2, 0, 1] (by decide) rfl) ht hW.alike⟩, hS.F ht⟩) hS.2.2 dMod_doubt_114
          · have hm := sx_pos c24 hm
            refine lv_iload_n hx hb dMod_doubt_94 rfl (lv_at hl 1 rfl) ?_
            refine lv_goto (tgt := 114) hx hb dMod_doubt_95 (by decide) ?_
            obtain rfl := Option.some.inj hm
            exact W.iret (v := v23.1) hx hb hr (fun t ht hW => ⟨⟨v23.1, (), rfl, rfl, sx_Wi (hP.sub (ws' := [(h_mod, .inr (5, [.int v3.2, .int mod_gates, .int mod_feeds, .int mod_inputs, .int mod_latches, .int mod_outputs, .ref a_mod_sort, .ref a_mod_number, .ref a_mod_value, .ref a_mod_made, .ref a_mod_to, .ref a_mod_from, .ref a_mod_outputOf, .ref a_mod_negated, .int mod_explored, .ref a_mod_settles, .ref a_mod_next, .ref a_mod_ones, .ref a_mod_distance, .ref a_mod_apart, .ref a_mod_leads])), (a_mod_settles, .inl (cZ, 4096, .inl mod_settles)), (a_mod_distance, .inl (cI, 256, .inl mod_distance))]) [2, 0, 1] rfl) hK (hD.sub (ws' := [(h_mod, .inr (5, [.int v3.2, .int mod_gates, .int mod_feeds, .int mod_inputs, .int mod_latches, .int mod_outputs, .ref a_mod_sort, .ref a_mod_number, .ref a_mod_value, .ref a_mod_made, .ref a_mod_to, .ref a_mod_from, .ref a_mod_outputOf, .ref a_mod_negated, .int mod_explored, .ref a_mod_settles, .ref a_mod_next, .ref a_mod_ones, .ref a_mod_distance, .ref a_mod_apart, .ref a_mod_leads])), (a_mod_settles, .inl (cZ, 4096, .inl mod_settles)), (a_mod_distance, .inl (cI, 256, .inl mod_distance))]) [2, 0, 1] (by decide) rfl) ht hW.alike⟩, hS.F ht⟩) hS.2.2 dMod_doubt_114
        · intro v28 he ls hl
          subst he
          refine lv_iconst (v := (-1 : Int32)) hx hb dMod_doubt_127 (by decide) ?_
          obtain rfl := Option.some.inj hm
          exact W.iret (v := (-1 : Int32)) hx hb hr (fun t ht hW => ⟨⟨(-1 : Int32), (), rfl, rfl, sx_Wi (hP.sub (ws' := [(h_mod, .inr (5, [.int v3.2, .int mod_gates, .int mod_feeds, .int mod_inputs, .int mod_latches, .int mod_outputs, .ref a_mod_sort, .ref a_mod_number, .ref a_mod_value, .ref a_mod_made, .ref a_mod_to, .ref a_mod_from, .ref a_mod_outputOf, .ref a_mod_negated, .int mod_explored, .ref a_mod_settles, .ref a_mod_next, .ref a_mod_ones, .ref a_mod_distance, .ref a_mod_apart, .ref a_mod_leads])), (a_mod_settles, .inl (cZ, 4096, .inl mod_settles)), (a_mod_distance, .inl (cI, 256, .inl mod_distance))]) [2, 0, 1] rfl) hK (hD.sub (ws' := [(h_mod, .inr (5, [.int v3.2, .int mod_gates, .int mod_feeds, .int mod_inputs, .int mod_latches, .int mod_outputs, .ref a_mod_sort, .ref a_mod_number, .ref a_mod_value, .ref a_mod_made, .ref a_mod_to, .ref a_mod_from, .ref a_mod_outputOf, .ref a_mod_negated, .int mod_explored, .ref a_mod_settles, .ref a_mod_next, .ref a_mod_ones, .ref a_mod_distance, .ref a_mod_apart, .ref a_mod_leads])), (a_mod_settles, .inl (cZ, 4096, .inl mod_settles)), (a_mod_distance, .inl (cI, 256, .inl mod_distance))]) [2, 0, 1] (by decide) rfl) ht hW.alike⟩, hS.F ht⟩) hS.2.2 dMod_doubt_128
      · have hm := sx_neg c5 hm
        refine lv_iconst (v := (0 : Int32)) hx hb dMod_doubt_33 (by decide) ?_
        obtain rfl := Option.some.inj hm
        exact W.iret (v := (0 : Int32)) hx hb hr (fun t ht hW => ⟨⟨(0 : Int32), (), rfl, rfl, sx_Wi (hP.sub (ws' := [(h_mod, .inr (5, [.int v3.2, .int mod_gates, .int mod_feeds, .int mod_inputs, .int mod_latches, .int mod_outputs, .ref a_mod_sort, .ref a_mod_number, .ref a_mod_value, .ref a_mod_made, .ref a_mod_to, .ref a_mod_from, .ref a_mod_outputOf, .ref a_mod_negated, .int mod_explored, .ref a_mod_settles, .ref a_mod_next, .ref a_mod_ones, .ref a_mod_distance, .ref a_mod_apart, .ref a_mod_leads])), (a_mod_settles, .inl (cZ, 4096, .inl mod_settles)), (a_mod_distance, .inl (cI, 256, .inl mod_distance))]) [2, 0, 1] rfl) hK (hD.sub (ws' := [(h_mod, .inr (5, [.int v3.2, .int mod_gates, .int mod_feeds, .int mod_inputs, .int mod_latches, .int mod_outputs, .ref a_mod_sort, .ref a_mod_number, .ref a_mod_value, .ref a_mod_made, .ref a_mod_to, .ref a_mod_from, .ref a_mod_outputOf, .ref a_mod_negated, .int mod_explored, .ref a_mod_settles, .ref a_mod_next, .ref a_mod_ones, .ref a_mod_distance, .ref a_mod_apart, .ref a_mod_leads])), (a_mod_settles, .inl (cZ, 4096, .inl mod_settles)), (a_mod_distance, .inl (cI, 256, .inl mod_distance))]) [2, 0, 1] (by decide) rfl) ht hW.alike⟩, hS.F ht⟩) hS.2.2 dMod_doubt_34
    obtain ⟨J29, hJ29, hm⟩ := sx_lj hm
    have jJ29 : ∀ (z0J29 : Int32), J29 z0J29 = some v → ∀ (ls : Array Slot), lv_has ls 4 [(0, .ref h_mod), (1, .int p0)] → W p l e (headSpec wsMod_doubt rm_Mod_doubt).room s m ([.ref h_mod, .int p0]).toArray below meth c s.heap [] 0 0 (MQ below (va_Qi (fun (r : Int32) (_ : Unit) => r = v.1) (fun _ t => sx_W (dC, dI) [(cI, .int), (cL, .long), (cZ, .boolean)] A [(h_mod, .inr (5, [.int v.2, .int mod_gates, .int mod_feeds, .int mod_inputs, .int mod_latches, .int mod_outputs, .ref a_mod_sort, .ref a_mod_number, .ref a_mod_value, .ref a_mod_made, .ref a_mod_to, .ref a_mod_from, .ref a_mod_outputOf, .ref a_mod_negated, .int mod_explored, .ref a_mod_settles, .ref a_mod_next, .ref a_mod_ones, .ref a_mod_distance, .ref a_mod_apart, .ref a_mod_leads])), (a_mod_settles, .inl (cZ, 4096, .inl mod_settles)), (a_mod_distance, .inl (cI, 256, .inl mod_distance))] t) A) ([.ref h_mod, .int p0]).toArray s 0 0 A) (F0 m 22 ls [.int z0J29, .ref h_mod]) := by
      intro z0J29 hm ls hl
      rw [hJ29] at hm
      dsimp only at hm
      refine lv_iconst (v := (1 : Int32)) hx hb dMod_doubt_22 (by decide) ?_
      refine lv_goto (tgt := 27) hx hb dMod_doubt_23 (by decide) ?_
      exact jJ2 (1 : Int32) z0J29 hm _ (hl)
    refine lv_if_lt (tgt := 22) hx hb dMod_doubt_14 (by decide) (fun c30 => ?_) (fun c30 => ?_)
    · have hm := sx_pos c30 hm
      exact jJ29 z0J1 hm _ (hl)
    · have hm := sx_neg c30 hm
      refine lv_iload_n hx hb dMod_doubt_17 rfl (lv_at hl 1 rfl) ?_
      refine lv_iconst (v := (2 : Int32)) hx hb dMod_doubt_18 (by decide) ?_
      refine lv_icmp_le (tgt := 26) hx hb dMod_doubt_19 (by decide) (fun c31 => ?_) (fun c31 => ?_)
      · have hm := sx_pos c31 hm
        refine lv_iconst (v := (0 : Int32)) hx hb dMod_doubt_26 (by decide) ?_
        exact jJ2 (0 : Int32) z0J1 hm _ (hl)
      · have hm := sx_neg c31 hm
        exact jJ29 z0J1 hm _ (hl)
  refine lv_if_ne (tgt := 12) hx hb dMod_doubt_5 (by decide) (fun c32 => ?_) (fun c32 => ?_)
  · have hm := sx_neg c32 hm
    refine lv_iconst (v := (0 : Int32)) hx hb dMod_doubt_12 (by decide) ?_
    exact jJ1 (0 : Int32) hm _ (hl)
  · have hm := sx_pos c32 hm
    refine lv_iconst (v := (1 : Int32)) hx hb dMod_doubt_8 (by decide) ?_
    refine lv_goto (tgt := 13) hx hb dMod_doubt_9 (by decide) ?_
    exact jJ1 (1 : Int32) hm _ (hl)
noncomputable def L_Mod_held_6 (mod_inputs mod_latches : Int32) (mod_settles : Nat → Int32) (mod_ones : Nat → Int64) (mod_distance : Nat → Int32) (x1 : Int64) (x3 : Int32) : Nat → Int32 → Int32 → Option (Int32)
  | 0, _, _ => none
  | n + 1, x4, x5 => (m_Mod_states mod_latches).bind (fun v1 => (if (16 : Int32) * v1 ≤ x5 then some x4 else gd (¬ (16 : Int32) = 0) (gd (vp_in (x5 / (16 : Int32)) 256) ((sx_let (fun (z0J6 : Int32) => gd (vp_in x5 4096) ((if z0J6 = (0 : Int32) then (L_Mod_held_6 mod_inputs mod_latches mod_settles mod_ones mod_distance x1 x3 n x4 (x5 + (1 : Int32))) else (if x3 = (0 : Int32) then (if lg_cmp ((mod_ones x5.toNatClampNeg) &&& x1) (0 : Int64) = (0 : Int32) then (L_Mod_held_6 mod_inputs mod_latches mod_settles mod_ones mod_distance x1 x3 n (x4 + (1 : Int32)) (x5 + (1 : Int32))) else (L_Mod_held_6 mod_inputs mod_latches mod_settles mod_ones mod_distance x1 x3 n x4 (x5 + (1 : Int32)))) else (if lg_cmp ((mod_ones x5.toNatClampNeg) &&& x1) x1 = (0 : Int32) then (L_Mod_held_6 mod_inputs mod_latches mod_settles mod_ones mod_distance x1 x3 n (x4 + (1 : Int32)) (x5 + (1 : Int32))) else (L_Mod_held_6 mod_inputs mod_latches mod_settles mod_ones mod_distance x1 x3 n x4 (x5 + (1 : Int32)))))))) (fun J6 => sx_let (fun (_ : Unit) => (J6 (0 : Int32))) (fun J12 => (if mod_distance (x5 / (16 : Int32)).toNatClampNeg < (0 : Int32) then (J12 ()) else gd (¬ (16 : Int32) = 0) ((m_Mod_choices mod_inputs).bind (fun v15 => (if v15 ≤ x5 - x5 / (16 : Int32) * (16 : Int32) then (J12 ()) else gd (vp_in x5 4096) ((if mod_settles x5.toNatClampNeg = (0 : Int32) then (J12 ()) else (J6 (1 : Int32)))))))))))))))
noncomputable def m_Mod_held (mod_inputs mod_latches : Int32) (mod_settles : Nat → Int32) (mod_ones : Nat → Int64) (mod_distance : Nat → Int32) (p0 : Int64) (p1 : Int32) : Option (Int32) := ((L_Mod_held_6 mod_inputs mod_latches mod_settles mod_ones mod_distance p0 p1 fu (0 : Int32) (0 : Int32)).bind (fun v20 => some v20))
def rm_Mod_held : Room := { frames := 1, cells := 0, slots := 0, locals := 20 }
set_option maxHeartbeats 4000000 in
set_option maxRecDepth 100000 in
theorem w_Mod_held_6 {p : Program} {l : Launch} {e : Env} {s : State} {m : MethodId} {args : Array Value} {below : List Frame} {meth : Method} {c : Code} {dC : Nat → ClassId} {dI : Nat → Nat → Nat} {cI cL cZ : ClassId} {A : Nat → Prop} {Q : State → Prop} {t1 t2 : Nat} (C0 : sx_C p s m args meth c cMod_held 9 "StateExplorerModel" A (dC, dI) [(cI, .int), (cL, .long), (cZ, .boolean)] t1 t2) (h_mod a_mod_sort a_mod_number a_mod_value a_mod_made a_mod_to a_mod_from a_mod_outputOf a_mod_negated a_mod_settles a_mod_next a_mod_ones a_mod_distance a_mod_apart a_mod_leads : Nat) (mod_code mod_gates mod_feeds mod_inputs mod_latches mod_outputs mod_explored : Int32) (mod_settles : Nat → Int32) (mod_ones : Nat → Int64) (mod_distance : Nat → Int32) (x1 : Int64) (x3 : Int32) {H : Heap} {locs : List Loc} (hP : va_P (dC, dI) vwCl [(h_mod, .inr (5, [.int mod_code, .int mod_gates, .int mod_feeds, .int mod_inputs, .int mod_latches, .int mod_outputs, .ref a_mod_sort, .ref a_mod_number, .ref a_mod_value, .ref a_mod_made, .ref a_mod_to, .ref a_mod_from, .ref a_mod_outputOf, .ref a_mod_negated, .int mod_explored, .ref a_mod_settles, .ref a_mod_next, .ref a_mod_ones, .ref a_mod_distance, .ref a_mod_apart, .ref a_mod_leads])), (a_mod_settles, .inl (cZ, 4096, .inl mod_settles)), (a_mod_ones, .inl (cL, 4096, .inr (.inl mod_ones))), (a_mod_distance, .inl (cI, 256, .inl mod_distance))] H) (hD : va_D A [(h_mod, .inr (5, [.int mod_code, .int mod_gates, .int mod_feeds, .int mod_inputs, .int mod_latches, .int mod_outputs, .ref a_mod_sort, .ref a_mod_number, .ref a_mod_value, .ref a_mod_made, .ref a_mod_to, .ref a_mod_from, .ref a_mod_outputOf, .ref a_mod_negated, .int mod_explored, .ref a_mod_settles, .ref a_mod_next, .ref a_mod_ones, .ref a_mod_distance, .ref a_mod_apart, .ref a_mod_leads])), (a_mod_settles, .inl (cZ, 4096, .inl mod_settles)), (a_mod_ones, .inl (cL, 4096, .inr (.inl mod_ones))), (a_mod_distance, .inl (cI, 256, .inl mod_distance))]) (hS : va_S A s.heap H locs) :
    ∀ (n : Nat) (x4 : Int32) (x5 : Int32)  (r : Int32), L_Mod_held_6 mod_inputs mod_latches mod_settles mod_ones mod_distance x1 x3 n x4 x5 = some r → ∀ (ls : Array Slot), lv_has ls 9 [(0, .ref h_mod), (1, .long x1), (3, .int x3), (4, .int x4), (5, .int x5)] →
    (∀ (ls : Array Slot), lv_has ls 9 [(4, .int r)] → W p l e (headSpec wsMod_held rm_Mod_held).room s m args below meth c H locs 0 0 Q (F0 m 114 ls [])) →
    W p l e (headSpec wsMod_held rm_Mod_held).room s m args below meth c H locs 0 0 Q (F0 m 6 ls []) := by
  obtain ⟨hx, hb, hml, hown, hts, hA, hK, hlocks, hX⟩ := id C0
  intro n
  induction n with
  | zero => intro x4 x5 r hm; rw [L_Mod_held_6] at hm; cases hm
  | succ n ih =>
    intro x4 x5 r hm ls hl k1
    rw [L_Mod_held_6] at hm
    refine lv_iload hx hb dMod_held_6 (lv_at hl 4 rfl) ?_
    refine lv_bipush (v := (16 : Int32)) hx hb dMod_held_8 (by decide) ?_
    refine lv_aload_n hx hb dMod_held_10 rfl (lv_at hl 0 rfl) ?_
    obtain ⟨v1, hv1, hm⟩ := sx_bind hm
    have hPc := hP.sub (ws' := [(h_mod, .inr (5, [.int mod_code, .int mod_gates, .int mod_feeds, .int mod_inputs, .int mod_latches, .int mod_outputs, .ref a_mod_sort, .ref a_mod_number, .ref a_mod_value, .ref a_mod_made, .ref a_mod_to, .ref a_mod_from, .ref a_mod_outputOf, .ref a_mod_negated, .int mod_explored, .ref a_mod_settles, .ref a_mod_next, .ref a_mod_ones, .ref a_mod_distance, .ref a_mod_apart, .ref a_mod_leads]))]) [0] rfl
    have hDc := hD.sub (ws' := [(h_mod, .inr (5, [.int mod_code, .int mod_gates, .int mod_feeds, .int mod_inputs, .int mod_latches, .int mod_outputs, .ref a_mod_sort, .ref a_mod_number, .ref a_mod_value, .ref a_mod_made, .ref a_mod_to, .ref a_mod_from, .ref a_mod_outputOf, .ref a_mod_negated, .int mod_explored, .ref a_mod_settles, .ref a_mod_next, .ref a_mod_ones, .ref a_mod_distance, .ref a_mod_apart, .ref a_mod_leads]))]) [0] (by decide) rfl
    have hFc := va_free (wc := [(h_mod, .inr (5, [.int mod_code, .int mod_gates, .int mod_feeds, .int mod_inputs, .int mod_latches, .int mod_outputs, .ref a_mod_sort, .ref a_mod_number, .ref a_mod_value, .ref a_mod_made, .ref a_mod_to, .ref a_mod_from, .ref a_mod_outputOf, .ref a_mod_negated, .int mod_explored, .ref a_mod_settles, .ref a_mod_next, .ref a_mod_ones, .ref a_mod_distance, .ref a_mod_apart, .ref a_mod_leads]))]) hD hS hA [0] rfl
    refine sx_stI (va_runV (As := []) (rest := [.int (16 : Int32), .int x5]) ⟨hx, hb, hml, hown, hts⟩ (k_Mod_states l dC dI cI cL cZ t1 t2 h_mod a_mod_sort a_mod_number a_mod_value a_mod_made a_mod_to a_mod_from a_mod_outputOf a_mod_negated a_mod_settles a_mod_next a_mod_ones a_mod_distance a_mod_apart a_mod_leads mod_code mod_gates mod_feeds mod_inputs mod_latches mod_outputs mod_explored _ v1 hv1) (cwV 0 hts (sx_gV tw_708 tw_710 tw_22 tw_41 tcMod_states) rfl rfl rfl (by decide +kernel) ⟨Nat.le_of_ble_eq_true rfl, Nat.le_of_ble_eq_true rfl⟩) (sx_pV hK hX hS hPc hDc hFc (va_recv hK hPc (ci := 5) (q0 := 0) rfl rfl)) rfl rfl hl.1 rfl (lv_room (Nat.le_of_ble_eq_true rfl)) dMod_held_11 ⟨Nat.le_of_ble_eq_true rfl, Nat.le_of_ble_eq_true rfl⟩) ?_
    refine lv_imul hx hb dMod_held_14 ?_
    refine lv_icmp_ge (tgt := 114) hx hb dMod_held_15 (by decide) (fun c3 => ?_) (fun c3 => ?_)
    · have hm := sx_pos c3 hm
      obtain rfl := Option.some.inj hm
      exact k1 _ (lv_sub hl [3] rfl)
    · have hm := sx_neg c3 hm
      refine lv_aload_n hx hb dMod_held_18 rfl (lv_at hl 0 rfl) ?_
      refine va_get (D := (dC, dI)) (ci := 5) (v := .ref a_mod_distance) (C := RMod) (T := TMod) (N := 21) hx hb hts inMod hown hK hP 0 rfl rfl 18 (by decide) (hts _ tw_629) (fun _ h9 => h9) rfl dMod_held_19 ?_
      refine lv_iload hx hb dMod_held_22 (lv_at hl 4 rfl) ?_
      refine lv_bipush (v := (16 : Int32)) hx hb dMod_held_24 (by decide) ?_
      obtain ⟨g4, hm⟩ := gd_el hm
      refine lv_idiv hx hb dMod_held_26 g4 ?_
      obtain ⟨g5, hm⟩ := gd_el hm
      refine va_iald hx hb hK hP 3 0 rfl rfl g5 dMod_held_27 ?_
      obtain ⟨J6, hJ6, hm⟩ := sx_lj hm
      have jJ6 : ∀ (z0J6 : Int32), J6 z0J6 = some r → ∀ (ls : Array Slot), lv_has ls 9 [(0, .ref h_mod), (1, .long x1), (3, .int x3), (4, .int x4), (5, .int x5)] → W p l e (headSpec wsMod_held rm_Mod_held).room s m args below meth c H locs 0 0 Q (F0 m 58 ls [.int z0J6]) := by
        intro z0J6 hm ls hl
        rw [hJ6] at hm
        dsimp only at hm
        refine lv_istore (lv' := [(6, .int z0J6), (0, .ref h_mod), (1, .long x1), (3, .int x3), (4, .int x4), (5, .int x5)]) hx hb dMod_held_58 hl (by decide) rfl (fun ls hl => ?_)
        refine lv_aload_n hx hb dMod_held_60 rfl (lv_at hl 1 rfl) ?_
        refine va_get (D := (dC, dI)) (ci := 5) (v := .ref a_mod_ones) (C := RMod) (T := TMod) (N := 21) hx hb hts inMod hown hK hP 0 rfl rfl 17 (by decide) (hts _ tw_628) (fun _ h9 => h9) rfl dMod_held_61 ?_
        refine lv_iload hx hb dMod_held_64 (lv_at hl 5 rfl) ?_
        obtain ⟨g7, hm⟩ := gd_el hm
        refine va_lald hx hb hK hP 2 1 rfl rfl g7 dMod_held_66 ?_
        refine lv_lload_n hx hb dMod_held_67 rfl (lv_at hl 2 rfl) ?_
        refine lv_land hx hb dMod_held_68 ?_
        refine lv_lstore (lv' := [(7, .long ((mod_ones x5.toNatClampNeg) &&& x1)), (6, .int z0J6), (0, .ref h_mod), (1, .long x1), (3, .int x3), (4, .int x4), (5, .int x5)]) hx hb dMod_held_69 hl (by decide) rfl (fun ls hl => ?_)
        refine lv_iload hx hb dMod_held_71 (lv_at hl 1 rfl) ?_
        refine lv_if_eq (tgt := 104) hx hb dMod_held_73 (by decide) (fun c8 => ?_) (fun c8 => ?_)
        · have hm := sx_pos c8 hm
          refine lv_iload hx hb dMod_held_104 (lv_at hl 5 rfl) ?_
          refine lv_istore (lv' := [(4, .int x4), (7, .long ((mod_ones x5.toNatClampNeg) &&& x1)), (6, .int z0J6), (0, .ref h_mod), (1, .long x1), (3, .int x3), (5, .int x5)]) hx hb dMod_held_106 hl (by decide) rfl (fun ls hl => ?_)
          refine lv_iinc (v := x5 + (1 : Int32)) (lv' := [(5, .int (x5 + (1 : Int32))), (4, .int x4), (7, .long ((mod_ones x5.toNatClampNeg) &&& x1)), (6, .int z0J6), (0, .ref h_mod), (1, .long x1), (3, .int x3)]) hx hb dMod_held_108 hl (k := 6) rfl rfl (by decide) rfl (fun ls hl => ?_)
          refine lv_goto (tgt := 6) hx hb dMod_held_111 (by decide) ?_
          exact ih x4 (x5 + (1 : Int32)) r hm _ (lv_sub hl [4, 5, 6, 1, 0] rfl) k1
        · have hm := sx_neg c8 hm
          refine lv_iload_n hx hb dMod_held_76 rfl (lv_at hl 4 rfl) ?_
          refine lv_if_eq (tgt := 90) hx hb dMod_held_77 (by decide) (fun c9 => ?_) (fun c9 => ?_)
          · have hm := sx_pos c9 hm
            refine lv_lload hx hb dMod_held_90 (lv_at hl 0 rfl) ?_
            refine lv_lconst (v := (0 : Int64)) hx hb dMod_held_92 (by decide) ?_
            refine W.lcmp hx hb dMod_held_93 ?_
            refine lv_if_ne (tgt := 104) hx hb dMod_held_94 (by decide) (fun c10 => ?_) (fun c10 => ?_)
            · have hm := sx_neg c10 hm
              refine lv_iload hx hb dMod_held_104 (lv_at hl 5 rfl) ?_
              refine lv_istore (lv' := [(4, .int x4), (7, .long ((mod_ones x5.toNatClampNeg) &&& x1)), (6, .int z0J6), (0, .ref h_mod), (1, .long x1), (3, .int x3), (5, .int x5)]) hx hb dMod_held_106 hl (by decide) rfl (fun ls hl => ?_)
              refine lv_iinc (v := x5 + (1 : Int32)) (lv' := [(5, .int (x5 + (1 : Int32))), (4, .int x4), (7, .long ((mod_ones x5.toNatClampNeg) &&& x1)), (6, .int z0J6), (0, .ref h_mod), (1, .long x1), (3, .int x3)]) hx hb dMod_held_108 hl (k := 6) rfl rfl (by decide) rfl (fun ls hl => ?_)
              refine lv_goto (tgt := 6) hx hb dMod_held_111 (by decide) ?_
              exact ih x4 (x5 + (1 : Int32)) r hm _ (lv_sub hl [4, 5, 6, 1, 0] rfl) k1
            · have hm := sx_pos c10 hm
              refine lv_iload hx hb dMod_held_97 (lv_at hl 5 rfl) ?_
              refine lv_iconst (v := (1 : Int32)) hx hb dMod_held_99 (by decide) ?_
              refine lv_iadd hx hb dMod_held_100 ?_
              refine lv_goto (tgt := 106) hx hb dMod_held_101 (by decide) ?_
              refine lv_istore (lv' := [(4, .int (x4 + (1 : Int32))), (7, .long ((mod_ones x5.toNatClampNeg) &&& x1)), (6, .int z0J6), (0, .ref h_mod), (1, .long x1), (3, .int x3), (5, .int x5)]) hx hb dMod_held_106 hl (by decide) rfl (fun ls hl => ?_)
              refine lv_iinc (v := x5 + (1 : Int32)) (lv' := [(5, .int (x5 + (1 : Int32))), (4, .int (x4 + (1 : Int32))), (7, .long ((mod_ones x5.toNatClampNeg) &&& x1)), (6, .int z0J6), (0, .ref h_mod), (1, .long x1), (3, .int x3)]) hx hb dMod_held_108 hl (k := 6) rfl rfl (by decide) rfl (fun ls hl => ?_)
              refine lv_goto (tgt := 6) hx hb dMod_held_111 (by decide) ?_
              exact ih (x4 + (1 : Int32)) (x5 + (1 : Int32)) r hm _ (lv_sub hl [4, 5, 6, 1, 0] rfl) k1
          · have hm := sx_neg c9 hm
            refine lv_lload hx hb dMod_held_80 (lv_at hl 0 rfl) ?_
            refine lv_lload_n hx hb dMod_held_82 rfl (lv_at hl 3 rfl) ?_
            refine W.lcmp hx hb dMod_held_83 ?_
            refine lv_if_ne (tgt := 104) hx hb dMod_held_84 (by decide) (fun c11 => ?_) (fun c11 => ?_)
            · have hm := sx_neg c11 hm
              refine lv_iload hx hb dMod_held_104 (lv_at hl 5 rfl) ?_
              refine lv_istore (lv' := [(4, .int x4), (7, .long ((mod_ones x5.toNatClampNeg) &&& x1)), (6, .int z0J6), (0, .ref h_mod), (1, .long x1), (3, .int x3), (5, .int x5)]) hx hb dMod_held_106 hl (by decide) rfl (fun ls hl => ?_)
              refine lv_iinc (v := x5 + (1 : Int32)) (lv' := [(5, .int (x5 + (1 : Int32))), (4, .int x4), (7, .long ((mod_ones x5.toNatClampNeg) &&& x1)), (6, .int z0J6), (0, .ref h_mod), (1, .long x1), (3, .int x3)]) hx hb dMod_held_108 hl (k := 6) rfl rfl (by decide) rfl (fun ls hl => ?_)
              refine lv_goto (tgt := 6) hx hb dMod_held_111 (by decide) ?_
              exact ih x4 (x5 + (1 : Int32)) r hm _ (lv_sub hl [4, 5, 6, 1, 0] rfl) k1
            · have hm := sx_pos c11 hm
              refine lv_goto (tgt := 97) hx hb dMod_held_87 (by decide) ?_
              refine lv_iload hx hb dMod_held_97 (lv_at hl 5 rfl) ?_
              refine lv_iconst (v := (1 : Int32)) hx hb dMod_held_99 (by decide) ?_
              refine lv_iadd hx hb dMod_held_100 ?_
              refine lv_goto (tgt := 106) hx hb dMod_held_101 (by decide) ?_
              refine lv_istore (lv' := [(4, .int (x4 + (1 : Int32))), (7, .long ((mod_ones x5.toNatClampNeg) &&& x1)), (6, .int z0J6), (0, .ref h_mod), (1, .long x1), (3, .int x3), (5, .int x5)]) hx hb dMod_held_106 hl (by decide) rfl (fun ls hl => ?_)
              refine lv_iinc (v := x5 + (1 : Int32)) (lv' := [(5, .int (x5 + (1 : Int32))), (4, .int (x4 + (1 : Int32))), (7, .long ((mod_ones x5.toNatClampNeg) &&& x1)), (6, .int z0J6), (0, .ref h_mod), (1, .long x1), (3, .int x3)]) hx hb dMod_held_108 hl (k := 6) rfl rfl (by decide) rfl (fun ls hl => ?_)
              refine lv_goto (tgt := 6) hx hb dMod_held_111 (by decide) ?_
              exact ih (x4 + (1 : Int32)) (x5 + (1 : Int32)) r hm _ (lv_sub hl [4, 5, 6, 1, 0] rfl) k1
      obtain ⟨J12, hJ12, hm⟩ := sx_lj hm
      have jJ12 : ∀ (_ : Unit), J12 () = some r → ∀ (ls : Array Slot), lv_has ls 9 [(0, .ref h_mod), (1, .long x1), (3, .int x3), (4, .int x4), (5, .int x5)] → W p l e (headSpec wsMod_held rm_Mod_held).room s m args below meth c H locs 0 0 Q (F0 m 57 ls []) := by
        intro _ hm ls hl
        rw [hJ12] at hm
        dsimp only at hm
        refine lv_iconst (v := (0 : Int32)) hx hb dMod_held_57 (by decide) ?_
        exact jJ6 (0 : Int32) hm _ (hl)
      refine lv_if_lt (tgt := 57) hx hb dMod_held_28 (by decide) (fun c13 => ?_) (fun c13 => ?_)
      · have hm := sx_pos c13 hm
        exact jJ12 () hm _ (hl)
      · have hm := sx_neg c13 hm
        refine lv_iload hx hb dMod_held_31 (lv_at hl 4 rfl) ?_
        refine lv_bipush (v := (16 : Int32)) hx hb dMod_held_33 (by decide) ?_
        obtain ⟨g14, hm⟩ := gd_el hm
        refine lv_irem hx hb dMod_held_35 g14 ?_
        refine lv_aload_n hx hb dMod_held_36 rfl (lv_at hl 0 rfl) ?_
        obtain ⟨v15, hv15, hm⟩ := sx_bind hm
        have hPc := hP.sub (ws' := [(h_mod, .inr (5, [.int mod_code, .int mod_gates, .int mod_feeds, .int mod_inputs, .int mod_latches, .int mod_outputs, .ref a_mod_sort, .ref a_mod_number, .ref a_mod_value, .ref a_mod_made, .ref a_mod_to, .ref a_mod_from, .ref a_mod_outputOf, .ref a_mod_negated, .int mod_explored, .ref a_mod_settles, .ref a_mod_next, .ref a_mod_ones, .ref a_mod_distance, .ref a_mod_apart, .ref a_mod_leads]))]) [0] rfl
        have hDc := hD.sub (ws' := [(h_mod, .inr (5, [.int mod_code, .int mod_gates, .int mod_feeds, .int mod_inputs, .int mod_latches, .int mod_outputs, .ref a_mod_sort, .ref a_mod_number, .ref a_mod_value, .ref a_mod_made, .ref a_mod_to, .ref a_mod_from, .ref a_mod_outputOf, .ref a_mod_negated, .int mod_explored, .ref a_mod_settles, .ref a_mod_next, .ref a_mod_ones, .ref a_mod_distance, .ref a_mod_apart, .ref a_mod_leads]))]) [0] (by decide) rfl
        have hFc := va_free (wc := [(h_mod, .inr (5, [.int mod_code, .int mod_gates, .int mod_feeds, .int mod_inputs, .int mod_latches, .int mod_outputs, .ref a_mod_sort, .ref a_mod_number, .ref a_mod_value, .ref a_mod_made, .ref a_mod_to, .ref a_mod_from, .ref a_mod_outputOf, .ref a_mod_negated, .int mod_explored, .ref a_mod_settles, .ref a_mod_next, .ref a_mod_ones, .ref a_mod_distance, .ref a_mod_apart, .ref a_mod_leads]))]) hD hS hA [0] rfl
        refine sx_stI (va_runV (As := []) (rest := [.int (x5 - x5 / (16 : Int32) * (16 : Int32))]) ⟨hx, hb, hml, hown, hts⟩ (k_Mod_choices l dC dI cI cL cZ t1 t2 h_mod a_mod_sort a_mod_number a_mod_value a_mod_made a_mod_to a_mod_from a_mod_outputOf a_mod_negated a_mod_settles a_mod_next a_mod_ones a_mod_distance a_mod_apart a_mod_leads mod_code mod_gates mod_feeds mod_inputs mod_latches mod_outputs mod_explored _ v15 hv15) (cwV 0 hts (sx_gV tw_712 tw_714 tw_23 tw_41 tcMod_choices) rfl rfl rfl (by decide +kernel) ⟨Nat.le_of_ble_eq_true rfl, Nat.le_of_ble_eq_true rfl⟩) (sx_pV hK hX hS hPc hDc hFc (va_recv hK hPc (ci := 5) (q0 := 0) rfl rfl)) rfl rfl hl.1 rfl (lv_room (Nat.le_of_ble_eq_true rfl)) dMod_held_37 ⟨Nat.le_of_ble_eq_true rfl, Nat.le_of_ble_eq_true rfl⟩) ?_
        refine lv_icmp_ge (tgt := 57) hx hb dMod_held_40 (by decide) (fun c17 => ?_) (fun c17 => ?_)
        · have hm := sx_pos c17 hm
          exact jJ12 () hm _ (hl)
        · have hm := sx_neg c17 hm
          refine lv_aload_n hx hb dMod_held_43 rfl (lv_at hl 0 rfl) ?_
          refine va_get (D := (dC, dI)) (ci := 5) (v := .ref a_mod_settles) (C := RMod) (T := TMod) (N := 21) hx hb hts inMod hown hK hP 0 rfl rfl 15 (by decide) (hts _ tw_626) (fun _ h9 => h9) rfl dMod_held_44 ?_
          refine lv_iload hx hb dMod_held_47 (lv_at hl 4 rfl) ?_
          obtain ⟨g18, hm⟩ := gd_el hm
          refine va_zald hx hb hK hP 1 2 rfl rfl g18 dMod_held_49 ?_
          refine lv_if_eq (tgt := 57) hx hb dMod_held_50 (by decide) (fun c19 => ?_) (fun c19 => ?_)
          · have hm := sx_pos c19 hm
            exact jJ12 () hm _ (hl)
          · have hm := sx_neg c19 hm
            refine lv_iconst (v := (1 : Int32)) hx hb dMod_held_53 (by decide) ?_
            refine lv_goto (tgt := 58) hx hb dMod_held_54 (by decide) ?_
            exact jJ6 (1 : Int32) hm _ (hl)
set_option maxHeartbeats 4000000 in
set_option maxRecDepth 100000 in
theorem k_Mod_held (l : Launch) (dC : Nat → ClassId) (dI : Nat → Nat → Nat) (cI cL cZ : ClassId) (t1 t2 : Nat) (h_mod a_mod_sort a_mod_number a_mod_value a_mod_made a_mod_to a_mod_from a_mod_outputOf a_mod_negated a_mod_settles a_mod_next a_mod_ones a_mod_distance a_mod_apart a_mod_leads : Nat) (mod_code mod_gates mod_feeds mod_inputs mod_latches mod_outputs mod_explored : Int32) (mod_settles : Nat → Int32) (mod_ones : Nat → Int64) (mod_distance : Nat → Int32) (sz : Nat) (p0 : Int64) (p1 : Int32) (v : Int32) (hm : m_Mod_held mod_inputs mod_latches mod_settles mod_ones mod_distance p0 p1 = some v) : Met l yMod_held wsMod_held rm_Mod_held (sx_Pc (dC, dI) [(cI, .int), (cL, .long), (cZ, .boolean)] t1 t2 [(h_mod, .inr (5, [.int mod_code, .int mod_gates, .int mod_feeds, .int mod_inputs, .int mod_latches, .int mod_outputs, .ref a_mod_sort, .ref a_mod_number, .ref a_mod_value, .ref a_mod_made, .ref a_mod_to, .ref a_mod_from, .ref a_mod_outputOf, .ref a_mod_negated, .int mod_explored, .ref a_mod_settles, .ref a_mod_next, .ref a_mod_ones, .ref a_mod_distance, .ref a_mod_apart, .ref a_mod_leads])), (a_mod_settles, .inl (cZ, 4096, .inl mod_settles)), (a_mod_ones, .inl (cL, 4096, .inr (.inl mod_ones))), (a_mod_distance, .inl (cI, 256, .inl mod_distance))] sz [.ref h_mod, .long p0, .int p1]) (sx_Si v) 0 0 (fun _ => False) := by
  refine Met.ofW (cc := cMod_held) (maxL := 9) (ret := (some .int)) (by decide) rfl ?_
  intro p e s m args below meth c s₁ B hml hv
  obtain ⟨rfl, hsz, hP, hK, hD0, hX⟩ := hv
  have hx := B.exec
  have hb := B.bytes
  have hr := B.returns
  have hts0 := atoms_spec (ws := wsMod_held) B.pre
  have hts : ∀ w ∈ tb, w.before _ s = true := fun w h => hts0 w (List.mem_cons_of_mem _ h)
  have hown : s.vm.findClass "StateExplorerModel" = some m.cls := findClass_of_methodNamed B.named
  have hlocks := B.notSynchronized
  subst hsz
  have hD := hD0.self (sz := s.heap.size)
  generalize hAe : va_A [(h_mod, .inr (5, [.int mod_code, .int mod_gates, .int mod_feeds, .int mod_inputs, .int mod_latches, .int mod_outputs, .ref a_mod_sort, .ref a_mod_number, .ref a_mod_value, .ref a_mod_made, .ref a_mod_to, .ref a_mod_from, .ref a_mod_outputOf, .ref a_mod_negated, .int mod_explored, .ref a_mod_settles, .ref a_mod_next, .ref a_mod_ones, .ref a_mod_distance, .ref a_mod_apart, .ref a_mod_leads])), (a_mod_settles, .inl (cZ, 4096, .inl mod_settles)), (a_mod_ones, .inl (cL, 4096, .inr (.inl mod_ones))), (a_mod_distance, .inl (cI, 256, .inl mod_distance))] s.heap.size = A at hD hX 
  have hA : ∀ q : Nat, s.heap.size ≤ q → A q := fun q h => by rw [← hAe]; exact Or.inr h
  have hS : va_S A s.heap s.heap [] := va_S.rf
  have hl := lv_entry ([.ref h_mod, .long p0, .int p1]) (n := 9) (Nat.le_of_ble_eq_true rfl)
  rw [lg_entry_eq]
  generalize (lg_sl ([.ref h_mod, .long p0, .int p1]) ++ List.replicate (9 - (lg_sl ([.ref h_mod, .long p0, .int p1])).length) Slot.unset).toArray = ls at hl ⊢
  have hl : lv_has ls 9 [(0, .ref h_mod), (1, .long p0), (3, .int p1)] := hl
  have C0 : sx_C p s m _ meth c cMod_held 9 "StateExplorerModel" A (dC, dI) [(cI, .int), (cL, .long), (cZ, .boolean)] t1 t2 := ⟨hx, hb, hml, hown, hts, hA, hK, hlocks, hX⟩
  rw [m_Mod_held] at hm
  refine lv_iconst (v := (0 : Int32)) hx hb dMod_held_0 (by decide) ?_
  refine lv_istore (lv' := [(4, .int (0 : Int32)), (0, .ref h_mod), (1, .long p0), (3, .int p1)]) hx hb dMod_held_1 hl (by decide) rfl (fun ls hl => ?_)
  refine lv_iconst (v := (0 : Int32)) hx hb dMod_held_3 (by decide) ?_
  refine lv_istore (lv' := [(5, .int (0 : Int32)), (4, .int (0 : Int32)), (0, .ref h_mod), (1, .long p0), (3, .int p1)]) hx hb dMod_held_4 hl (by decide) rfl (fun ls hl => ?_)
  obtain ⟨v20, hv20, hm⟩ := sx_bind hm
  refine w_Mod_held_6 C0 h_mod a_mod_sort a_mod_number a_mod_value a_mod_made a_mod_to a_mod_from a_mod_outputOf a_mod_negated a_mod_settles a_mod_next a_mod_ones a_mod_distance a_mod_apart a_mod_leads mod_code mod_gates mod_feeds mod_inputs mod_latches mod_outputs mod_explored mod_settles mod_ones mod_distance p0 p1 hP hD hS _ (0 : Int32) (0 : Int32) v20 hv20 _ (lv_sub hl [2, 3, 4, 1, 0] rfl) ?_
  intro ls hl
  refine lv_iload hx hb dMod_held_114 (lv_at hl 0 rfl) ?_
  obtain rfl := Option.some.inj hm
  exact W.iret (v := v20) hx hb hr (fun t ht hW => ⟨rfl, ht⟩) (fun q hq => nomatch hq) dMod_held_116
noncomputable def m_Mod_always (mod_code mod_gates mod_inputs mod_latches mod_explored : Int32) (mod_settles : Nat → Int32) (mod_ones : Nat → Int64) (mod_distance : Nat → Int32) (p0 : Int32) : Option (Int32 × Int32) := (sx_let (fun (z0J1 : Int32) => (m_Mod_isGate mod_gates p0).bind (fun v2 => (sx_let (fun (z0J4 : Int32) (z1J4 : Int32) => (m_Mod_fails mod_code z1J4 z0J4).bind (fun v5 => (if v5.1 = (0 : Int32) then (m_Mod_held mod_inputs mod_latches mod_settles mod_ones mod_distance ((1 : Int64) <<< (p0.toInt64 &&& 63)) (1 : Int32)).bind (fun v8 => (m_Mod_held mod_inputs mod_latches mod_settles mod_ones mod_distance ((1 : Int64) <<< (p0.toInt64 &&& 63)) (0 : Int32)).bind (fun v10 => (sx_let (fun (_ : Unit) => (if v10 ≤ (0 : Int32) then some ((2 : Int32), v5.2) else (if v8 = (0 : Int32) then some ((0 : Int32), v5.2) else some ((2 : Int32), v5.2)))) (fun J12 => (if v8 ≤ (0 : Int32) then (J12 ()) else (if v10 = (0 : Int32) then some ((1 : Int32), v5.2) else (J12 ()))))))) else some ((0 : Int32), v5.2)))) (fun J4 => (if v2 = (0 : Int32) then (J4 (1 : Int32) z0J1) else (J4 (0 : Int32) z0J1)))))) (fun J1 => (if mod_explored = (0 : Int32) then (J1 (1 : Int32)) else (J1 (0 : Int32)))))
def rm_Mod_always : Room := { frames := 2, cells := 0, slots := 0, locals := 48 }
set_option maxHeartbeats 4000000 in
set_option maxRecDepth 100000 in
theorem k_Mod_always (l : Launch) (dC : Nat → ClassId) (dI : Nat → Nat → Nat) (cI cL cZ : ClassId) (t1 t2 : Nat) (h_mod a_mod_sort a_mod_number a_mod_value a_mod_made a_mod_to a_mod_from a_mod_outputOf a_mod_negated a_mod_settles a_mod_next a_mod_ones a_mod_distance a_mod_apart a_mod_leads : Nat) (mod_code mod_gates mod_feeds mod_inputs mod_latches mod_outputs mod_explored : Int32) (mod_settles : Nat → Int32) (mod_ones : Nat → Int64) (mod_distance : Nat → Int32) (sz : Nat) (p0 : Int32) (v : Int32 × Int32) (hm : m_Mod_always mod_code mod_gates mod_inputs mod_latches mod_explored mod_settles mod_ones mod_distance p0 = some v) : Met l yMod_always wsMod_always rm_Mod_always (sx_Pc (dC, dI) [(cI, .int), (cL, .long), (cZ, .boolean)] t1 t2 [(h_mod, .inr (5, [.int mod_code, .int mod_gates, .int mod_feeds, .int mod_inputs, .int mod_latches, .int mod_outputs, .ref a_mod_sort, .ref a_mod_number, .ref a_mod_value, .ref a_mod_made, .ref a_mod_to, .ref a_mod_from, .ref a_mod_outputOf, .ref a_mod_negated, .int mod_explored, .ref a_mod_settles, .ref a_mod_next, .ref a_mod_ones, .ref a_mod_distance, .ref a_mod_apart, .ref a_mod_leads])), (a_mod_settles, .inl (cZ, 4096, .inl mod_settles)), (a_mod_ones, .inl (cL, 4096, .inr (.inl mod_ones))), (a_mod_distance, .inl (cI, 256, .inl mod_distance))] sz [.ref h_mod, .int p0]) (va_Qi (fun (r : Int32) (_ : Unit) => r = v.1) (fun _ t => sx_W (dC, dI) [(cI, .int), (cL, .long), (cZ, .boolean)] (va_A [(h_mod, .inr (5, [.int mod_code, .int mod_gates, .int mod_feeds, .int mod_inputs, .int mod_latches, .int mod_outputs, .ref a_mod_sort, .ref a_mod_number, .ref a_mod_value, .ref a_mod_made, .ref a_mod_to, .ref a_mod_from, .ref a_mod_outputOf, .ref a_mod_negated, .int mod_explored, .ref a_mod_settles, .ref a_mod_next, .ref a_mod_ones, .ref a_mod_distance, .ref a_mod_apart, .ref a_mod_leads])), (a_mod_settles, .inl (cZ, 4096, .inl mod_settles)), (a_mod_ones, .inl (cL, 4096, .inr (.inl mod_ones))), (a_mod_distance, .inl (cI, 256, .inl mod_distance))] sz) [(h_mod, .inr (5, [.int v.2, .int mod_gates, .int mod_feeds, .int mod_inputs, .int mod_latches, .int mod_outputs, .ref a_mod_sort, .ref a_mod_number, .ref a_mod_value, .ref a_mod_made, .ref a_mod_to, .ref a_mod_from, .ref a_mod_outputOf, .ref a_mod_negated, .int mod_explored, .ref a_mod_settles, .ref a_mod_next, .ref a_mod_ones, .ref a_mod_distance, .ref a_mod_apart, .ref a_mod_leads])), (a_mod_settles, .inl (cZ, 4096, .inl mod_settles)), (a_mod_ones, .inl (cL, 4096, .inr (.inl mod_ones))), (a_mod_distance, .inl (cI, 256, .inl mod_distance))] t) (va_A [(h_mod, .inr (5, [.int mod_code, .int mod_gates, .int mod_feeds, .int mod_inputs, .int mod_latches, .int mod_outputs, .ref a_mod_sort, .ref a_mod_number, .ref a_mod_value, .ref a_mod_made, .ref a_mod_to, .ref a_mod_from, .ref a_mod_outputOf, .ref a_mod_negated, .int mod_explored, .ref a_mod_settles, .ref a_mod_next, .ref a_mod_ones, .ref a_mod_distance, .ref a_mod_apart, .ref a_mod_leads])), (a_mod_settles, .inl (cZ, 4096, .inl mod_settles)), (a_mod_ones, .inl (cL, 4096, .inr (.inl mod_ones))), (a_mod_distance, .inl (cI, 256, .inl mod_distance))] sz)) 0 0 (va_A [(h_mod, .inr (5, [.int mod_code, .int mod_gates, .int mod_feeds, .int mod_inputs, .int mod_latches, .int mod_outputs, .ref a_mod_sort, .ref a_mod_number, .ref a_mod_value, .ref a_mod_made, .ref a_mod_to, .ref a_mod_from, .ref a_mod_outputOf, .ref a_mod_negated, .int mod_explored, .ref a_mod_settles, .ref a_mod_next, .ref a_mod_ones, .ref a_mod_distance, .ref a_mod_apart, .ref a_mod_leads])), (a_mod_settles, .inl (cZ, 4096, .inl mod_settles)), (a_mod_ones, .inl (cL, 4096, .inr (.inl mod_ones))), (a_mod_distance, .inl (cI, 256, .inl mod_distance))] sz) := by
  refine Met.ofW (cc := cMod_always) (maxL := 4) (ret := (some .int)) (by decide) rfl ?_
  intro p e s m args below meth c s₁ B hml hv
  obtain ⟨rfl, hsz, hP, hK, hD0, hX⟩ := hv
  have hx := B.exec
  have hb := B.bytes
  have hr := B.returns
  have hts0 := atoms_spec (ws := wsMod_always) B.pre
  have hts : ∀ w ∈ tb, w.before _ s = true := fun w h => hts0 w (List.mem_cons_of_mem _ h)
  have hown : s.vm.findClass "StateExplorerModel" = some m.cls := findClass_of_methodNamed B.named
  have hlocks := B.notSynchronized
  subst hsz
  have hD := hD0.self (sz := s.heap.size)
  generalize hAe : va_A [(h_mod, .inr (5, [.int mod_code, .int mod_gates, .int mod_feeds, .int mod_inputs, .int mod_latches, .int mod_outputs, .ref a_mod_sort, .ref a_mod_number, .ref a_mod_value, .ref a_mod_made, .ref a_mod_to, .ref a_mod_from, .ref a_mod_outputOf, .ref a_mod_negated, .int mod_explored, .ref a_mod_settles, .ref a_mod_next, .ref a_mod_ones, .ref a_mod_distance, .ref a_mod_apart, .ref a_mod_leads])), (a_mod_settles, .inl (cZ, 4096, .inl mod_settles)), (a_mod_ones, .inl (cL, 4096, .inr (.inl mod_ones))), (a_mod_distance, .inl (cI, 256, .inl mod_distance))] s.heap.size = A at hD hX ⊢
  have hA : ∀ q : Nat, s.heap.size ≤ q → A q := fun q h => by rw [← hAe]; exact Or.inr h
  have hS : va_S A s.heap s.heap [] := va_S.rf
  have hl := lv_entry ([.ref h_mod, .int p0]) (n := 4) (Nat.le_of_ble_eq_true rfl)
  rw [lg_entry_eq]
  generalize (lg_sl ([.ref h_mod, .int p0]) ++ List.replicate (4 - (lg_sl ([.ref h_mod, .int p0])).length) Slot.unset).toArray = ls at hl ⊢
  have hl : lv_has ls 4 [(0, .ref h_mod), (1, .int p0)] := hl
  have C0 : sx_C p s m _ meth c cMod_always 4 "StateExplorerModel" A (dC, dI) [(cI, .int), (cL, .long), (cZ, .boolean)] t1 t2 := ⟨hx, hb, hml, hown, hts, hA, hK, hlocks, hX⟩
  rw [m_Mod_always] at hm
  refine lv_aload_n hx hb dMod_always_0 rfl (lv_at hl 0 rfl) ?_
  refine lv_aload_n hx hb dMod_always_1 rfl (lv_at hl 0 rfl) ?_
  refine va_get (D := (dC, dI)) (ci := 5) (v := .int mod_explored) (C := RMod) (T := TMod) (N := 21) hx hb hts inMod hown hK hP 0 rfl rfl 14 (by decide) (hts _ tw_625) (fun _ h9 => h9) rfl dMod_always_2 ?_
  obtain ⟨J1, hJ1, hm⟩ := sx_lj hm
  have jJ1 : ∀ (z0J1 : Int32), J1 z0J1 = some v → ∀ (ls : Array Slot), lv_has ls 4 [(0, .ref h_mod), (1, .int p0)] → W p l e (headSpec wsMod_always rm_Mod_always).room s m ([.ref h_mod, .int p0]).toArray below meth c s.heap [] 0 0 (MQ below (va_Qi (fun (r : Int32) (_ : Unit) => r = v.1) (fun _ t => sx_W (dC, dI) [(cI, .int), (cL, .long), (cZ, .boolean)] A [(h_mod, .inr (5, [.int v.2, .int mod_gates, .int mod_feeds, .int mod_inputs, .int mod_latches, .int mod_outputs, .ref a_mod_sort, .ref a_mod_number, .ref a_mod_value, .ref a_mod_made, .ref a_mod_to, .ref a_mod_from, .ref a_mod_outputOf, .ref a_mod_negated, .int mod_explored, .ref a_mod_settles, .ref a_mod_next, .ref a_mod_ones, .ref a_mod_distance, .ref a_mod_apart, .ref a_mod_leads])), (a_mod_settles, .inl (cZ, 4096, .inl mod_settles)), (a_mod_ones, .inl (cL, 4096, .inr (.inl mod_ones))), (a_mod_distance, .inl (cI, 256, .inl mod_distance))] t) A) ([.ref h_mod, .int p0]).toArray s 0 0 A) (F0 m 13 ls [.int z0J1, .ref h_mod]) := by
    intro z0J1 hm ls hl
    rw [hJ1] at hm
    dsimp only at hm
    refine lv_aload_n hx hb dMod_always_13 rfl (lv_at hl 0 rfl) ?_
    refine lv_iload_n hx hb dMod_always_14 rfl (lv_at hl 1 rfl) ?_
    obtain ⟨v2, hv2, hm⟩ := sx_bind hm
    have hPc := hP.sub (ws' := [(h_mod, .inr (5, [.int mod_code, .int mod_gates, .int mod_feeds, .int mod_inputs, .int mod_latches, .int mod_outputs, .ref a_mod_sort, .ref a_mod_number, .ref a_mod_value, .ref a_mod_made, .ref a_mod_to, .ref a_mod_from, .ref a_mod_outputOf, .ref a_mod_negated, .int mod_explored, .ref a_mod_settles, .ref a_mod_next, .ref a_mod_ones, .ref a_mod_distance, .ref a_mod_apart, .ref a_mod_leads]))]) [0] rfl
    have hDc := hD.sub (ws' := [(h_mod, .inr (5, [.int mod_code, .int mod_gates, .int mod_feeds, .int mod_inputs, .int mod_latches, .int mod_outputs, .ref a_mod_sort, .ref a_mod_number, .ref a_mod_value, .ref a_mod_made, .ref a_mod_to, .ref a_mod_from, .ref a_mod_outputOf, .ref a_mod_negated, .int mod_explored, .ref a_mod_settles, .ref a_mod_next, .ref a_mod_ones, .ref a_mod_distance, .ref a_mod_apart, .ref a_mod_leads]))]) [0] (by decide) rfl
    have hFc := va_free (wc := [(h_mod, .inr (5, [.int mod_code, .int mod_gates, .int mod_feeds, .int mod_inputs, .int mod_latches, .int mod_outputs, .ref a_mod_sort, .ref a_mod_number, .ref a_mod_value, .ref a_mod_made, .ref a_mod_to, .ref a_mod_from, .ref a_mod_outputOf, .ref a_mod_negated, .int mod_explored, .ref a_mod_settles, .ref a_mod_next, .ref a_mod_ones, .ref a_mod_distance, .ref a_mod_apart, .ref a_mod_leads]))]) hD hS hA [0] rfl
    refine sx_stI (va_runV (As := [.int p0]) (rest := [.int z0J1, .ref h_mod]) ⟨hx, hb, hml, hown, hts⟩ (k_Mod_isGate l dC dI cI cL cZ t1 t2 h_mod a_mod_sort a_mod_number a_mod_value a_mod_made a_mod_to a_mod_from a_mod_outputOf a_mod_negated a_mod_settles a_mod_next a_mod_ones a_mod_distance a_mod_apart a_mod_leads mod_code mod_gates mod_feeds mod_inputs mod_latches mod_outputs mod_explored _ p0 v2 hv2) (cwV 1 hts (sx_gV tw_688 tw_690 tw_20 tw_41 tcMod_isGate) rfl rfl rfl (by decide +kernel) ⟨Nat.le_of_ble_eq_true rfl, Nat.le_of_ble_eq_true rfl⟩) (sx_pV hK hX hS hPc hDc hFc (va_recv hK hPc (ci := 5) (q0 := 0) rfl rfl)) rfl rfl hl.1 rfl (lv_room (Nat.le_of_ble_eq_true rfl)) dMod_always_15 ⟨Nat.le_of_ble_eq_true rfl, Nat.le_of_ble_eq_true rfl⟩) ?_
    obtain ⟨J4, hJ4, hm⟩ := sx_lj hm
    have jJ4 : ∀ (z0J4 : Int32) (z1J4 : Int32), J4 z0J4 z1J4 = some v → ∀ (ls : Array Slot), lv_has ls 4 [(0, .ref h_mod), (1, .int p0)] → W p l e (headSpec wsMod_always rm_Mod_always).room s m ([.ref h_mod, .int p0]).toArray below meth c s.heap [] 0 0 (MQ below (va_Qi (fun (r : Int32) (_ : Unit) => r = v.1) (fun _ t => sx_W (dC, dI) [(cI, .int), (cL, .long), (cZ, .boolean)] A [(h_mod, .inr (5, [.int v.2, .int mod_gates, .int mod_feeds, .int mod_inputs, .int mod_latches, .int mod_outputs, .ref a_mod_sort, .ref a_mod_number, .ref a_mod_value, .ref a_mod_made, .ref a_mod_to, .ref a_mod_from, .ref a_mod_outputOf, .ref a_mod_negated, .int mod_explored, .ref a_mod_settles, .ref a_mod_next, .ref a_mod_ones, .ref a_mod_distance, .ref a_mod_apart, .ref a_mod_leads])), (a_mod_settles, .inl (cZ, 4096, .inl mod_settles)), (a_mod_ones, .inl (cL, 4096, .inr (.inl mod_ones))), (a_mod_distance, .inl (cI, 256, .inl mod_distance))] t) A) ([.ref h_mod, .int p0]).toArray s 0 0 A) (F0 m 26 ls [.int z0J4, .int z1J4, .ref h_mod]) := by
      intro z0J4 z1J4 hm ls hl
      rw [hJ4] at hm
      dsimp only at hm
      obtain ⟨v5, hv5, hm⟩ := sx_bind hm
      have hPc := hP.sub (ws' := [(h_mod, .inr (5, [.int mod_code, .int mod_gates, .int mod_feeds, .int mod_inputs, .int mod_latches, .int mod_outputs, .ref a_mod_sort, .ref a_mod_number, .ref a_mod_value, .ref a_mod_made, .ref a_mod_to, .ref a_mod_from, .ref a_mod_outputOf, .ref a_mod_negated, .int mod_explored, .ref a_mod_settles, .ref a_mod_next, .ref a_mod_ones, .ref a_mod_distance, .ref a_mod_apart, .ref a_mod_leads]))]) [0] rfl
      have hDc := hD.sub (ws' := [(h_mod, .inr (5, [.int mod_code, .int mod_gates, .int mod_feeds, .int mod_inputs, .int mod_latches, .int mod_outputs, .ref a_mod_sort, .ref a_mod_number, .ref a_mod_value, .ref a_mod_made, .ref a_mod_to, .ref a_mod_from, .ref a_mod_outputOf, .ref a_mod_negated, .int mod_explored, .ref a_mod_settles, .ref a_mod_next, .ref a_mod_ones, .ref a_mod_distance, .ref a_mod_apart, .ref a_mod_leads]))]) [0] (by decide) rfl
      have hFc := va_free (wc := [(h_mod, .inr (5, [.int mod_code, .int mod_gates, .int mod_feeds, .int mod_inputs, .int mod_latches, .int mod_outputs, .ref a_mod_sort, .ref a_mod_number, .ref a_mod_value, .ref a_mod_made, .ref a_mod_to, .ref a_mod_from, .ref a_mod_outputOf, .ref a_mod_negated, .int mod_explored, .ref a_mod_settles, .ref a_mod_next, .ref a_mod_ones, .ref a_mod_distance, .ref a_mod_apart, .ref a_mod_leads]))]) hD hS hA [0] rfl
      refine va_calli (va_runV (As := [.int z1J4, .int z0J4]) (rest := []) ⟨hx, hb, hml, hown, hts⟩ (k_Mod_fails l dC dI cI cL cZ t1 t2 h_mod a_mod_sort a_mod_number a_mod_value a_mod_made a_mod_to a_mod_from a_mod_outputOf a_mod_negated a_mod_settles a_mod_next a_mod_ones a_mod_distance a_mod_apart a_mod_leads mod_code mod_gates mod_feeds mod_inputs mod_latches mod_outputs mod_explored _ z1J4 z0J4 v5 hv5) (cwV 2 hts (sx_gV tw_680 tw_682 tw_19 tw_41 tcMod_fails) rfl rfl rfl (by decide +kernel) ⟨Nat.le_of_ble_eq_true rfl, Nat.le_of_ble_eq_true rfl⟩) (sx_pV hK hX hS hPc hDc hFc (va_recv hK hPc (ci := 5) (q0 := 0) rfl rfl)) rfl rfl hl.1 rfl (lv_room (Nat.le_of_ble_eq_true rfl)) dMod_always_26 ⟨Nat.le_of_ble_eq_true rfl, Nat.le_of_ble_eq_true rfl⟩) hS (fun q _ h => hFc q h) hFc (fun r6 u_ t_ H locs ht hvm hw hB hz1 hk1 hS => ?_)
      obtain ⟨hP1, -, hD1⟩ := hB
      rw [ht] at hP1
      obtain ⟨hP, hD⟩ := va_join (wr := [(a_mod_settles, .inl (cZ, 4096, .inl mod_settles)), (a_mod_ones, .inl (cL, 4096, .inr (.inl mod_ones))), (a_mod_distance, .inl (cI, 256, .inl mod_distance))]) (w1 := [(h_mod, .inr (5, [.int v5.2, .int mod_gates, .int mod_feeds, .int mod_inputs, .int mod_latches, .int mod_outputs, .ref a_mod_sort, .ref a_mod_number, .ref a_mod_value, .ref a_mod_made, .ref a_mod_to, .ref a_mod_from, .ref a_mod_outputOf, .ref a_mod_negated, .int mod_explored, .ref a_mod_settles, .ref a_mod_next, .ref a_mod_ones, .ref a_mod_distance, .ref a_mod_apart, .ref a_mod_leads]))]) hP hD [0] [1, 2, 3] rfl rfl (by decide) (by decide) hk1 hFc hP1 hD1
      have hP : va_P (dC, dI) vwCl [(a_mod_settles, .inl (cZ, 4096, .inl mod_settles)), (a_mod_ones, .inl (cL, 4096, .inr (.inl mod_ones))), (a_mod_distance, .inl (cI, 256, .inl mod_distance)), (h_mod, .inr (5, [.int v5.2, .int mod_gates, .int mod_feeds, .int mod_inputs, .int mod_latches, .int mod_outputs, .ref a_mod_sort, .ref a_mod_number, .ref a_mod_value, .ref a_mod_made, .ref a_mod_to, .ref a_mod_from, .ref a_mod_outputOf, .ref a_mod_negated, .int mod_explored, .ref a_mod_settles, .ref a_mod_next, .ref a_mod_ones, .ref a_mod_distance, .ref a_mod_apart, .ref a_mod_leads]))] H := hP
      have hD : va_D A [(a_mod_settles, .inl (cZ, 4096, .inl mod_settles)), (a_mod_ones, .inl (cL, 4096, .inr (.inl mod_ones))), (a_mod_distance, .inl (cI, 256, .inl mod_distance)), (h_mod, .inr (5, [.int v5.2, .int mod_gates, .int mod_feeds, .int mod_inputs, .int mod_latches, .int mod_outputs, .ref a_mod_sort, .ref a_mod_number, .ref a_mod_value, .ref a_mod_made, .ref a_mod_to, .ref a_mod_from, .ref a_mod_outputOf, .ref a_mod_negated, .int mod_explored, .ref a_mod_settles, .ref a_mod_next, .ref a_mod_ones, .ref a_mod_distance, .ref a_mod_apart, .ref a_mod_leads]))] := hD
      have hw9 := hw.symm
      subst hw9
      refine lv_if_eq (tgt := 34) hx hb dMod_always_29 (by decide) (fun c7 => ?_) (fun c7 => ?_)
      · have hm := sx_pos c7 hm
        refine lv_aload_n hx hb dMod_always_34 rfl (lv_at hl 0 rfl) ?_
        refine lv_lconst (v := (1 : Int64)) hx hb dMod_always_35 (by decide) ?_
        refine lv_iload_n hx hb dMod_always_36 rfl (lv_at hl 1 rfl) ?_
        refine lv_lshl hx hb dMod_always_37 rfl ?_
        refine lv_iconst (v := (1 : Int32)) hx hb dMod_always_38 (by decide) ?_
        obtain ⟨v8, hv8, hm⟩ := sx_bind hm
        have hPc := hP.sub (ws' := [(h_mod, .inr (5, [.int v5.2, .int mod_gates, .int mod_feeds, .int mod_inputs, .int mod_latches, .int mod_outputs, .ref a_mod_sort, .ref a_mod_number, .ref a_mod_value, .ref a_mod_made, .ref a_mod_to, .ref a_mod_from, .ref a_mod_outputOf, .ref a_mod_negated, .int mod_explored, .ref a_mod_settles, .ref a_mod_next, .ref a_mod_ones, .ref a_mod_distance, .ref a_mod_apart, .ref a_mod_leads])), (a_mod_settles, .inl (cZ, 4096, .inl mod_settles)), (a_mod_ones, .inl (cL, 4096, .inr (.inl mod_ones))), (a_mod_distance, .inl (cI, 256, .inl mod_distance))]) [3, 0, 1, 2] rfl
        have hDc := hD.sub (ws' := [(h_mod, .inr (5, [.int v5.2, .int mod_gates, .int mod_feeds, .int mod_inputs, .int mod_latches, .int mod_outputs, .ref a_mod_sort, .ref a_mod_number, .ref a_mod_value, .ref a_mod_made, .ref a_mod_to, .ref a_mod_from, .ref a_mod_outputOf, .ref a_mod_negated, .int mod_explored, .ref a_mod_settles, .ref a_mod_next, .ref a_mod_ones, .ref a_mod_distance, .ref a_mod_apart, .ref a_mod_leads])), (a_mod_settles, .inl (cZ, 4096, .inl mod_settles)), (a_mod_ones, .inl (cL, 4096, .inr (.inl mod_ones))), (a_mod_distance, .inl (cI, 256, .inl mod_distance))]) [3, 0, 1, 2] (by decide) rfl
        have hFc := va_free (wc := [(h_mod, .inr (5, [.int v5.2, .int mod_gates, .int mod_feeds, .int mod_inputs, .int mod_latches, .int mod_outputs, .ref a_mod_sort, .ref a_mod_number, .ref a_mod_value, .ref a_mod_made, .ref a_mod_to, .ref a_mod_from, .ref a_mod_outputOf, .ref a_mod_negated, .int mod_explored, .ref a_mod_settles, .ref a_mod_next, .ref a_mod_ones, .ref a_mod_distance, .ref a_mod_apart, .ref a_mod_leads])), (a_mod_settles, .inl (cZ, 4096, .inl mod_settles)), (a_mod_ones, .inl (cL, 4096, .inr (.inl mod_ones))), (a_mod_distance, .inl (cI, 256, .inl mod_distance))]) hD hS hA [3, 0, 1, 2] rfl
        refine sx_stI (va_runV (As := [.long ((1 : Int64) <<< (p0.toInt64 &&& 63)), .int (1 : Int32)]) (rest := []) ⟨hx, hb, hml, hown, hts⟩ (k_Mod_held l dC dI cI cL cZ t1 t2 h_mod a_mod_sort a_mod_number a_mod_value a_mod_made a_mod_to a_mod_from a_mod_outputOf a_mod_negated a_mod_settles a_mod_next a_mod_ones a_mod_distance a_mod_apart a_mod_leads v5.2 mod_gates mod_feeds mod_inputs mod_latches mod_outputs mod_explored mod_settles mod_ones mod_distance _ ((1 : Int64) <<< (p0.toInt64 &&& 63)) (1 : Int32) v8 hv8) (cwV 2 hts (sx_gV tw_776 tw_778 tw_33 tw_41 tcMod_held) rfl rfl rfl (by decide +kernel) ⟨Nat.le_of_ble_eq_true rfl, Nat.le_of_ble_eq_true rfl⟩) (sx_pV hK hX hS hPc hDc hFc (va_recv hK hPc (ci := 5) (q0 := 0) rfl rfl)) rfl rfl hl.1 rfl (lv_room (Nat.le_of_ble_eq_true rfl)) dMod_always_39 ⟨Nat.le_of_ble_eq_true rfl, Nat.le_of_ble_eq_true rfl⟩) ?_
        refine lv_istore_n (lv' := [(2, .int v8), (0, .ref h_mod), (1, .int p0)]) hx hb dMod_always_42 rfl hl (by decide) rfl (fun ls hl => ?_)
        refine lv_aload_n hx hb dMod_always_43 rfl (lv_at hl 1 rfl) ?_
        refine lv_lconst (v := (1 : Int64)) hx hb dMod_always_44 (by decide) ?_
        refine lv_iload_n hx hb dMod_always_45 rfl (lv_at hl 2 rfl) ?_
        refine lv_lshl hx hb dMod_always_46 rfl ?_
        refine lv_iconst (v := (0 : Int32)) hx hb dMod_always_47 (by decide) ?_
        obtain ⟨v10, hv10, hm⟩ := sx_bind hm
        have hPc := hP.sub (ws' := [(h_mod, .inr (5, [.int v5.2, .int mod_gates, .int mod_feeds, .int mod_inputs, .int mod_latches, .int mod_outputs, .ref a_mod_sort, .ref a_mod_number, .ref a_mod_value, .ref a_mod_made, .ref a_mod_to, .ref a_mod_from, .ref a_mod_outputOf, .ref a_mod_negated, .int mod_explored, .ref a_mod_settles, .ref a_mod_next, .ref a_mod_ones, .ref a_mod_distance, .ref a_mod_apart, .ref a_mod_leads])), (a_mod_settles, .inl (cZ, 4096, .inl mod_settles)), (a_mod_ones, .inl (cL, 4096, .inr (.inl mod_ones))), (a_mod_distance, .inl (cI, 256, .inl mod_distance))]) [3, 0, 1, 2] rfl
        have hDc := hD.sub (ws' := [(h_mod, .inr (5, [.int v5.2, .int mod_gates, .int mod_feeds, .int mod_inputs, .int mod_latches, .int mod_outputs, .ref a_mod_sort, .ref a_mod_number, .ref a_mod_value, .ref a_mod_made, .ref a_mod_to, .ref a_mod_from, .ref a_mod_outputOf, .ref a_mod_negated, .int mod_explored, .ref a_mod_settles, .ref a_mod_next, .ref a_mod_ones, .ref a_mod_distance, .ref a_mod_apart, .ref a_mod_leads])), (a_mod_settles, .inl (cZ, 4096, .inl mod_settles)), (a_mod_ones, .inl (cL, 4096, .inr (.inl mod_ones))), (a_mod_distance, .inl (cI, 256, .inl mod_distance))]) [3, 0, 1, 2] (by decide) rfl
        have hFc := va_free (wc := [(h_mod, .inr (5, [.int v5.2, .int mod_gates, .int mod_feeds, .int mod_inputs, .int mod_latches, .int mod_outputs, .ref a_mod_sort, .ref a_mod_number, .ref a_mod_value, .ref a_mod_made, .ref a_mod_to, .ref a_mod_from, .ref a_mod_outputOf, .ref a_mod_negated, .int mod_explored, .ref a_mod_settles, .ref a_mod_next, .ref a_mod_ones, .ref a_mod_distance, .ref a_mod_apart, .ref a_mod_leads])), (a_mod_settles, .inl (cZ, 4096, .inl mod_settles)), (a_mod_ones, .inl (cL, 4096, .inr (.inl mod_ones))), (a_mod_distance, .inl (cI, 256, .inl mod_distance))]) hD hS hA [3, 0, 1, 2] rfl
        refine sx_stI (va_runV (As := [.long ((1 : Int64) <<< (p0.toInt64 &&& 63)), .int (0 : Int32)]) (rest := []) ⟨hx, hb, hml, hown, hts⟩ (k_Mod_held l dC dI cI cL cZ t1 t2 h_mod a_mod_sort a_mod_number a_mod_value a_mod_made a_mod_to a_mod_from a_mod_outputOf a_mod_negated a_mod_settles a_mod_next a_mod_ones a_mod_distance a_mod_apart a_mod_leads v5.2 mod_gates mod_feeds mod_inputs mod_latches mod_outputs mod_explored mod_settles mod_ones mod_distance _ ((1 : Int64) <<< (p0.toInt64 &&& 63)) (0 : Int32) v10 hv10) (cwV 2 hts (sx_gV tw_776 tw_778 tw_33 tw_41 tcMod_held) rfl rfl rfl (by decide +kernel) ⟨Nat.le_of_ble_eq_true rfl, Nat.le_of_ble_eq_true rfl⟩) (sx_pV hK hX hS hPc hDc hFc (va_recv hK hPc (ci := 5) (q0 := 0) rfl rfl)) rfl rfl hl.1 rfl (lv_room (Nat.le_of_ble_eq_true rfl)) dMod_always_48 ⟨Nat.le_of_ble_eq_true rfl, Nat.le_of_ble_eq_true rfl⟩) ?_
        refine lv_istore_n (lv' := [(3, .int v10), (2, .int v8), (0, .ref h_mod), (1, .int p0)]) hx hb dMod_always_51 rfl hl (by decide) rfl (fun ls hl => ?_)
        refine lv_iload_n hx hb dMod_always_52 rfl (lv_at hl 1 rfl) ?_
        obtain ⟨J12, hJ12, hm⟩ := sx_lj hm
        have jJ12 : ∀ (_ : Unit), J12 () = some v → ∀ (ls : Array Slot), lv_has ls 4 [(2, .int v8), (3, .int v10)] → W p l e (headSpec wsMod_always rm_Mod_always).room s m ([.ref h_mod, .int p0]).toArray below meth c H locs 0 0 (MQ below (va_Qi (fun (r : Int32) (_ : Unit) => r = v.1) (fun _ t => sx_W (dC, dI) [(cI, .int), (cL, .long), (cZ, .boolean)] A [(h_mod, .inr (5, [.int v.2, .int mod_gates, .int mod_feeds, .int mod_inputs, .int mod_latches, .int mod_outputs, .ref a_mod_sort, .ref a_mod_number, .ref a_mod_value, .ref a_mod_made, .ref a_mod_to, .ref a_mod_from, .ref a_mod_outputOf, .ref a_mod_negated, .int mod_explored, .ref a_mod_settles, .ref a_mod_next, .ref a_mod_ones, .ref a_mod_distance, .ref a_mod_apart, .ref a_mod_leads])), (a_mod_settles, .inl (cZ, 4096, .inl mod_settles)), (a_mod_ones, .inl (cL, 4096, .inr (.inl mod_ones))), (a_mod_distance, .inl (cI, 256, .inl mod_distance))] t) A) ([.ref h_mod, .int p0]).toArray s 0 0 A) (F0 m 64 ls []) := by
          intro _ hm ls hl
          rw [hJ12] at hm
          dsimp only at hm
          refine lv_iload_n hx hb dMod_always_64 rfl (lv_at hl 1 rfl) ?_
          refine lv_if_le (tgt := 76) hx hb dMod_always_65 (by decide) (fun c13 => ?_) (fun c13 => ?_)
          · have hm := sx_pos c13 hm
            refine lv_iconst (v := (2 : Int32)) hx hb dMod_always_76 (by decide) ?_
            obtain rfl := Option.some.inj hm
            exact W.iret (v := (2 : Int32)) hx hb hr (fun t ht hW => ⟨⟨(2 : Int32), (), rfl, rfl, sx_Wi (hP.sub (ws' := [(h_mod, .inr (5, [.int v5.2, .int mod_gates, .int mod_feeds, .int mod_inputs, .int mod_latches, .int mod_outputs, .ref a_mod_sort, .ref a_mod_number, .ref a_mod_value, .ref a_mod_made, .ref a_mod_to, .ref a_mod_from, .ref a_mod_outputOf, .ref a_mod_negated, .int mod_explored, .ref a_mod_settles, .ref a_mod_next, .ref a_mod_ones, .ref a_mod_distance, .ref a_mod_apart, .ref a_mod_leads])), (a_mod_settles, .inl (cZ, 4096, .inl mod_settles)), (a_mod_ones, .inl (cL, 4096, .inr (.inl mod_ones))), (a_mod_distance, .inl (cI, 256, .inl mod_distance))]) [3, 0, 1, 2] rfl) hK (hD.sub (ws' := [(h_mod, .inr (5, [.int v5.2, .int mod_gates, .int mod_feeds, .int mod_inputs, .int mod_latches, .int mod_outputs, .ref a_mod_sort, .ref a_mod_number, .ref a_mod_value, .ref a_mod_made, .ref a_mod_to, .ref a_mod_from, .ref a_mod_outputOf, .ref a_mod_negated, .int mod_explored, .ref a_mod_settles, .ref a_mod_next, .ref a_mod_ones, .ref a_mod_distance, .ref a_mod_apart, .ref a_mod_leads])), (a_mod_settles, .inl (cZ, 4096, .inl mod_settles)), (a_mod_ones, .inl (cL, 4096, .inr (.inl mod_ones))), (a_mod_distance, .inl (cI, 256, .inl mod_distance))]) [3, 0, 1, 2] (by decide) rfl) ht hW.alike⟩, hS.F ht⟩) hS.2.2 dMod_always_77
          · have hm := sx_neg c13 hm
            refine lv_iload_n hx hb dMod_always_68 rfl (lv_at hl 0 rfl) ?_
            refine lv_if_ne (tgt := 76) hx hb dMod_always_69 (by decide) (fun c14 => ?_) (fun c14 => ?_)
            · have hm := sx_neg c14 hm
              refine lv_iconst (v := (2 : Int32)) hx hb dMod_always_76 (by decide) ?_
              obtain rfl := Option.some.inj hm
              exact W.iret (v := (2 : Int32)) hx hb hr (fun t ht hW => ⟨⟨(2 : Int32), (), rfl, rfl, sx_Wi (hP.sub (ws' := [(h_mod, .inr (5, [.int v5.2, .int mod_gates, .int mod_feeds, .int mod_inputs, .int mod_latches, .int mod_outputs, .ref a_mod_sort, .ref a_mod_number, .ref a_mod_value, .ref a_mod_made, .ref a_mod_to, .ref a_mod_from, .ref a_mod_outputOf, .ref a_mod_negated, .int mod_explored, .ref a_mod_settles, .ref a_mod_next, .ref a_mod_ones, .ref a_mod_distance, .ref a_mod_apart, .ref a_mod_leads])), (a_mod_settles, .inl (cZ, 4096, .inl mod_settles)), (a_mod_ones, .inl (cL, 4096, .inr (.inl mod_ones))), (a_mod_distance, .inl (cI, 256, .inl mod_distance))]) [3, 0, 1, 2] rfl) hK (hD.sub (ws' := [(h_mod, .inr (5, [.int v5.2, .int mod_gates, .int mod_feeds, .int mod_inputs, .int mod_latches, .int mod_outputs, .ref a_mod_sort, .ref a_mod_number, .ref a_mod_value, .ref a_mod_made, .ref a_mod_to, .ref a_mod_from, .ref a_mod_outputOf, .ref a_mod_negated, .int mod_explored, .ref a_mod_settles, .ref a_mod_next, .ref a_mod_ones, .ref a_mod_distance, .ref a_mod_apart, .ref a_mod_leads])), (a_mod_settles, .inl (cZ, 4096, .inl mod_settles)), (a_mod_ones, .inl (cL, 4096, .inr (.inl mod_ones))), (a_mod_distance, .inl (cI, 256, .inl mod_distance))]) [3, 0, 1, 2] (by decide) rfl) ht hW.alike⟩, hS.F ht⟩) hS.2.2 dMod_always_77
            · have hm := sx_pos c14 hm
              refine lv_iconst (v := (0 : Int32)) hx hb dMod_always_72 (by decide) ?_
              refine lv_goto (tgt := 77) hx hb dMod_always_73 (by decide) ?_
              obtain rfl := Option.some.inj hm
              exact W.iret (v := (0 : Int32)) hx hb hr (fun t ht hW => ⟨⟨(0 : Int32), (), rfl, rfl, sx_Wi (hP.sub (ws' := [(h_mod, .inr (5, [.int v5.2, .int mod_gates, .int mod_feeds, .int mod_inputs, .int mod_latches, .int mod_outputs, .ref a_mod_sort, .ref a_mod_number, .ref a_mod_value, .ref a_mod_made, .ref a_mod_to, .ref a_mod_from, .ref a_mod_outputOf, .ref a_mod_negated, .int mod_explored, .ref a_mod_settles, .ref a_mod_next, .ref a_mod_ones, .ref a_mod_distance, .ref a_mod_apart, .ref a_mod_leads])), (a_mod_settles, .inl (cZ, 4096, .inl mod_settles)), (a_mod_ones, .inl (cL, 4096, .inr (.inl mod_ones))), (a_mod_distance, .inl (cI, 256, .inl mod_distance))]) [3, 0, 1, 2] rfl) hK (hD.sub (ws' := [(h_mod, .inr (5, [.int v5.2, .int mod_gates, .int mod_feeds, .int mod_inputs, .int mod_latches, .int mod_outputs, .ref a_mod_sort, .ref a_mod_number, .ref a_mod_value, .ref a_mod_made, .ref a_mod_to, .ref a_mod_from, .ref a_mod_outputOf, .ref a_mod_negated, .int mod_explored, .ref a_mod_settles, .ref a_mod_next, .ref a_mod_ones, .ref a_mod_distance, .ref a_mod_apart, .ref a_mod_leads])), (a_mod_settles, .inl (cZ, 4096, .inl mod_settles)), (a_mod_ones, .inl (cL, 4096, .inr (.inl mod_ones))), (a_mod_distance, .inl (cI, 256, .inl mod_distance))]) [3, 0, 1, 2] (by decide) rfl) ht hW.alike⟩, hS.F ht⟩) hS.2.2 dMod_always_77
        refine lv_if_le (tgt := 64) hx hb dMod_always_53 (by decide) (fun c15 => ?_) (fun c15 => ?_)
        · have hm := sx_pos c15 hm
          exact jJ12 () hm _ (lv_sub hl [1, 0] rfl)
        · have hm := sx_neg c15 hm
          refine lv_iload_n hx hb dMod_always_56 rfl (lv_at hl 0 rfl) ?_
          refine lv_if_ne (tgt := 64) hx hb dMod_always_57 (by decide) (fun c16 => ?_) (fun c16 => ?_)
          · have hm := sx_neg c16 hm
            exact jJ12 () hm _ (lv_sub hl [1, 0] rfl)
          · have hm := sx_pos c16 hm
            refine lv_iconst (v := (1 : Int32)) hx hb dMod_always_60 (by decide) ?_
            refine lv_goto (tgt := 77) hx hb dMod_always_61 (by decide) ?_
            obtain rfl := Option.some.inj hm
            exact W.iret (v := (1 : Int32)) hx hb hr (fun t ht hW => ⟨⟨(1 : Int32), (), rfl, rfl, sx_Wi (hP.sub (ws' := [(h_mod, .inr (5, [.int v5.2, .int mod_gates, .int mod_feeds, .int mod_inputs, .int mod_latches, .int mod_outputs, .ref a_mod_sort, .ref a_mod_number, .ref a_mod_value, .ref a_mod_made, .ref a_mod_to, .ref a_mod_from, .ref a_mod_outputOf, .ref a_mod_negated, .int mod_explored, .ref a_mod_settles, .ref a_mod_next, .ref a_mod_ones, .ref a_mod_distance, .ref a_mod_apart, .ref a_mod_leads])), (a_mod_settles, .inl (cZ, 4096, .inl mod_settles)), (a_mod_ones, .inl (cL, 4096, .inr (.inl mod_ones))), (a_mod_distance, .inl (cI, 256, .inl mod_distance))]) [3, 0, 1, 2] rfl) hK (hD.sub (ws' := [(h_mod, .inr (5, [.int v5.2, .int mod_gates, .int mod_feeds, .int mod_inputs, .int mod_latches, .int mod_outputs, .ref a_mod_sort, .ref a_mod_number, .ref a_mod_value, .ref a_mod_made, .ref a_mod_to, .ref a_mod_from, .ref a_mod_outputOf, .ref a_mod_negated, .int mod_explored, .ref a_mod_settles, .ref a_mod_next, .ref a_mod_ones, .ref a_mod_distance, .ref a_mod_apart, .ref a_mod_leads])), (a_mod_settles, .inl (cZ, 4096, .inl mod_settles)), (a_mod_ones, .inl (cL, 4096, .inr (.inl mod_ones))), (a_mod_distance, .inl (cI, 256, .inl mod_distance))]) [3, 0, 1, 2] (by decide) rfl) ht hW.alike⟩, hS.F ht⟩) hS.2.2 dMod_always_77
      · have hm := sx_neg c7 hm
        refine lv_iconst (v := (0 : Int32)) hx hb dMod_always_32 (by decide) ?_
        obtain rfl := Option.some.inj hm
        exact W.iret (v := (0 : Int32)) hx hb hr (fun t ht hW => ⟨⟨(0 : Int32), (), rfl, rfl, sx_Wi (hP.sub (ws' := [(h_mod, .inr (5, [.int v5.2, .int mod_gates, .int mod_feeds, .int mod_inputs, .int mod_latches, .int mod_outputs, .ref a_mod_sort, .ref a_mod_number, .ref a_mod_value, .ref a_mod_made, .ref a_mod_to, .ref a_mod_from, .ref a_mod_outputOf, .ref a_mod_negated, .int mod_explored, .ref a_mod_settles, .ref a_mod_next, .ref a_mod_ones, .ref a_mod_distance, .ref a_mod_apart, .ref a_mod_leads])), (a_mod_settles, .inl (cZ, 4096, .inl mod_settles)), (a_mod_ones, .inl (cL, 4096, .inr (.inl mod_ones))), (a_mod_distance, .inl (cI, 256, .inl mod_distance))]) [3, 0, 1, 2] rfl) hK (hD.sub (ws' := [(h_mod, .inr (5, [.int v5.2, .int mod_gates, .int mod_feeds, .int mod_inputs, .int mod_latches, .int mod_outputs, .ref a_mod_sort, .ref a_mod_number, .ref a_mod_value, .ref a_mod_made, .ref a_mod_to, .ref a_mod_from, .ref a_mod_outputOf, .ref a_mod_negated, .int mod_explored, .ref a_mod_settles, .ref a_mod_next, .ref a_mod_ones, .ref a_mod_distance, .ref a_mod_apart, .ref a_mod_leads])), (a_mod_settles, .inl (cZ, 4096, .inl mod_settles)), (a_mod_ones, .inl (cL, 4096, .inr (.inl mod_ones))), (a_mod_distance, .inl (cI, 256, .inl mod_distance))]) [3, 0, 1, 2] (by decide) rfl) ht hW.alike⟩, hS.F ht⟩) hS.2.2 dMod_always_33
    refine lv_if_ne (tgt := 25) hx hb dMod_always_18 (by decide) (fun c17 => ?_) (fun c17 => ?_)
    · have hm := sx_neg c17 hm
      refine lv_iconst (v := (0 : Int32)) hx hb dMod_always_25 (by decide) ?_
      exact jJ4 (0 : Int32) z0J1 hm _ (hl)
    · have hm := sx_pos c17 hm
      refine lv_iconst (v := (1 : Int32)) hx hb dMod_always_21 (by decide) ?_
      refine lv_goto (tgt := 26) hx hb dMod_always_22 (by decide) ?_
      exact jJ4 (1 : Int32) z0J1 hm _ (hl)
  refine lv_if_ne (tgt := 12) hx hb dMod_always_5 (by decide) (fun c18 => ?_) (fun c18 => ?_)
  · have hm := sx_neg c18 hm
    refine lv_iconst (v := (0 : Int32)) hx hb dMod_always_12 (by decide) ?_
    exact jJ1 (0 : Int32) hm _ (hl)
  · have hm := sx_pos c18 hm
    refine lv_iconst (v := (1 : Int32)) hx hb dMod_always_8 (by decide) ?_
    refine lv_goto (tgt := 13) hx hb dMod_always_9 (by decide) ?_
    exact jJ1 (1 : Int32) hm _ (hl)
noncomputable def m_Mod_isSame (mod_code mod_gates mod_inputs mod_latches mod_explored : Int32) (mod_settles : Nat → Int32) (mod_ones : Nat → Int64) (mod_distance : Nat → Int32) (p0 : Int32) (p1 : Int32) : Option (Int32 × Int32) := (sx_let (fun (z0J1 : Int32) => (m_Mod_isGate mod_gates p0).bind (fun v2 => (sx_let (fun (z0J4 : Int32) (z1J4 : Int32) => (m_Mod_fails mod_code z1J4 z0J4).bind (fun v5 => (if v5.1 = (0 : Int32) then (m_Mod_held mod_inputs mod_latches mod_settles mod_ones mod_distance (((1 : Int64) <<< (p0.toInt64 &&& 63)) ||| ((1 : Int64) <<< (p1.toInt64 &&& 63))) (1 : Int32)).bind (fun v8 => (m_Mod_held mod_inputs mod_latches mod_settles mod_ones mod_distance (((1 : Int64) <<< (p0.toInt64 &&& 63)) ||| ((1 : Int64) <<< (p1.toInt64 &&& 63))) (0 : Int32)).bind (fun v10 => (m_Mod_held mod_inputs mod_latches mod_settles mod_ones mod_distance (0 : Int64) (1 : Int32)).bind (fun v12 => (if v8 + v10 = v12 then some ((1 : Int32), v5.2) else some ((0 : Int32), v5.2))))) else some ((0 : Int32), v5.2)))) (fun J4 => sx_let (fun (z0J15 : Int32) => (J4 (1 : Int32) z0J15)) (fun J15 => (if v2 = (0 : Int32) then (J15 z0J1) else (m_Mod_isGate mod_gates p1).bind (fun v17 => (if v17 = (0 : Int32) then (J15 z0J1) else (J4 (0 : Int32) z0J1))))))))) (fun J1 => (if mod_explored = (0 : Int32) then (J1 (1 : Int32)) else (J1 (0 : Int32)))))
def rm_Mod_isSame : Room := { frames := 2, cells := 0, slots := 0, locals := 48 }
set_option maxHeartbeats 4000000 in
set_option maxRecDepth 100000 in
theorem k_Mod_isSame (l : Launch) (dC : Nat → ClassId) (dI : Nat → Nat → Nat) (cI cL cZ : ClassId) (t1 t2 : Nat) (h_mod a_mod_sort a_mod_number a_mod_value a_mod_made a_mod_to a_mod_from a_mod_outputOf a_mod_negated a_mod_settles a_mod_next a_mod_ones a_mod_distance a_mod_apart a_mod_leads : Nat) (mod_code mod_gates mod_feeds mod_inputs mod_latches mod_outputs mod_explored : Int32) (mod_settles : Nat → Int32) (mod_ones : Nat → Int64) (mod_distance : Nat → Int32) (sz : Nat) (p0 : Int32) (p1 : Int32) (v : Int32 × Int32) (hm : m_Mod_isSame mod_code mod_gates mod_inputs mod_latches mod_explored mod_settles mod_ones mod_distance p0 p1 = some v) : Met l yMod_isSame wsMod_isSame rm_Mod_isSame (sx_Pc (dC, dI) [(cI, .int), (cL, .long), (cZ, .boolean)] t1 t2 [(h_mod, .inr (5, [.int mod_code, .int mod_gates, .int mod_feeds, .int mod_inputs, .int mod_latches, .int mod_outputs, .ref a_mod_sort, .ref a_mod_number, .ref a_mod_value, .ref a_mod_made, .ref a_mod_to, .ref a_mod_from, .ref a_mod_outputOf, .ref a_mod_negated, .int mod_explored, .ref a_mod_settles, .ref a_mod_next, .ref a_mod_ones, .ref a_mod_distance, .ref a_mod_apart, .ref a_mod_leads])), (a_mod_settles, .inl (cZ, 4096, .inl mod_settles)), (a_mod_ones, .inl (cL, 4096, .inr (.inl mod_ones))), (a_mod_distance, .inl (cI, 256, .inl mod_distance))] sz [.ref h_mod, .int p0, .int p1]) (va_Qi (fun (r : Int32) (_ : Unit) => r = v.1) (fun _ t => sx_W (dC, dI) [(cI, .int), (cL, .long), (cZ, .boolean)] (va_A [(h_mod, .inr (5, [.int mod_code, .int mod_gates, .int mod_feeds, .int mod_inputs, .int mod_latches, .int mod_outputs, .ref a_mod_sort, .ref a_mod_number, .ref a_mod_value, .ref a_mod_made, .ref a_mod_to, .ref a_mod_from, .ref a_mod_outputOf, .ref a_mod_negated, .int mod_explored, .ref a_mod_settles, .ref a_mod_next, .ref a_mod_ones, .ref a_mod_distance, .ref a_mod_apart, .ref a_mod_leads])), (a_mod_settles, .inl (cZ, 4096, .inl mod_settles)), (a_mod_ones, .inl (cL, 4096, .inr (.inl mod_ones))), (a_mod_distance, .inl (cI, 256, .inl mod_distance))] sz) [(h_mod, .inr (5, [.int v.2, .int mod_gates, .int mod_feeds, .int mod_inputs, .int mod_latches, .int mod_outputs, .ref a_mod_sort, .ref a_mod_number, .ref a_mod_value, .ref a_mod_made, .ref a_mod_to, .ref a_mod_from, .ref a_mod_outputOf, .ref a_mod_negated, .int mod_explored, .ref a_mod_settles, .ref a_mod_next, .ref a_mod_ones, .ref a_mod_distance, .ref a_mod_apart, .ref a_mod_leads])), (a_mod_settles, .inl (cZ, 4096, .inl mod_settles)), (a_mod_ones, .inl (cL, 4096, .inr (.inl mod_ones))), (a_mod_distance, .inl (cI, 256, .inl mod_distance))] t) (va_A [(h_mod, .inr (5, [.int mod_code, .int mod_gates, .int mod_feeds, .int mod_inputs, .int mod_latches, .int mod_outputs, .ref a_mod_sort, .ref a_mod_number, .ref a_mod_value, .ref a_mod_made, .ref a_mod_to, .ref a_mod_from, .ref a_mod_outputOf, .ref a_mod_negated, .int mod_explored, .ref a_mod_settles, .ref a_mod_next, .ref a_mod_ones, .ref a_mod_distance, .ref a_mod_apart, .ref a_mod_leads])), (a_mod_settles, .inl (cZ, 4096, .inl mod_settles)), (a_mod_ones, .inl (cL, 4096, .inr (.inl mod_ones))), (a_mod_distance, .inl (cI, 256, .inl mod_distance))] sz)) 0 0 (va_A [(h_mod, .inr (5, [.int mod_code, .int mod_gates, .int mod_feeds, .int mod_inputs, .int mod_latches, .int mod_outputs, .ref a_mod_sort, .ref a_mod_number, .ref a_mod_value, .ref a_mod_made, .ref a_mod_to, .ref a_mod_from, .ref a_mod_outputOf, .ref a_mod_negated, .int mod_explored, .ref a_mod_settles, .ref a_mod_next, .ref a_mod_ones, .ref a_mod_distance, .ref a_mod_apart, .ref a_mod_leads])), (a_mod_settles, .inl (cZ, 4096, .inl mod_settles)), (a_mod_ones, .inl (cL, 4096, .inr (.inl mod_ones))), (a_mod_distance, .inl (cI, 256, .inl mod_distance))] sz) := by
  refine Met.ofW (cc := cMod_isSame) (maxL := 5) (ret := (some .boolean)) (by decide) rfl ?_
  intro p e s m args below meth c s₁ B hml hv
  obtain ⟨rfl, hsz, hP, hK, hD0, hX⟩ := hv
  have hx := B.exec
  have hb := B.bytes
  have hr := B.returns
  have hts0 := atoms_spec (ws := wsMod_isSame) B.pre
  have hts : ∀ w ∈ tb, w.before _ s = true := fun w h => hts0 w (List.mem_cons_of_mem _ h)
  have hown : s.vm.findClass "StateExplorerModel" = some m.cls := findClass_of_methodNamed B.named
  have hlocks := B.notSynchronized
  subst hsz
  have hD := hD0.self (sz := s.heap.size)
  generalize hAe : va_A [(h_mod, .inr (5, [.int mod_code, .int mod_gates, .int mod_feeds, .int mod_inputs, .int mod_latches, .int mod_outputs, .ref a_mod_sort, .ref a_mod_number, .ref a_mod_value, .ref a_mod_made, .ref a_mod_to, .ref a_mod_from, .ref a_mod_outputOf, .ref a_mod_negated, .int mod_explored, .ref a_mod_settles, .ref a_mod_next, .ref a_mod_ones, .ref a_mod_distance, .ref a_mod_apart, .ref a_mod_leads])), (a_mod_settles, .inl (cZ, 4096, .inl mod_settles)), (a_mod_ones, .inl (cL, 4096, .inr (.inl mod_ones))), (a_mod_distance, .inl (cI, 256, .inl mod_distance))] s.heap.size = A at hD hX ⊢
  have hA : ∀ q : Nat, s.heap.size ≤ q → A q := fun q h => by rw [← hAe]; exact Or.inr h
  have hS : va_S A s.heap s.heap [] := va_S.rf
  have hl := lv_entry ([.ref h_mod, .int p0, .int p1]) (n := 5) (Nat.le_of_ble_eq_true rfl)
  rw [lg_entry_eq]
  generalize (lg_sl ([.ref h_mod, .int p0, .int p1]) ++ List.replicate (5 - (lg_sl ([.ref h_mod, .int p0, .int p1])).length) Slot.unset).toArray = ls at hl ⊢
  have hl : lv_has ls 5 [(0, .ref h_mod), (1, .int p0), (2, .int p1)] := hl
  have C0 : sx_C p s m _ meth c cMod_isSame 5 "StateExplorerModel" A (dC, dI) [(cI, .int), (cL, .long), (cZ, .boolean)] t1 t2 := ⟨hx, hb, hml, hown, hts, hA, hK, hlocks, hX⟩
  rw [m_Mod_isSame] at hm
  refine lv_aload_n hx hb dMod_isSame_0 rfl (lv_at hl 0 rfl) ?_
  refine lv_aload_n hx hb dMod_isSame_1 rfl (lv_at hl 0 rfl) ?_
  refine va_get (D := (dC, dI)) (ci := 5) (v := .int mod_explored) (C := RMod) (T := TMod) (N := 21) hx hb hts inMod hown hK hP 0 rfl rfl 14 (by decide) (hts _ tw_625) (fun _ h9 => h9) rfl dMod_isSame_2 ?_
  obtain ⟨J1, hJ1, hm⟩ := sx_lj hm
  have jJ1 : ∀ (z0J1 : Int32), J1 z0J1 = some v → ∀ (ls : Array Slot), lv_has ls 5 [(0, .ref h_mod), (1, .int p0), (2, .int p1)] → W p l e (headSpec wsMod_isSame rm_Mod_isSame).room s m ([.ref h_mod, .int p0, .int p1]).toArray below meth c s.heap [] 0 0 (MQ below (va_Qi (fun (r : Int32) (_ : Unit) => r = v.1) (fun _ t => sx_W (dC, dI) [(cI, .int), (cL, .long), (cZ, .boolean)] A [(h_mod, .inr (5, [.int v.2, .int mod_gates, .int mod_feeds, .int mod_inputs, .int mod_latches, .int mod_outputs, .ref a_mod_sort, .ref a_mod_number, .ref a_mod_value, .ref a_mod_made, .ref a_mod_to, .ref a_mod_from, .ref a_mod_outputOf, .ref a_mod_negated, .int mod_explored, .ref a_mod_settles, .ref a_mod_next, .ref a_mod_ones, .ref a_mod_distance, .ref a_mod_apart, .ref a_mod_leads])), (a_mod_settles, .inl (cZ, 4096, .inl mod_settles)), (a_mod_ones, .inl (cL, 4096, .inr (.inl mod_ones))), (a_mod_distance, .inl (cI, 256, .inl mod_distance))] t) A) ([.ref h_mod, .int p0, .int p1]).toArray s 0 0 A) (F0 m 13 ls [.int z0J1, .ref h_mod]) := by
    intro z0J1 hm ls hl
    rw [hJ1] at hm
    dsimp only at hm
    refine lv_aload_n hx hb dMod_isSame_13 rfl (lv_at hl 0 rfl) ?_
    refine lv_iload_n hx hb dMod_isSame_14 rfl (lv_at hl 1 rfl) ?_
    obtain ⟨v2, hv2, hm⟩ := sx_bind hm
    have hPc := hP.sub (ws' := [(h_mod, .inr (5, [.int mod_code, .int mod_gates, .int mod_feeds, .int mod_inputs, .int mod_latches, .int mod_outputs, .ref a_mod_sort, .ref a_mod_number, .ref a_mod_value, .ref a_mod_made, .ref a_mod_to, .ref a_mod_from, .ref a_mod_outputOf, .ref a_mod_negated, .int mod_explored, .ref a_mod_settles, .ref a_mod_next, .ref a_mod_ones, .ref a_mod_distance, .ref a_mod_apart, .ref a_mod_leads]))]) [0] rfl
    have hDc := hD.sub (ws' := [(h_mod, .inr (5, [.int mod_code, .int mod_gates, .int mod_feeds, .int mod_inputs, .int mod_latches, .int mod_outputs, .ref a_mod_sort, .ref a_mod_number, .ref a_mod_value, .ref a_mod_made, .ref a_mod_to, .ref a_mod_from, .ref a_mod_outputOf, .ref a_mod_negated, .int mod_explored, .ref a_mod_settles, .ref a_mod_next, .ref a_mod_ones, .ref a_mod_distance, .ref a_mod_apart, .ref a_mod_leads]))]) [0] (by decide) rfl
    have hFc := va_free (wc := [(h_mod, .inr (5, [.int mod_code, .int mod_gates, .int mod_feeds, .int mod_inputs, .int mod_latches, .int mod_outputs, .ref a_mod_sort, .ref a_mod_number, .ref a_mod_value, .ref a_mod_made, .ref a_mod_to, .ref a_mod_from, .ref a_mod_outputOf, .ref a_mod_negated, .int mod_explored, .ref a_mod_settles, .ref a_mod_next, .ref a_mod_ones, .ref a_mod_distance, .ref a_mod_apart, .ref a_mod_leads]))]) hD hS hA [0] rfl
    refine sx_stI (va_runV (As := [.int p0]) (rest := [.int z0J1, .ref h_mod]) ⟨hx, hb, hml, hown, hts⟩ (k_Mod_isGate l dC dI cI cL cZ t1 t2 h_mod a_mod_sort a_mod_number a_mod_value a_mod_made a_mod_to a_mod_from a_mod_outputOf a_mod_negated a_mod_settles a_mod_next a_mod_ones a_mod_distance a_mod_apart a_mod_leads mod_code mod_gates mod_feeds mod_inputs mod_latches mod_outputs mod_explored _ p0 v2 hv2) (cwV 1 hts (sx_gV tw_688 tw_690 tw_20 tw_41 tcMod_isGate) rfl rfl rfl (by decide +kernel) ⟨Nat.le_of_ble_eq_true rfl, Nat.le_of_ble_eq_true rfl⟩) (sx_pV hK hX hS hPc hDc hFc (va_recv hK hPc (ci := 5) (q0 := 0) rfl rfl)) rfl rfl hl.1 rfl (lv_room (Nat.le_of_ble_eq_true rfl)) dMod_isSame_15 ⟨Nat.le_of_ble_eq_true rfl, Nat.le_of_ble_eq_true rfl⟩) ?_
    obtain ⟨J4, hJ4, hm⟩ := sx_lj hm
    have jJ4 : ∀ (z0J4 : Int32) (z1J4 : Int32), J4 z0J4 z1J4 = some v → ∀ (ls : Array Slot), lv_has ls 5 [(0, .ref h_mod), (1, .int p0), (2, .int p1)] → W p l e (headSpec wsMod_isSame rm_Mod_isSame).room s m ([.ref h_mod, .int p0, .int p1]).toArray below meth c s.heap [] 0 0 (MQ below (va_Qi (fun (r : Int32) (_ : Unit) => r = v.1) (fun _ t => sx_W (dC, dI) [(cI, .int), (cL, .long), (cZ, .boolean)] A [(h_mod, .inr (5, [.int v.2, .int mod_gates, .int mod_feeds, .int mod_inputs, .int mod_latches, .int mod_outputs, .ref a_mod_sort, .ref a_mod_number, .ref a_mod_value, .ref a_mod_made, .ref a_mod_to, .ref a_mod_from, .ref a_mod_outputOf, .ref a_mod_negated, .int mod_explored, .ref a_mod_settles, .ref a_mod_next, .ref a_mod_ones, .ref a_mod_distance, .ref a_mod_apart, .ref a_mod_leads])), (a_mod_settles, .inl (cZ, 4096, .inl mod_settles)), (a_mod_ones, .inl (cL, 4096, .inr (.inl mod_ones))), (a_mod_distance, .inl (cI, 256, .inl mod_distance))] t) A) ([.ref h_mod, .int p0, .int p1]).toArray s 0 0 A) (F0 m 34 ls [.int z0J4, .int z1J4, .ref h_mod]) := by
      intro z0J4 z1J4 hm ls hl
      rw [hJ4] at hm
      dsimp only at hm
      obtain ⟨v5, hv5, hm⟩ := sx_bind hm
      have hPc := hP.sub (ws' := [(h_mod, .inr (5, [.int mod_code, .int mod_gates, .int mod_feeds, .int mod_inputs, .int mod_latches, .int mod_outputs, .ref a_mod_sort, .ref a_mod_number, .ref a_mod_value, .ref a_mod_made, .ref a_mod_to, .ref a_mod_from, .ref a_mod_outputOf, .ref a_mod_negated, .int mod_explored, .ref a_mod_settles, .ref a_mod_next, .ref a_mod_ones, .ref a_mod_distance, .ref a_mod_apart, .ref a_mod_leads]))]) [0] rfl
      have hDc := hD.sub (ws' := [(h_mod, .inr (5, [.int mod_code, .int mod_gates, .int mod_feeds, .int mod_inputs, .int mod_latches, .int mod_outputs, .ref a_mod_sort, .ref a_mod_number, .ref a_mod_value, .ref a_mod_made, .ref a_mod_to, .ref a_mod_from, .ref a_mod_outputOf, .ref a_mod_negated, .int mod_explored, .ref a_mod_settles, .ref a_mod_next, .ref a_mod_ones, .ref a_mod_distance, .ref a_mod_apart, .ref a_mod_leads]))]) [0] (by decide) rfl
      have hFc := va_free (wc := [(h_mod, .inr (5, [.int mod_code, .int mod_gates, .int mod_feeds, .int mod_inputs, .int mod_latches, .int mod_outputs, .ref a_mod_sort, .ref a_mod_number, .ref a_mod_value, .ref a_mod_made, .ref a_mod_to, .ref a_mod_from, .ref a_mod_outputOf, .ref a_mod_negated, .int mod_explored, .ref a_mod_settles, .ref a_mod_next, .ref a_mod_ones, .ref a_mod_distance, .ref a_mod_apart, .ref a_mod_leads]))]) hD hS hA [0] rfl
      refine va_calli (va_runV (As := [.int z1J4, .int z0J4]) (rest := []) ⟨hx, hb, hml, hown, hts⟩ (k_Mod_fails l dC dI cI cL cZ t1 t2 h_mod a_mod_sort a_mod_number a_mod_value a_mod_made a_mod_to a_mod_from a_mod_outputOf a_mod_negated a_mod_settles a_mod_next a_mod_ones a_mod_distance a_mod_apart a_mod_leads mod_code mod_gates mod_feeds mod_inputs mod_latches mod_outputs mod_explored _ z1J4 z0J4 v5 hv5) (cwV 2 hts (sx_gV tw_680 tw_682 tw_19 tw_41 tcMod_fails) rfl rfl rfl (by decide +kernel) ⟨Nat.le_of_ble_eq_true rfl, Nat.le_of_ble_eq_true rfl⟩) (sx_pV hK hX hS hPc hDc hFc (va_recv hK hPc (ci := 5) (q0 := 0) rfl rfl)) rfl rfl hl.1 rfl (lv_room (Nat.le_of_ble_eq_true rfl)) dMod_isSame_34 ⟨Nat.le_of_ble_eq_true rfl, Nat.le_of_ble_eq_true rfl⟩) hS (fun q _ h => hFc q h) hFc (fun r6 u_ t_ H locs ht hvm hw hB hz1 hk1 hS => ?_)
      obtain ⟨hP1, -, hD1⟩ := hB
      rw [ht] at hP1
      obtain ⟨hP, hD⟩ := va_join (wr := [(a_mod_settles, .inl (cZ, 4096, .inl mod_settles)), (a_mod_ones, .inl (cL, 4096, .inr (.inl mod_ones))), (a_mod_distance, .inl (cI, 256, .inl mod_distance))]) (w1 := [(h_mod, .inr (5, [.int v5.2, .int mod_gates, .int mod_feeds, .int mod_inputs, .int mod_latches, .int mod_outputs, .ref a_mod_sort, .ref a_mod_number, .ref a_mod_value, .ref a_mod_made, .ref a_mod_to, .ref a_mod_from, .ref a_mod_outputOf, .ref a_mod_negated, .int mod_explored, .ref a_mod_settles, .ref a_mod_next, .ref a_mod_ones, .ref a_mod_distance, .ref a_mod_apart, .ref a_mod_leads]))]) hP hD [0] [1, 2, 3] rfl rfl (by decide) (by decide) hk1 hFc hP1 hD1
      have hP : va_P (dC, dI) vwCl [(a_mod_settles, .inl (cZ, 4096, .inl mod_settles)), (a_mod_ones, .inl (cL, 4096, .inr (.inl mod_ones))), (a_mod_distance, .inl (cI, 256, .inl mod_distance)), (h_mod, .inr (5, [.int v5.2, .int mod_gates, .int mod_feeds, .int mod_inputs, .int mod_latches, .int mod_outputs, .ref a_mod_sort, .ref a_mod_number, .ref a_mod_value, .ref a_mod_made, .ref a_mod_to, .ref a_mod_from, .ref a_mod_outputOf, .ref a_mod_negated, .int mod_explored, .ref a_mod_settles, .ref a_mod_next, .ref a_mod_ones, .ref a_mod_distance, .ref a_mod_apart, .ref a_mod_leads]))] H := hP
      have hD : va_D A [(a_mod_settles, .inl (cZ, 4096, .inl mod_settles)), (a_mod_ones, .inl (cL, 4096, .inr (.inl mod_ones))), (a_mod_distance, .inl (cI, 256, .inl mod_distance)), (h_mod, .inr (5, [.int v5.2, .int mod_gates, .int mod_feeds, .int mod_inputs, .int mod_latches, .int mod_outputs, .ref a_mod_sort, .ref a_mod_number, .ref a_mod_value, .ref a_mod_made, .ref a_mod_to, .ref a_mod_from, .ref a_mod_outputOf, .ref a_mod_negated, .int mod_explored, .ref a_mod_settles, .ref a_mod_next, .ref a_mod_ones, .ref a_mod_distance, .ref a_mod_apart, .ref a_mod_leads]))] := hD
      have hw9 := hw.symm
      subst hw9
      refine lv_if_eq (tgt := 42) hx hb dMod_isSame_37 (by decide) (fun c7 => ?_) (fun c7 => ?_)
      · have hm := sx_pos c7 hm
        refine lv_lconst (v := (1 : Int64)) hx hb dMod_isSame_42 (by decide) ?_
        refine lv_iload_n hx hb dMod_isSame_43 rfl (lv_at hl 1 rfl) ?_
        refine lv_lshl hx hb dMod_isSame_44 rfl ?_
        refine lv_lconst (v := (1 : Int64)) hx hb dMod_isSame_45 (by decide) ?_
        refine lv_iload_n hx hb dMod_isSame_46 rfl (lv_at hl 2 rfl) ?_
        refine lv_lshl hx hb dMod_isSame_47 rfl ?_
        refine lv_lor hx hb dMod_isSame_48 ?_
        refine lv_lstore_n (lv' := [(3, .long (((1 : Int64) <<< (p0.toInt64 &&& 63)) ||| ((1 : Int64) <<< (p1.toInt64 &&& 63)))), (0, .ref h_mod), (1, .int p0), (2, .int p1)]) hx hb dMod_isSame_49 rfl hl (by decide) rfl (fun ls hl => ?_)
        refine lv_aload_n hx hb dMod_isSame_50 rfl (lv_at hl 1 rfl) ?_
        refine lv_lload_n hx hb dMod_isSame_51 rfl (lv_at hl 0 rfl) ?_
        refine lv_iconst (v := (1 : Int32)) hx hb dMod_isSame_52 (by decide) ?_
        obtain ⟨v8, hv8, hm⟩ := sx_bind hm
        have hPc := hP.sub (ws' := [(h_mod, .inr (5, [.int v5.2, .int mod_gates, .int mod_feeds, .int mod_inputs, .int mod_latches, .int mod_outputs, .ref a_mod_sort, .ref a_mod_number, .ref a_mod_value, .ref a_mod_made, .ref a_mod_to, .ref a_mod_from, .ref a_mod_outputOf, .ref a_mod_negated, .int mod_explored, .ref a_mod_settles, .ref a_mod_next, .ref a_mod_ones, .ref a_mod_distance, .ref a_mod_apart, .ref a_mod_leads])), (a_mod_settles, .inl (cZ, 4096, .inl mod_settles)), (a_mod_ones, .inl (cL, 4096, .inr (.inl mod_ones))), (a_mod_distance, .inl (cI, 256, .inl mod_distance))]) [3, 0, 1, 2] rfl
        have hDc := hD.sub (ws' := [(h_mod, .inr (5, [.int v5.2, .int mod_gates, .int mod_feeds, .int mod_inputs, .int mod_latches, .int mod_outputs, .ref a_mod_sort, .ref a_mod_number, .ref a_mod_value, .ref a_mod_made, .ref a_mod_to, .ref a_mod_from, .ref a_mod_outputOf, .ref a_mod_negated, .int mod_explored, .ref a_mod_settles, .ref a_mod_next, .ref a_mod_ones, .ref a_mod_distance, .ref a_mod_apart, .ref a_mod_leads])), (a_mod_settles, .inl (cZ, 4096, .inl mod_settles)), (a_mod_ones, .inl (cL, 4096, .inr (.inl mod_ones))), (a_mod_distance, .inl (cI, 256, .inl mod_distance))]) [3, 0, 1, 2] (by decide) rfl
        have hFc := va_free (wc := [(h_mod, .inr (5, [.int v5.2, .int mod_gates, .int mod_feeds, .int mod_inputs, .int mod_latches, .int mod_outputs, .ref a_mod_sort, .ref a_mod_number, .ref a_mod_value, .ref a_mod_made, .ref a_mod_to, .ref a_mod_from, .ref a_mod_outputOf, .ref a_mod_negated, .int mod_explored, .ref a_mod_settles, .ref a_mod_next, .ref a_mod_ones, .ref a_mod_distance, .ref a_mod_apart, .ref a_mod_leads])), (a_mod_settles, .inl (cZ, 4096, .inl mod_settles)), (a_mod_ones, .inl (cL, 4096, .inr (.inl mod_ones))), (a_mod_distance, .inl (cI, 256, .inl mod_distance))]) hD hS hA [3, 0, 1, 2] rfl
        refine sx_stI (va_runV (As := [.long (((1 : Int64) <<< (p0.toInt64 &&& 63)) ||| ((1 : Int64) <<< (p1.toInt64 &&& 63))), .int (1 : Int32)]) (rest := []) ⟨hx, hb, hml, hown, hts⟩ (k_Mod_held l dC dI cI cL cZ t1 t2 h_mod a_mod_sort a_mod_number a_mod_value a_mod_made a_mod_to a_mod_from a_mod_outputOf a_mod_negated a_mod_settles a_mod_next a_mod_ones a_mod_distance a_mod_apart a_mod_leads v5.2 mod_gates mod_feeds mod_inputs mod_latches mod_outputs mod_explored mod_settles mod_ones mod_distance _ (((1 : Int64) <<< (p0.toInt64 &&& 63)) ||| ((1 : Int64) <<< (p1.toInt64 &&& 63))) (1 : Int32) v8 hv8) (cwV 2 hts (sx_gV tw_776 tw_778 tw_33 tw_41 tcMod_held) rfl rfl rfl (by decide +kernel) ⟨Nat.le_of_ble_eq_true rfl, Nat.le_of_ble_eq_true rfl⟩) (sx_pV hK hX hS hPc hDc hFc (va_recv hK hPc (ci := 5) (q0 := 0) rfl rfl)) rfl rfl hl.1 rfl (lv_room (Nat.le_of_ble_eq_true rfl)) dMod_isSame_53 ⟨Nat.le_of_ble_eq_true rfl, Nat.le_of_ble_eq_true rfl⟩) ?_
        refine lv_aload_n hx hb dMod_isSame_56 rfl (lv_at hl 1 rfl) ?_
        refine lv_lload_n hx hb dMod_isSame_57 rfl (lv_at hl 0 rfl) ?_
        refine lv_iconst (v := (0 : Int32)) hx hb dMod_isSame_58 (by decide) ?_
        obtain ⟨v10, hv10, hm⟩ := sx_bind hm
        have hPc := hP.sub (ws' := [(h_mod, .inr (5, [.int v5.2, .int mod_gates, .int mod_feeds, .int mod_inputs, .int mod_latches, .int mod_outputs, .ref a_mod_sort, .ref a_mod_number, .ref a_mod_value, .ref a_mod_made, .ref a_mod_to, .ref a_mod_from, .ref a_mod_outputOf, .ref a_mod_negated, .int mod_explored, .ref a_mod_settles, .ref a_mod_next, .ref a_mod_ones, .ref a_mod_distance, .ref a_mod_apart, .ref a_mod_leads])), (a_mod_settles, .inl (cZ, 4096, .inl mod_settles)), (a_mod_ones, .inl (cL, 4096, .inr (.inl mod_ones))), (a_mod_distance, .inl (cI, 256, .inl mod_distance))]) [3, 0, 1, 2] rfl
        have hDc := hD.sub (ws' := [(h_mod, .inr (5, [.int v5.2, .int mod_gates, .int mod_feeds, .int mod_inputs, .int mod_latches, .int mod_outputs, .ref a_mod_sort, .ref a_mod_number, .ref a_mod_value, .ref a_mod_made, .ref a_mod_to, .ref a_mod_from, .ref a_mod_outputOf, .ref a_mod_negated, .int mod_explored, .ref a_mod_settles, .ref a_mod_next, .ref a_mod_ones, .ref a_mod_distance, .ref a_mod_apart, .ref a_mod_leads])), (a_mod_settles, .inl (cZ, 4096, .inl mod_settles)), (a_mod_ones, .inl (cL, 4096, .inr (.inl mod_ones))), (a_mod_distance, .inl (cI, 256, .inl mod_distance))]) [3, 0, 1, 2] (by decide) rfl
        have hFc := va_free (wc := [(h_mod, .inr (5, [.int v5.2, .int mod_gates, .int mod_feeds, .int mod_inputs, .int mod_latches, .int mod_outputs, .ref a_mod_sort, .ref a_mod_number, .ref a_mod_value, .ref a_mod_made, .ref a_mod_to, .ref a_mod_from, .ref a_mod_outputOf, .ref a_mod_negated, .int mod_explored, .ref a_mod_settles, .ref a_mod_next, .ref a_mod_ones, .ref a_mod_distance, .ref a_mod_apart, .ref a_mod_leads])), (a_mod_settles, .inl (cZ, 4096, .inl mod_settles)), (a_mod_ones, .inl (cL, 4096, .inr (.inl mod_ones))), (a_mod_distance, .inl (cI, 256, .inl mod_distance))]) hD hS hA [3, 0, 1, 2] rfl
        refine sx_stI (va_runV (As := [.long (((1 : Int64) <<< (p0.toInt64 &&& 63)) ||| ((1 : Int64) <<< (p1.toInt64 &&& 63))), .int (0 : Int32)]) (rest := [.int v8]) ⟨hx, hb, hml, hown, hts⟩ (k_Mod_held l dC dI cI cL cZ t1 t2 h_mod a_mod_sort a_mod_number a_mod_value a_mod_made a_mod_to a_mod_from a_mod_outputOf a_mod_negated a_mod_settles a_mod_next a_mod_ones a_mod_distance a_mod_apart a_mod_leads v5.2 mod_gates mod_feeds mod_inputs mod_latches mod_outputs mod_explored mod_settles mod_ones mod_distance _ (((1 : Int64) <<< (p0.toInt64 &&& 63)) ||| ((1 : Int64) <<< (p1.toInt64 &&& 63))) (0 : Int32) v10 hv10) (cwV 2 hts (sx_gV tw_776 tw_778 tw_33 tw_41 tcMod_held) rfl rfl rfl (by decide +kernel) ⟨Nat.le_of_ble_eq_true rfl, Nat.le_of_ble_eq_true rfl⟩) (sx_pV hK hX hS hPc hDc hFc (va_recv hK hPc (ci := 5) (q0 := 0) rfl rfl)) rfl rfl hl.1 rfl (lv_room (Nat.le_of_ble_eq_true rfl)) dMod_isSame_59 ⟨Nat.le_of_ble_eq_true rfl, Nat.le_of_ble_eq_true rfl⟩) ?_
        refine lv_iadd hx hb dMod_isSame_62 ?_
        refine lv_aload_n hx hb dMod_isSame_63 rfl (lv_at hl 1 rfl) ?_
        refine lv_lconst (v := (0 : Int64)) hx hb dMod_isSame_64 (by decide) ?_
        refine lv_iconst (v := (1 : Int32)) hx hb dMod_isSame_65 (by decide) ?_
        obtain ⟨v12, hv12, hm⟩ := sx_bind hm
        have hPc := hP.sub (ws' := [(h_mod, .inr (5, [.int v5.2, .int mod_gates, .int mod_feeds, .int mod_inputs, .int mod_latches, .int mod_outputs, .ref a_mod_sort, .ref a_mod_number, .ref a_mod_value, .ref a_mod_made, .ref a_mod_to, .ref a_mod_from, .ref a_mod_outputOf, .ref a_mod_negated, .int mod_explored, .ref a_mod_settles, .ref a_mod_next, .ref a_mod_ones, .ref a_mod_distance, .ref a_mod_apart, .ref a_mod_leads])), (a_mod_settles, .inl (cZ, 4096, .inl mod_settles)), (a_mod_ones, .inl (cL, 4096, .inr (.inl mod_ones))), (a_mod_distance, .inl (cI, 256, .inl mod_distance))]) [3, 0, 1, 2] rfl
        have hDc := hD.sub (ws' := [(h_mod, .inr (5, [.int v5.2, .int mod_gates, .int mod_feeds, .int mod_inputs, .int mod_latches, .int mod_outputs, .ref a_mod_sort, .ref a_mod_number, .ref a_mod_value, .ref a_mod_made, .ref a_mod_to, .ref a_mod_from, .ref a_mod_outputOf, .ref a_mod_negated, .int mod_explored, .ref a_mod_settles, .ref a_mod_next, .ref a_mod_ones, .ref a_mod_distance, .ref a_mod_apart, .ref a_mod_leads])), (a_mod_settles, .inl (cZ, 4096, .inl mod_settles)), (a_mod_ones, .inl (cL, 4096, .inr (.inl mod_ones))), (a_mod_distance, .inl (cI, 256, .inl mod_distance))]) [3, 0, 1, 2] (by decide) rfl
        have hFc := va_free (wc := [(h_mod, .inr (5, [.int v5.2, .int mod_gates, .int mod_feeds, .int mod_inputs, .int mod_latches, .int mod_outputs, .ref a_mod_sort, .ref a_mod_number, .ref a_mod_value, .ref a_mod_made, .ref a_mod_to, .ref a_mod_from, .ref a_mod_outputOf, .ref a_mod_negated, .int mod_explored, .ref a_mod_settles, .ref a_mod_next, .ref a_mod_ones, .ref a_mod_distance, .ref a_mod_apart, .ref a_mod_leads])), (a_mod_settles, .inl (cZ, 4096, .inl mod_settles)), (a_mod_ones, .inl (cL, 4096, .inr (.inl mod_ones))), (a_mod_distance, .inl (cI, 256, .inl mod_distance))]) hD hS hA [3, 0, 1, 2] rfl
        refine sx_stI (va_runV (As := [.long (0 : Int64), .int (1 : Int32)]) (rest := [.int (v8 + v10)]) ⟨hx, hb, hml, hown, hts⟩ (k_Mod_held l dC dI cI cL cZ t1 t2 h_mod a_mod_sort a_mod_number a_mod_value a_mod_made a_mod_to a_mod_from a_mod_outputOf a_mod_negated a_mod_settles a_mod_next a_mod_ones a_mod_distance a_mod_apart a_mod_leads v5.2 mod_gates mod_feeds mod_inputs mod_latches mod_outputs mod_explored mod_settles mod_ones mod_distance _ (0 : Int64) (1 : Int32) v12 hv12) (cwV 2 hts (sx_gV tw_776 tw_778 tw_33 tw_41 tcMod_held) rfl rfl rfl (by decide +kernel) ⟨Nat.le_of_ble_eq_true rfl, Nat.le_of_ble_eq_true rfl⟩) (sx_pV hK hX hS hPc hDc hFc (va_recv hK hPc (ci := 5) (q0 := 0) rfl rfl)) rfl rfl hl.1 rfl (lv_room (Nat.le_of_ble_eq_true rfl)) dMod_isSame_66 ⟨Nat.le_of_ble_eq_true rfl, Nat.le_of_ble_eq_true rfl⟩) ?_
        refine lv_icmp_ne (tgt := 76) hx hb dMod_isSame_69 (by decide) (fun c14 => ?_) (fun c14 => ?_)
        · have hm := sx_neg c14 hm
          refine lv_iconst (v := (0 : Int32)) hx hb dMod_isSame_76 (by decide) ?_
          obtain rfl := Option.some.inj hm
          exact W.zret (v := (0 : Int32)) hx hb hr sx_z0 (fun t ht hW => ⟨⟨(0 : Int32), (), rfl, rfl, sx_Wi (hP.sub (ws' := [(h_mod, .inr (5, [.int v5.2, .int mod_gates, .int mod_feeds, .int mod_inputs, .int mod_latches, .int mod_outputs, .ref a_mod_sort, .ref a_mod_number, .ref a_mod_value, .ref a_mod_made, .ref a_mod_to, .ref a_mod_from, .ref a_mod_outputOf, .ref a_mod_negated, .int mod_explored, .ref a_mod_settles, .ref a_mod_next, .ref a_mod_ones, .ref a_mod_distance, .ref a_mod_apart, .ref a_mod_leads])), (a_mod_settles, .inl (cZ, 4096, .inl mod_settles)), (a_mod_ones, .inl (cL, 4096, .inr (.inl mod_ones))), (a_mod_distance, .inl (cI, 256, .inl mod_distance))]) [3, 0, 1, 2] rfl) hK (hD.sub (ws' := [(h_mod, .inr (5, [.int v5.2, .int mod_gates, .int mod_feeds, .int mod_inputs, .int mod_latches, .int mod_outputs, .ref a_mod_sort, .ref a_mod_number, .ref a_mod_value, .ref a_mod_made, .ref a_mod_to, .ref a_mod_from, .ref a_mod_outputOf, .ref a_mod_negated, .int mod_explored, .ref a_mod_settles, .ref a_mod_next, .ref a_mod_ones, .ref a_mod_distance, .ref a_mod_apart, .ref a_mod_leads])), (a_mod_settles, .inl (cZ, 4096, .inl mod_settles)), (a_mod_ones, .inl (cL, 4096, .inr (.inl mod_ones))), (a_mod_distance, .inl (cI, 256, .inl mod_distance))]) [3, 0, 1, 2] (by decide) rfl) ht hW.alike⟩, hS.F ht⟩) hS.2.2 dMod_isSame_77
        · have hm := sx_pos c14 hm
          refine lv_iconst (v := (1 : Int32)) hx hb dMod_isSame_72 (by decide) ?_
          refine lv_goto (tgt := 77) hx hb dMod_isSame_73 (by decide) ?_
          obtain rfl := Option.some.inj hm
          exact W.zret (v := (1 : Int32)) hx hb hr sx_z1 (fun t ht hW => ⟨⟨(1 : Int32), (), rfl, rfl, sx_Wi (hP.sub (ws' := [(h_mod, .inr (5, [.int v5.2, .int mod_gates, .int mod_feeds, .int mod_inputs, .int mod_latches, .int mod_outputs, .ref a_mod_sort, .ref a_mod_number, .ref a_mod_value, .ref a_mod_made, .ref a_mod_to, .ref a_mod_from, .ref a_mod_outputOf, .ref a_mod_negated, .int mod_explored, .ref a_mod_settles, .ref a_mod_next, .ref a_mod_ones, .ref a_mod_distance, .ref a_mod_apart, .ref a_mod_leads])), (a_mod_settles, .inl (cZ, 4096, .inl mod_settles)), (a_mod_ones, .inl (cL, 4096, .inr (.inl mod_ones))), (a_mod_distance, .inl (cI, 256, .inl mod_distance))]) [3, 0, 1, 2] rfl) hK (hD.sub (ws' := [(h_mod, .inr (5, [.int v5.2, .int mod_gates, .int mod_feeds, .int mod_inputs, .int mod_latches, .int mod_outputs, .ref a_mod_sort, .ref a_mod_number, .ref a_mod_value, .ref a_mod_made, .ref a_mod_to, .ref a_mod_from, .ref a_mod_outputOf, .ref a_mod_negated, .int mod_explored, .ref a_mod_settles, .ref a_mod_next, .ref a_mod_ones, .ref a_mod_distance, .ref a_mod_apart, .ref a_mod_leads])), (a_mod_settles, .inl (cZ, 4096, .inl mod_settles)), (a_mod_ones, .inl (cL, 4096, .inr (.inl mod_ones))), (a_mod_distance, .inl (cI, 256, .inl mod_distance))]) [3, 0, 1, 2] (by decide) rfl) ht hW.alike⟩, hS.F ht⟩) hS.2.2 dMod_isSame_77
      · have hm := sx_neg c7 hm
        refine lv_iconst (v := (0 : Int32)) hx hb dMod_isSame_40 (by decide) ?_
        obtain rfl := Option.some.inj hm
        exact W.zret (v := (0 : Int32)) hx hb hr sx_z0 (fun t ht hW => ⟨⟨(0 : Int32), (), rfl, rfl, sx_Wi (hP.sub (ws' := [(h_mod, .inr (5, [.int v5.2, .int mod_gates, .int mod_feeds, .int mod_inputs, .int mod_latches, .int mod_outputs, .ref a_mod_sort, .ref a_mod_number, .ref a_mod_value, .ref a_mod_made, .ref a_mod_to, .ref a_mod_from, .ref a_mod_outputOf, .ref a_mod_negated, .int mod_explored, .ref a_mod_settles, .ref a_mod_next, .ref a_mod_ones, .ref a_mod_distance, .ref a_mod_apart, .ref a_mod_leads])), (a_mod_settles, .inl (cZ, 4096, .inl mod_settles)), (a_mod_ones, .inl (cL, 4096, .inr (.inl mod_ones))), (a_mod_distance, .inl (cI, 256, .inl mod_distance))]) [3, 0, 1, 2] rfl) hK (hD.sub (ws' := [(h_mod, .inr (5, [.int v5.2, .int mod_gates, .int mod_feeds, .int mod_inputs, .int mod_latches, .int mod_outputs, .ref a_mod_sort, .ref a_mod_number, .ref a_mod_value, .ref a_mod_made, .ref a_mod_to, .ref a_mod_from, .ref a_mod_outputOf, .ref a_mod_negated, .int mod_explored, .ref a_mod_settles, .ref a_mod_next, .ref a_mod_ones, .ref a_mod_distance, .ref a_mod_apart, .ref a_mod_leads])), (a_mod_settles, .inl (cZ, 4096, .inl mod_settles)), (a_mod_ones, .inl (cL, 4096, .inr (.inl mod_ones))), (a_mod_distance, .inl (cI, 256, .inl mod_distance))]) [3, 0, 1, 2] (by decide) rfl) ht hW.alike⟩, hS.F ht⟩) hS.2.2 dMod_isSame_41
    obtain ⟨J15, hJ15, hm⟩ := sx_lj hm
    have jJ15 : ∀ (z0J15 : Int32), J15 z0J15 = some v → ∀ (ls : Array Slot), lv_has ls 5 [(0, .ref h_mod), (1, .int p0), (2, .int p1)] → W p l e (headSpec wsMod_isSame rm_Mod_isSame).room s m ([.ref h_mod, .int p0, .int p1]).toArray below meth c s.heap [] 0 0 (MQ below (va_Qi (fun (r : Int32) (_ : Unit) => r = v.1) (fun _ t => sx_W (dC, dI) [(cI, .int), (cL, .long), (cZ, .boolean)] A [(h_mod, .inr (5, [.int v.2, .int mod_gates, .int mod_feeds, .int mod_inputs, .int mod_latches, .int mod_outputs, .ref a_mod_sort, .ref a_mod_number, .ref a_mod_value, .ref a_mod_made, .ref a_mod_to, .ref a_mod_from, .ref a_mod_outputOf, .ref a_mod_negated, .int mod_explored, .ref a_mod_settles, .ref a_mod_next, .ref a_mod_ones, .ref a_mod_distance, .ref a_mod_apart, .ref a_mod_leads])), (a_mod_settles, .inl (cZ, 4096, .inl mod_settles)), (a_mod_ones, .inl (cL, 4096, .inr (.inl mod_ones))), (a_mod_distance, .inl (cI, 256, .inl mod_distance))] t) A) ([.ref h_mod, .int p0, .int p1]).toArray s 0 0 A) (F0 m 29 ls [.int z0J15, .ref h_mod]) := by
      intro z0J15 hm ls hl
      rw [hJ15] at hm
      dsimp only at hm
      refine lv_iconst (v := (1 : Int32)) hx hb dMod_isSame_29 (by decide) ?_
      refine lv_goto (tgt := 34) hx hb dMod_isSame_30 (by decide) ?_
      exact jJ4 (1 : Int32) z0J15 hm _ (hl)
    refine lv_if_eq (tgt := 29) hx hb dMod_isSame_18 (by decide) (fun c16 => ?_) (fun c16 => ?_)
    · have hm := sx_pos c16 hm
      exact jJ15 z0J1 hm _ (hl)
    · have hm := sx_neg c16 hm
      refine lv_aload_n hx hb dMod_isSame_21 rfl (lv_at hl 0 rfl) ?_
      refine lv_iload_n hx hb dMod_isSame_22 rfl (lv_at hl 2 rfl) ?_
      obtain ⟨v17, hv17, hm⟩ := sx_bind hm
      have hPc := hP.sub (ws' := [(h_mod, .inr (5, [.int mod_code, .int mod_gates, .int mod_feeds, .int mod_inputs, .int mod_latches, .int mod_outputs, .ref a_mod_sort, .ref a_mod_number, .ref a_mod_value, .ref a_mod_made, .ref a_mod_to, .ref a_mod_from, .ref a_mod_outputOf, .ref a_mod_negated, .int mod_explored, .ref a_mod_settles, .ref a_mod_next, .ref a_mod_ones, .ref a_mod_distance, .ref a_mod_apart, .ref a_mod_leads]))]) [0] rfl
      have hDc := hD.sub (ws' := [(h_mod, .inr (5, [.int mod_code, .int mod_gates, .int mod_feeds, .int mod_inputs, .int mod_latches, .int mod_outputs, .ref a_mod_sort, .ref a_mod_number, .ref a_mod_value, .ref a_mod_made, .ref a_mod_to, .ref a_mod_from, .ref a_mod_outputOf, .ref a_mod_negated, .int mod_explored, .ref a_mod_settles, .ref a_mod_next, .ref a_mod_ones, .ref a_mod_distance, .ref a_mod_apart, .ref a_mod_leads]))]) [0] (by decide) rfl
      have hFc := va_free (wc := [(h_mod, .inr (5, [.int mod_code, .int mod_gates, .int mod_feeds, .int mod_inputs, .int mod_latches, .int mod_outputs, .ref a_mod_sort, .ref a_mod_number, .ref a_mod_value, .ref a_mod_made, .ref a_mod_to, .ref a_mod_from, .ref a_mod_outputOf, .ref a_mod_negated, .int mod_explored, .ref a_mod_settles, .ref a_mod_next, .ref a_mod_ones, .ref a_mod_distance, .ref a_mod_apart, .ref a_mod_leads]))]) hD hS hA [0] rfl
      refine sx_stI (va_runV (As := [.int p1]) (rest := [.int z0J1, .ref h_mod]) ⟨hx, hb, hml, hown, hts⟩ (k_Mod_isGate l dC dI cI cL cZ t1 t2 h_mod a_mod_sort a_mod_number a_mod_value a_mod_made a_mod_to a_mod_from a_mod_outputOf a_mod_negated a_mod_settles a_mod_next a_mod_ones a_mod_distance a_mod_apart a_mod_leads mod_code mod_gates mod_feeds mod_inputs mod_latches mod_outputs mod_explored _ p1 v17 hv17) (cwV 1 hts (sx_gV tw_688 tw_690 tw_20 tw_41 tcMod_isGate) rfl rfl rfl (by decide +kernel) ⟨Nat.le_of_ble_eq_true rfl, Nat.le_of_ble_eq_true rfl⟩) (sx_pV hK hX hS hPc hDc hFc (va_recv hK hPc (ci := 5) (q0 := 0) rfl rfl)) rfl rfl hl.1 rfl (lv_room (Nat.le_of_ble_eq_true rfl)) dMod_isSame_23 ⟨Nat.le_of_ble_eq_true rfl, Nat.le_of_ble_eq_true rfl⟩) ?_
      refine lv_if_ne (tgt := 33) hx hb dMod_isSame_26 (by decide) (fun c19 => ?_) (fun c19 => ?_)
      · have hm := sx_neg c19 hm
        refine lv_iconst (v := (0 : Int32)) hx hb dMod_isSame_33 (by decide) ?_
        exact jJ4 (0 : Int32) z0J1 hm _ (hl)
      · have hm := sx_pos c19 hm
        exact jJ15 z0J1 hm _ (hl)
  refine lv_if_ne (tgt := 12) hx hb dMod_isSame_5 (by decide) (fun c20 => ?_) (fun c20 => ?_)
  · have hm := sx_neg c20 hm
    refine lv_iconst (v := (0 : Int32)) hx hb dMod_isSame_12 (by decide) ?_
    exact jJ1 (0 : Int32) hm _ (hl)
  · have hm := sx_pos c20 hm
    refine lv_iconst (v := (1 : Int32)) hx hb dMod_isSame_8 (by decide) ?_
    refine lv_goto (tgt := 13) hx hb dMod_isSame_9 (by decide) ?_
    exact jJ1 (1 : Int32) hm _ (hl)
noncomputable def L_Mod_least_2 (mod_distance mod_apart : Nat → Int32) (x1 : Int32) : Nat → Int32 → Option (Int32)
  | 0, _ => none
  | n + 1, x2 => gd (vp_in x2 256) ((if mod_distance x2.toNatClampNeg < (0 : Int32) then (L_Mod_least_2 mod_distance mod_apart x1 n (x2 + (1 : Int32))) else gd (vp_in (((256 : Int32) * x1) + x2) 65536) ((if mod_apart (((256 : Int32) * x1) + x2).toNatClampNeg = (0 : Int32) then some x2 else (L_Mod_least_2 mod_distance mod_apart x1 n (x2 + (1 : Int32)))))))
noncomputable def m_Mod_least (mod_distance mod_apart : Nat → Int32) (p0 : Int32) : Option (Int32) := ((L_Mod_least_2 mod_distance mod_apart p0 fu (0 : Int32)).bind (fun v5 => some v5))
def rm_Mod_least : Room := { frames := 0, cells := 0, slots := 0, locals := 0 }
set_option maxHeartbeats 4000000 in
set_option maxRecDepth 100000 in
theorem w_Mod_least_2 {p : Program} {l : Launch} {e : Env} {s : State} {m : MethodId} {args : Array Value} {below : List Frame} {meth : Method} {c : Code} {dC : Nat → ClassId} {dI : Nat → Nat → Nat} {cI cL cZ : ClassId} {A : Nat → Prop} {Q : State → Prop} {t1 t2 : Nat} (C0 : sx_C p s m args meth c cMod_least 3 "StateExplorerModel" A (dC, dI) [(cI, .int), (cL, .long), (cZ, .boolean)] t1 t2) (h_mod a_mod_sort a_mod_number a_mod_value a_mod_made a_mod_to a_mod_from a_mod_outputOf a_mod_negated a_mod_settles a_mod_next a_mod_ones a_mod_distance a_mod_apart a_mod_leads : Nat) (mod_code mod_gates mod_feeds mod_inputs mod_latches mod_outputs mod_explored : Int32) (mod_distance mod_apart : Nat → Int32) (x1 : Int32) {H : Heap} {locs : List Loc} (hP : va_P (dC, dI) vwCl [(h_mod, .inr (5, [.int mod_code, .int mod_gates, .int mod_feeds, .int mod_inputs, .int mod_latches, .int mod_outputs, .ref a_mod_sort, .ref a_mod_number, .ref a_mod_value, .ref a_mod_made, .ref a_mod_to, .ref a_mod_from, .ref a_mod_outputOf, .ref a_mod_negated, .int mod_explored, .ref a_mod_settles, .ref a_mod_next, .ref a_mod_ones, .ref a_mod_distance, .ref a_mod_apart, .ref a_mod_leads])), (a_mod_distance, .inl (cI, 256, .inl mod_distance)), (a_mod_apart, .inl (cZ, 65536, .inl mod_apart))] H) (hD : va_D A [(h_mod, .inr (5, [.int mod_code, .int mod_gates, .int mod_feeds, .int mod_inputs, .int mod_latches, .int mod_outputs, .ref a_mod_sort, .ref a_mod_number, .ref a_mod_value, .ref a_mod_made, .ref a_mod_to, .ref a_mod_from, .ref a_mod_outputOf, .ref a_mod_negated, .int mod_explored, .ref a_mod_settles, .ref a_mod_next, .ref a_mod_ones, .ref a_mod_distance, .ref a_mod_apart, .ref a_mod_leads])), (a_mod_distance, .inl (cI, 256, .inl mod_distance)), (a_mod_apart, .inl (cZ, 65536, .inl mod_apart))]) (hS : va_S A s.heap H locs) :
    ∀ (n : Nat) (x2 : Int32)  (r : Int32), L_Mod_least_2 mod_distance mod_apart x1 n x2 = some r → ∀ (ls : Array Slot), lv_has ls 3 [(0, .ref h_mod), (1, .int x1), (2, .int x2)] →
    (∀ (ls : Array Slot), lv_has ls 3 [(2, .int r)] → W p l e (headSpec wsMod_least rm_Mod_least).room s m args below meth c H locs 0 0 Q (F0 m 32 ls [])) →
    W p l e (headSpec wsMod_least rm_Mod_least).room s m args below meth c H locs 0 0 Q (F0 m 2 ls []) := by
  obtain ⟨hx, hb, hml, hown, hts, hA, hK, hlocks, hX⟩ := id C0
  intro n
  induction n with
  | zero => intro x2 r hm; rw [L_Mod_least_2] at hm; cases hm
  | succ n ih =>
    intro x2 r hm ls hl k1
    rw [L_Mod_least_2] at hm
    refine lv_aload_n hx hb dMod_least_2 rfl (lv_at hl 0 rfl) ?_
    refine va_get (D := (dC, dI)) (ci := 5) (v := .ref a_mod_distance) (C := RMod) (T := TMod) (N := 21) hx hb hts inMod hown hK hP 0 rfl rfl 18 (by decide) (hts _ tw_629) (fun _ h9 => h9) rfl dMod_least_3 ?_
    refine lv_iload_n hx hb dMod_least_6 rfl (lv_at hl 2 rfl) ?_
    obtain ⟨g1, hm⟩ := gd_el hm
    refine va_iald hx hb hK hP 1 0 rfl rfl g1 dMod_least_7 ?_
    refine lv_if_lt (tgt := 26) hx hb dMod_least_8 (by decide) (fun c2 => ?_) (fun c2 => ?_)
    · have hm := sx_pos c2 hm
      refine lv_iinc (v := x2 + (1 : Int32)) (lv' := [(2, .int (x2 + (1 : Int32))), (0, .ref h_mod), (1, .int x1)]) hx hb dMod_least_26 hl (k := 2) rfl rfl (by decide) rfl (fun ls hl => ?_)
      refine lv_goto (tgt := 2) hx hb dMod_least_29 (by decide) ?_
      exact ih (x2 + (1 : Int32)) r hm _ (lv_sub hl [1, 2, 0] rfl) k1
    · have hm := sx_neg c2 hm
      refine lv_aload_n hx hb dMod_least_11 rfl (lv_at hl 0 rfl) ?_
      refine va_get (D := (dC, dI)) (ci := 5) (v := .ref a_mod_apart) (C := RMod) (T := TMod) (N := 21) hx hb hts inMod hown hK hP 0 rfl rfl 19 (by decide) (hts _ tw_630) (fun _ h9 => h9) rfl dMod_least_12 ?_
      refine lv_sipush (v := (256 : Int32)) hx hb dMod_least_15 (by decide) ?_
      refine lv_iload_n hx hb dMod_least_18 rfl (lv_at hl 1 rfl) ?_
      refine lv_imul hx hb dMod_least_19 ?_
      refine lv_iload_n hx hb dMod_least_20 rfl (lv_at hl 2 rfl) ?_
      refine lv_iadd hx hb dMod_least_21 ?_
      obtain ⟨g3, hm⟩ := gd_el hm
      refine va_zald hx hb hK hP 2 2 rfl rfl g3 dMod_least_22 ?_
      refine lv_if_eq (tgt := 32) hx hb dMod_least_23 (by decide) (fun c4 => ?_) (fun c4 => ?_)
      · have hm := sx_pos c4 hm
        obtain rfl := Option.some.inj hm
        exact k1 _ (lv_sub hl [2] rfl)
      · have hm := sx_neg c4 hm
        refine lv_iinc (v := x2 + (1 : Int32)) (lv' := [(2, .int (x2 + (1 : Int32))), (0, .ref h_mod), (1, .int x1)]) hx hb dMod_least_26 hl (k := 2) rfl rfl (by decide) rfl (fun ls hl => ?_)
        refine lv_goto (tgt := 2) hx hb dMod_least_29 (by decide) ?_
        exact ih (x2 + (1 : Int32)) r hm _ (lv_sub hl [1, 2, 0] rfl) k1
set_option maxHeartbeats 4000000 in
set_option maxRecDepth 100000 in
theorem k_Mod_least (l : Launch) (dC : Nat → ClassId) (dI : Nat → Nat → Nat) (cI cL cZ : ClassId) (t1 t2 : Nat) (h_mod a_mod_sort a_mod_number a_mod_value a_mod_made a_mod_to a_mod_from a_mod_outputOf a_mod_negated a_mod_settles a_mod_next a_mod_ones a_mod_distance a_mod_apart a_mod_leads : Nat) (mod_code mod_gates mod_feeds mod_inputs mod_latches mod_outputs mod_explored : Int32) (mod_distance mod_apart : Nat → Int32) (sz : Nat) (p0 : Int32) (v : Int32) (hm : m_Mod_least mod_distance mod_apart p0 = some v) : Met l yMod_least wsMod_least rm_Mod_least (sx_Pc (dC, dI) [(cI, .int), (cL, .long), (cZ, .boolean)] t1 t2 [(h_mod, .inr (5, [.int mod_code, .int mod_gates, .int mod_feeds, .int mod_inputs, .int mod_latches, .int mod_outputs, .ref a_mod_sort, .ref a_mod_number, .ref a_mod_value, .ref a_mod_made, .ref a_mod_to, .ref a_mod_from, .ref a_mod_outputOf, .ref a_mod_negated, .int mod_explored, .ref a_mod_settles, .ref a_mod_next, .ref a_mod_ones, .ref a_mod_distance, .ref a_mod_apart, .ref a_mod_leads])), (a_mod_distance, .inl (cI, 256, .inl mod_distance)), (a_mod_apart, .inl (cZ, 65536, .inl mod_apart))] sz [.ref h_mod, .int p0]) (sx_Si v) 0 0 (fun _ => False) := by
  refine Met.ofW (cc := cMod_least) (maxL := 3) (ret := (some .int)) (by decide) rfl ?_
  intro p e s m args below meth c s₁ B hml hv
  obtain ⟨rfl, hsz, hP, hK, hD0, hX⟩ := hv
  have hx := B.exec
  have hb := B.bytes
  have hr := B.returns
  have hts0 := atoms_spec (ws := wsMod_least) B.pre
  have hts : ∀ w ∈ tb, w.before _ s = true := fun w h => hts0 w (List.mem_cons_of_mem _ h)
  have hown : s.vm.findClass "StateExplorerModel" = some m.cls := findClass_of_methodNamed B.named
  have hlocks := B.notSynchronized
  subst hsz
  have hD := hD0.self (sz := s.heap.size)
  generalize hAe : va_A [(h_mod, .inr (5, [.int mod_code, .int mod_gates, .int mod_feeds, .int mod_inputs, .int mod_latches, .int mod_outputs, .ref a_mod_sort, .ref a_mod_number, .ref a_mod_value, .ref a_mod_made, .ref a_mod_to, .ref a_mod_from, .ref a_mod_outputOf, .ref a_mod_negated, .int mod_explored, .ref a_mod_settles, .ref a_mod_next, .ref a_mod_ones, .ref a_mod_distance, .ref a_mod_apart, .ref a_mod_leads])), (a_mod_distance, .inl (cI, 256, .inl mod_distance)), (a_mod_apart, .inl (cZ, 65536, .inl mod_apart))] s.heap.size = A at hD hX 
  have hA : ∀ q : Nat, s.heap.size ≤ q → A q := fun q h => by rw [← hAe]; exact Or.inr h
  have hS : va_S A s.heap s.heap [] := va_S.rf
  have hl := lv_entry ([.ref h_mod, .int p0]) (n := 3) (Nat.le_of_ble_eq_true rfl)
  rw [lg_entry_eq]
  generalize (lg_sl ([.ref h_mod, .int p0]) ++ List.replicate (3 - (lg_sl ([.ref h_mod, .int p0])).length) Slot.unset).toArray = ls at hl ⊢
  have hl : lv_has ls 3 [(0, .ref h_mod), (1, .int p0)] := hl
  have C0 : sx_C p s m _ meth c cMod_least 3 "StateExplorerModel" A (dC, dI) [(cI, .int), (cL, .long), (cZ, .boolean)] t1 t2 := ⟨hx, hb, hml, hown, hts, hA, hK, hlocks, hX⟩
  rw [m_Mod_least] at hm
  refine lv_iconst (v := (0 : Int32)) hx hb dMod_least_0 (by decide) ?_
  refine lv_istore_n (lv' := [(2, .int (0 : Int32)), (0, .ref h_mod), (1, .int p0)]) hx hb dMod_least_1 rfl hl (by decide) rfl (fun ls hl => ?_)
  obtain ⟨v5, hv5, hm⟩ := sx_bind hm
  refine w_Mod_least_2 C0 h_mod a_mod_sort a_mod_number a_mod_value a_mod_made a_mod_to a_mod_from a_mod_outputOf a_mod_negated a_mod_settles a_mod_next a_mod_ones a_mod_distance a_mod_apart a_mod_leads mod_code mod_gates mod_feeds mod_inputs mod_latches mod_outputs mod_explored mod_distance mod_apart p0 hP hD hS _ (0 : Int32) v5 hv5 _ (lv_sub hl [1, 2, 0] rfl) ?_
  intro ls hl
  refine lv_iload_n hx hb dMod_least_32 rfl (lv_at hl 0 rfl) ?_
  obtain rfl := Option.some.inj hm
  exact W.iret (v := v5) hx hb hr (fun t ht hW => ⟨rfl, ht⟩) (fun q hq => nomatch hq) dMod_least_33
noncomputable def m_Mod_group (mod_code mod_latches mod_explored : Int32) (mod_distance mod_apart : Nat → Int32) (p0 : Int32) : Option (Int32 × Int32) := (sx_let (fun (z0J1 : Int32) => (m_Mod_isState mod_latches p0).bind (fun v2 => (sx_let (fun (z0J4 : Int32) (z1J4 : Int32) => (m_Mod_fails mod_code z1J4 z0J4).bind (fun v5 => (if v5.1 = (0 : Int32) then gd (vp_in p0 256) ((if (0 : Int32) ≤ mod_distance p0.toNatClampNeg then (m_Mod_least mod_distance mod_apart p0).bind (fun v10 => some (v10, v5.2)) else some ((-1 : Int32), v5.2))) else some ((0 : Int32), v5.2)))) (fun J4 => (if v2 = (0 : Int32) then (J4 (1 : Int32) z0J1) else (J4 (0 : Int32) z0J1)))))) (fun J1 => (if mod_explored = (0 : Int32) then (J1 (1 : Int32)) else (J1 (0 : Int32)))))
def rm_Mod_group : Room := { frames := 2, cells := 0, slots := 0, locals := 41 }
set_option maxHeartbeats 4000000 in
set_option maxRecDepth 100000 in
theorem k_Mod_group (l : Launch) (dC : Nat → ClassId) (dI : Nat → Nat → Nat) (cI cL cZ : ClassId) (t1 t2 : Nat) (h_mod a_mod_sort a_mod_number a_mod_value a_mod_made a_mod_to a_mod_from a_mod_outputOf a_mod_negated a_mod_settles a_mod_next a_mod_ones a_mod_distance a_mod_apart a_mod_leads : Nat) (mod_code mod_gates mod_feeds mod_inputs mod_latches mod_outputs mod_explored : Int32) (mod_distance mod_apart : Nat → Int32) (sz : Nat) (p0 : Int32) (v : Int32 × Int32) (hm : m_Mod_group mod_code mod_latches mod_explored mod_distance mod_apart p0 = some v) : Met l yMod_group wsMod_group rm_Mod_group (sx_Pc (dC, dI) [(cI, .int), (cL, .long), (cZ, .boolean)] t1 t2 [(h_mod, .inr (5, [.int mod_code, .int mod_gates, .int mod_feeds, .int mod_inputs, .int mod_latches, .int mod_outputs, .ref a_mod_sort, .ref a_mod_number, .ref a_mod_value, .ref a_mod_made, .ref a_mod_to, .ref a_mod_from, .ref a_mod_outputOf, .ref a_mod_negated, .int mod_explored, .ref a_mod_settles, .ref a_mod_next, .ref a_mod_ones, .ref a_mod_distance, .ref a_mod_apart, .ref a_mod_leads])), (a_mod_distance, .inl (cI, 256, .inl mod_distance)), (a_mod_apart, .inl (cZ, 65536, .inl mod_apart))] sz [.ref h_mod, .int p0]) (va_Qi (fun (r : Int32) (_ : Unit) => r = v.1) (fun _ t => sx_W (dC, dI) [(cI, .int), (cL, .long), (cZ, .boolean)] (va_A [(h_mod, .inr (5, [.int mod_code, .int mod_gates, .int mod_feeds, .int mod_inputs, .int mod_latches, .int mod_outputs, .ref a_mod_sort, .ref a_mod_number, .ref a_mod_value, .ref a_mod_made, .ref a_mod_to, .ref a_mod_from, .ref a_mod_outputOf, .ref a_mod_negated, .int mod_explored, .ref a_mod_settles, .ref a_mod_next, .ref a_mod_ones, .ref a_mod_distance, .ref a_mod_apart, .ref a_mod_leads])), (a_mod_distance, .inl (cI, 256, .inl mod_distance)), (a_mod_apart, .inl (cZ, 65536, .inl mod_apart))] sz) [(h_mod, .inr (5, [.int v.2, .int mod_gates, .int mod_feeds, .int mod_inputs, .int mod_latches, .int mod_outputs, .ref a_mod_sort, .ref a_mod_number, .ref a_mod_value, .ref a_mod_made, .ref a_mod_to, .ref a_mod_from, .ref a_mod_outputOf, .ref a_mod_negated, .int mod_explored, .ref a_mod_settles, .ref a_mod_next, .ref a_mod_ones, .ref a_mod_distance, .ref a_mod_apart, .ref a_mod_leads])), (a_mod_distance, .inl (cI, 256, .inl mod_distance)), (a_mod_apart, .inl (cZ, 65536, .inl mod_apart))] t) (va_A [(h_mod, .inr (5, [.int mod_code, .int mod_gates, .int mod_feeds, .int mod_inputs, .int mod_latches, .int mod_outputs, .ref a_mod_sort, .ref a_mod_number, .ref a_mod_value, .ref a_mod_made, .ref a_mod_to, .ref a_mod_from, .ref a_mod_outputOf, .ref a_mod_negated, .int mod_explored, .ref a_mod_settles, .ref a_mod_next, .ref a_mod_ones, .ref a_mod_distance, .ref a_mod_apart, .ref a_mod_leads])), (a_mod_distance, .inl (cI, 256, .inl mod_distance)), (a_mod_apart, .inl (cZ, 65536, .inl mod_apart))] sz)) 0 0 (va_A [(h_mod, .inr (5, [.int mod_code, .int mod_gates, .int mod_feeds, .int mod_inputs, .int mod_latches, .int mod_outputs, .ref a_mod_sort, .ref a_mod_number, .ref a_mod_value, .ref a_mod_made, .ref a_mod_to, .ref a_mod_from, .ref a_mod_outputOf, .ref a_mod_negated, .int mod_explored, .ref a_mod_settles, .ref a_mod_next, .ref a_mod_ones, .ref a_mod_distance, .ref a_mod_apart, .ref a_mod_leads])), (a_mod_distance, .inl (cI, 256, .inl mod_distance)), (a_mod_apart, .inl (cZ, 65536, .inl mod_apart))] sz) := by
  refine Met.ofW (cc := cMod_group) (maxL := 2) (ret := (some .int)) (by decide) rfl ?_
  intro p e s m args below meth c s₁ B hml hv
  obtain ⟨rfl, hsz, hP, hK, hD0, hX⟩ := hv
  have hx := B.exec
  have hb := B.bytes
  have hr := B.returns
  have hts0 := atoms_spec (ws := wsMod_group) B.pre
  have hts : ∀ w ∈ tb, w.before _ s = true := fun w h => hts0 w (List.mem_cons_of_mem _ h)
  have hown : s.vm.findClass "StateExplorerModel" = some m.cls := findClass_of_methodNamed B.named
  have hlocks := B.notSynchronized
  subst hsz
  have hD := hD0.self (sz := s.heap.size)
  generalize hAe : va_A [(h_mod, .inr (5, [.int mod_code, .int mod_gates, .int mod_feeds, .int mod_inputs, .int mod_latches, .int mod_outputs, .ref a_mod_sort, .ref a_mod_number, .ref a_mod_value, .ref a_mod_made, .ref a_mod_to, .ref a_mod_from, .ref a_mod_outputOf, .ref a_mod_negated, .int mod_explored, .ref a_mod_settles, .ref a_mod_next, .ref a_mod_ones, .ref a_mod_distance, .ref a_mod_apart, .ref a_mod_leads])), (a_mod_distance, .inl (cI, 256, .inl mod_distance)), (a_mod_apart, .inl (cZ, 65536, .inl mod_apart))] s.heap.size = A at hD hX ⊢
  have hA : ∀ q : Nat, s.heap.size ≤ q → A q := fun q h => by rw [← hAe]; exact Or.inr h
  have hS : va_S A s.heap s.heap [] := va_S.rf
  have hl := lv_entry ([.ref h_mod, .int p0]) (n := 2) (Nat.le_of_ble_eq_true rfl)
  rw [lg_entry_eq]
  generalize (lg_sl ([.ref h_mod, .int p0]) ++ List.replicate (2 - (lg_sl ([.ref h_mod, .int p0])).length) Slot.unset).toArray = ls at hl ⊢
  have hl : lv_has ls 2 [(0, .ref h_mod), (1, .int p0)] := hl
  have C0 : sx_C p s m _ meth c cMod_group 2 "StateExplorerModel" A (dC, dI) [(cI, .int), (cL, .long), (cZ, .boolean)] t1 t2 := ⟨hx, hb, hml, hown, hts, hA, hK, hlocks, hX⟩
  rw [m_Mod_group] at hm
  refine lv_aload_n hx hb dMod_group_0 rfl (lv_at hl 0 rfl) ?_
  refine lv_aload_n hx hb dMod_group_1 rfl (lv_at hl 0 rfl) ?_
  refine va_get (D := (dC, dI)) (ci := 5) (v := .int mod_explored) (C := RMod) (T := TMod) (N := 21) hx hb hts inMod hown hK hP 0 rfl rfl 14 (by decide) (hts _ tw_625) (fun _ h9 => h9) rfl dMod_group_2 ?_
  obtain ⟨J1, hJ1, hm⟩ := sx_lj hm
  have jJ1 : ∀ (z0J1 : Int32), J1 z0J1 = some v → ∀ (ls : Array Slot), lv_has ls 2 [(0, .ref h_mod), (1, .int p0)] → W p l e (headSpec wsMod_group rm_Mod_group).room s m ([.ref h_mod, .int p0]).toArray below meth c s.heap [] 0 0 (MQ below (va_Qi (fun (r : Int32) (_ : Unit) => r = v.1) (fun _ t => sx_W (dC, dI) [(cI, .int), (cL, .long), (cZ, .boolean)] A [(h_mod, .inr (5, [.int v.2, .int mod_gates, .int mod_feeds, .int mod_inputs, .int mod_latches, .int mod_outputs, .ref a_mod_sort, .ref a_mod_number, .ref a_mod_value, .ref a_mod_made, .ref a_mod_to, .ref a_mod_from, .ref a_mod_outputOf, .ref a_mod_negated, .int mod_explored, .ref a_mod_settles, .ref a_mod_next, .ref a_mod_ones, .ref a_mod_distance, .ref a_mod_apart, .ref a_mod_leads])), (a_mod_distance, .inl (cI, 256, .inl mod_distance)), (a_mod_apart, .inl (cZ, 65536, .inl mod_apart))] t) A) ([.ref h_mod, .int p0]).toArray s 0 0 A) (F0 m 13 ls [.int z0J1, .ref h_mod]) := by
    intro z0J1 hm ls hl
    rw [hJ1] at hm
    dsimp only at hm
    refine lv_aload_n hx hb dMod_group_13 rfl (lv_at hl 0 rfl) ?_
    refine lv_iload_n hx hb dMod_group_14 rfl (lv_at hl 1 rfl) ?_
    obtain ⟨v2, hv2, hm⟩ := sx_bind hm
    have hPc := hP.sub (ws' := [(h_mod, .inr (5, [.int mod_code, .int mod_gates, .int mod_feeds, .int mod_inputs, .int mod_latches, .int mod_outputs, .ref a_mod_sort, .ref a_mod_number, .ref a_mod_value, .ref a_mod_made, .ref a_mod_to, .ref a_mod_from, .ref a_mod_outputOf, .ref a_mod_negated, .int mod_explored, .ref a_mod_settles, .ref a_mod_next, .ref a_mod_ones, .ref a_mod_distance, .ref a_mod_apart, .ref a_mod_leads]))]) [0] rfl
    have hDc := hD.sub (ws' := [(h_mod, .inr (5, [.int mod_code, .int mod_gates, .int mod_feeds, .int mod_inputs, .int mod_latches, .int mod_outputs, .ref a_mod_sort, .ref a_mod_number, .ref a_mod_value, .ref a_mod_made, .ref a_mod_to, .ref a_mod_from, .ref a_mod_outputOf, .ref a_mod_negated, .int mod_explored, .ref a_mod_settles, .ref a_mod_next, .ref a_mod_ones, .ref a_mod_distance, .ref a_mod_apart, .ref a_mod_leads]))]) [0] (by decide) rfl
    have hFc := va_free (wc := [(h_mod, .inr (5, [.int mod_code, .int mod_gates, .int mod_feeds, .int mod_inputs, .int mod_latches, .int mod_outputs, .ref a_mod_sort, .ref a_mod_number, .ref a_mod_value, .ref a_mod_made, .ref a_mod_to, .ref a_mod_from, .ref a_mod_outputOf, .ref a_mod_negated, .int mod_explored, .ref a_mod_settles, .ref a_mod_next, .ref a_mod_ones, .ref a_mod_distance, .ref a_mod_apart, .ref a_mod_leads]))]) hD hS hA [0] rfl
    refine sx_stI (va_runV (As := [.int p0]) (rest := [.int z0J1, .ref h_mod]) ⟨hx, hb, hml, hown, hts⟩ (k_Mod_isState l dC dI cI cL cZ t1 t2 h_mod a_mod_sort a_mod_number a_mod_value a_mod_made a_mod_to a_mod_from a_mod_outputOf a_mod_negated a_mod_settles a_mod_next a_mod_ones a_mod_distance a_mod_apart a_mod_leads mod_code mod_gates mod_feeds mod_inputs mod_latches mod_outputs mod_explored _ p0 v2 hv2) (cwV 1 hts (sx_gV tw_748 tw_750 tw_31 tw_41 tcMod_isState) rfl rfl rfl (by decide +kernel) ⟨Nat.le_of_ble_eq_true rfl, Nat.le_of_ble_eq_true rfl⟩) (sx_pV hK hX hS hPc hDc hFc (va_recv hK hPc (ci := 5) (q0 := 0) rfl rfl)) rfl rfl hl.1 rfl (lv_room (Nat.le_of_ble_eq_true rfl)) dMod_group_15 ⟨Nat.le_of_ble_eq_true rfl, Nat.le_of_ble_eq_true rfl⟩) ?_
    obtain ⟨J4, hJ4, hm⟩ := sx_lj hm
    have jJ4 : ∀ (z0J4 : Int32) (z1J4 : Int32), J4 z0J4 z1J4 = some v → ∀ (ls : Array Slot), lv_has ls 2 [(0, .ref h_mod), (1, .int p0)] → W p l e (headSpec wsMod_group rm_Mod_group).room s m ([.ref h_mod, .int p0]).toArray below meth c s.heap [] 0 0 (MQ below (va_Qi (fun (r : Int32) (_ : Unit) => r = v.1) (fun _ t => sx_W (dC, dI) [(cI, .int), (cL, .long), (cZ, .boolean)] A [(h_mod, .inr (5, [.int v.2, .int mod_gates, .int mod_feeds, .int mod_inputs, .int mod_latches, .int mod_outputs, .ref a_mod_sort, .ref a_mod_number, .ref a_mod_value, .ref a_mod_made, .ref a_mod_to, .ref a_mod_from, .ref a_mod_outputOf, .ref a_mod_negated, .int mod_explored, .ref a_mod_settles, .ref a_mod_next, .ref a_mod_ones, .ref a_mod_distance, .ref a_mod_apart, .ref a_mod_leads])), (a_mod_distance, .inl (cI, 256, .inl mod_distance)), (a_mod_apart, .inl (cZ, 65536, .inl mod_apart))] t) A) ([.ref h_mod, .int p0]).toArray s 0 0 A) (F0 m 26 ls [.int z0J4, .int z1J4, .ref h_mod]) := by
      intro z0J4 z1J4 hm ls hl
      rw [hJ4] at hm
      dsimp only at hm
      obtain ⟨v5, hv5, hm⟩ := sx_bind hm
      have hPc := hP.sub (ws' := [(h_mod, .inr (5, [.int mod_code, .int mod_gates, .int mod_feeds, .int mod_inputs, .int mod_latches, .int mod_outputs, .ref a_mod_sort, .ref a_mod_number, .ref a_mod_value, .ref a_mod_made, .ref a_mod_to, .ref a_mod_from, .ref a_mod_outputOf, .ref a_mod_negated, .int mod_explored, .ref a_mod_settles, .ref a_mod_next, .ref a_mod_ones, .ref a_mod_distance, .ref a_mod_apart, .ref a_mod_leads]))]) [0] rfl
      have hDc := hD.sub (ws' := [(h_mod, .inr (5, [.int mod_code, .int mod_gates, .int mod_feeds, .int mod_inputs, .int mod_latches, .int mod_outputs, .ref a_mod_sort, .ref a_mod_number, .ref a_mod_value, .ref a_mod_made, .ref a_mod_to, .ref a_mod_from, .ref a_mod_outputOf, .ref a_mod_negated, .int mod_explored, .ref a_mod_settles, .ref a_mod_next, .ref a_mod_ones, .ref a_mod_distance, .ref a_mod_apart, .ref a_mod_leads]))]) [0] (by decide) rfl
      have hFc := va_free (wc := [(h_mod, .inr (5, [.int mod_code, .int mod_gates, .int mod_feeds, .int mod_inputs, .int mod_latches, .int mod_outputs, .ref a_mod_sort, .ref a_mod_number, .ref a_mod_value, .ref a_mod_made, .ref a_mod_to, .ref a_mod_from, .ref a_mod_outputOf, .ref a_mod_negated, .int mod_explored, .ref a_mod_settles, .ref a_mod_next, .ref a_mod_ones, .ref a_mod_distance, .ref a_mod_apart, .ref a_mod_leads]))]) hD hS hA [0] rfl
      refine va_calli (va_runV (As := [.int z1J4, .int z0J4]) (rest := []) ⟨hx, hb, hml, hown, hts⟩ (k_Mod_fails l dC dI cI cL cZ t1 t2 h_mod a_mod_sort a_mod_number a_mod_value a_mod_made a_mod_to a_mod_from a_mod_outputOf a_mod_negated a_mod_settles a_mod_next a_mod_ones a_mod_distance a_mod_apart a_mod_leads mod_code mod_gates mod_feeds mod_inputs mod_latches mod_outputs mod_explored _ z1J4 z0J4 v5 hv5) (cwV 2 hts (sx_gV tw_680 tw_682 tw_19 tw_41 tcMod_fails) rfl rfl rfl (by decide +kernel) ⟨Nat.le_of_ble_eq_true rfl, Nat.le_of_ble_eq_true rfl⟩) (sx_pV hK hX hS hPc hDc hFc (va_recv hK hPc (ci := 5) (q0 := 0) rfl rfl)) rfl rfl hl.1 rfl (lv_room (Nat.le_of_ble_eq_true rfl)) dMod_group_26 ⟨Nat.le_of_ble_eq_true rfl, Nat.le_of_ble_eq_true rfl⟩) hS (fun q _ h => hFc q h) hFc (fun r6 u_ t_ H locs ht hvm hw hB hz1 hk1 hS => ?_)
      obtain ⟨hP1, -, hD1⟩ := hB
      rw [ht] at hP1
      obtain ⟨hP, hD⟩ := va_join (wr := [(a_mod_distance, .inl (cI, 256, .inl mod_distance)), (a_mod_apart, .inl (cZ, 65536, .inl mod_apart))]) (w1 := [(h_mod, .inr (5, [.int v5.2, .int mod_gates, .int mod_feeds, .int mod_inputs, .int mod_latches, .int mod_outputs, .ref a_mod_sort, .ref a_mod_number, .ref a_mod_value, .ref a_mod_made, .ref a_mod_to, .ref a_mod_from, .ref a_mod_outputOf, .ref a_mod_negated, .int mod_explored, .ref a_mod_settles, .ref a_mod_next, .ref a_mod_ones, .ref a_mod_distance, .ref a_mod_apart, .ref a_mod_leads]))]) hP hD [0] [1, 2] rfl rfl (by decide) (by decide) hk1 hFc hP1 hD1
      have hP : va_P (dC, dI) vwCl [(a_mod_distance, .inl (cI, 256, .inl mod_distance)), (a_mod_apart, .inl (cZ, 65536, .inl mod_apart)), (h_mod, .inr (5, [.int v5.2, .int mod_gates, .int mod_feeds, .int mod_inputs, .int mod_latches, .int mod_outputs, .ref a_mod_sort, .ref a_mod_number, .ref a_mod_value, .ref a_mod_made, .ref a_mod_to, .ref a_mod_from, .ref a_mod_outputOf, .ref a_mod_negated, .int mod_explored, .ref a_mod_settles, .ref a_mod_next, .ref a_mod_ones, .ref a_mod_distance, .ref a_mod_apart, .ref a_mod_leads]))] H := hP
      have hD : va_D A [(a_mod_distance, .inl (cI, 256, .inl mod_distance)), (a_mod_apart, .inl (cZ, 65536, .inl mod_apart)), (h_mod, .inr (5, [.int v5.2, .int mod_gates, .int mod_feeds, .int mod_inputs, .int mod_latches, .int mod_outputs, .ref a_mod_sort, .ref a_mod_number, .ref a_mod_value, .ref a_mod_made, .ref a_mod_to, .ref a_mod_from, .ref a_mod_outputOf, .ref a_mod_negated, .int mod_explored, .ref a_mod_settles, .ref a_mod_next, .ref a_mod_ones, .ref a_mod_distance, .ref a_mod_apart, .ref a_mod_leads]))] := hD
      have hw9 := hw.symm
      subst hw9
      refine lv_if_eq (tgt := 36) hx hb dMod_group_29 (by decide) (fun c7 => ?_) (fun c7 => ?_)
      · have hm := sx_pos c7 hm
        refine lv_aload_n hx hb dMod_group_36 rfl (lv_at hl 0 rfl) ?_
        refine va_get (D := (dC, dI)) (ci := 5) (v := .ref a_mod_distance) (C := RMod) (T := TMod) (N := 21) hx hb hts inMod hown hK hP 2 rfl rfl 18 (by decide) (hts _ tw_629) (fun _ h9 => h9) rfl dMod_group_37 ?_
        refine lv_iload_n hx hb dMod_group_40 rfl (lv_at hl 1 rfl) ?_
        obtain ⟨g8, hm⟩ := gd_el hm
        refine va_iald hx hb hK hP 0 0 rfl rfl g8 dMod_group_41 ?_
        refine lv_if_ge (tgt := 49) hx hb dMod_group_42 (by decide) (fun c9 => ?_) (fun c9 => ?_)
        · have hm := sx_pos c9 hm
          refine lv_aload_n hx hb dMod_group_49 rfl (lv_at hl 0 rfl) ?_
          refine lv_iload_n hx hb dMod_group_50 rfl (lv_at hl 1 rfl) ?_
          obtain ⟨v10, hv10, hm⟩ := sx_bind hm
          have hPc := hP.sub (ws' := [(h_mod, .inr (5, [.int v5.2, .int mod_gates, .int mod_feeds, .int mod_inputs, .int mod_latches, .int mod_outputs, .ref a_mod_sort, .ref a_mod_number, .ref a_mod_value, .ref a_mod_made, .ref a_mod_to, .ref a_mod_from, .ref a_mod_outputOf, .ref a_mod_negated, .int mod_explored, .ref a_mod_settles, .ref a_mod_next, .ref a_mod_ones, .ref a_mod_distance, .ref a_mod_apart, .ref a_mod_leads])), (a_mod_distance, .inl (cI, 256, .inl mod_distance)), (a_mod_apart, .inl (cZ, 65536, .inl mod_apart))]) [2, 0, 1] rfl
          have hDc := hD.sub (ws' := [(h_mod, .inr (5, [.int v5.2, .int mod_gates, .int mod_feeds, .int mod_inputs, .int mod_latches, .int mod_outputs, .ref a_mod_sort, .ref a_mod_number, .ref a_mod_value, .ref a_mod_made, .ref a_mod_to, .ref a_mod_from, .ref a_mod_outputOf, .ref a_mod_negated, .int mod_explored, .ref a_mod_settles, .ref a_mod_next, .ref a_mod_ones, .ref a_mod_distance, .ref a_mod_apart, .ref a_mod_leads])), (a_mod_distance, .inl (cI, 256, .inl mod_distance)), (a_mod_apart, .inl (cZ, 65536, .inl mod_apart))]) [2, 0, 1] (by decide) rfl
          have hFc := va_free (wc := [(h_mod, .inr (5, [.int v5.2, .int mod_gates, .int mod_feeds, .int mod_inputs, .int mod_latches, .int mod_outputs, .ref a_mod_sort, .ref a_mod_number, .ref a_mod_value, .ref a_mod_made, .ref a_mod_to, .ref a_mod_from, .ref a_mod_outputOf, .ref a_mod_negated, .int mod_explored, .ref a_mod_settles, .ref a_mod_next, .ref a_mod_ones, .ref a_mod_distance, .ref a_mod_apart, .ref a_mod_leads])), (a_mod_distance, .inl (cI, 256, .inl mod_distance)), (a_mod_apart, .inl (cZ, 65536, .inl mod_apart))]) hD hS hA [2, 0, 1] rfl
          refine sx_stI (va_runV (As := [.int p0]) (rest := []) ⟨hx, hb, hml, hown, hts⟩ (k_Mod_least l dC dI cI cL cZ t1 t2 h_mod a_mod_sort a_mod_number a_mod_value a_mod_made a_mod_to a_mod_from a_mod_outputOf a_mod_negated a_mod_settles a_mod_next a_mod_ones a_mod_distance a_mod_apart a_mod_leads v5.2 mod_gates mod_feeds mod_inputs mod_latches mod_outputs mod_explored mod_distance mod_apart _ p0 v10 hv10) (cwV 1 hts (sx_gV tw_788 tw_790 tw_34 tw_41 tcMod_least) rfl rfl rfl (by decide +kernel) ⟨Nat.le_of_ble_eq_true rfl, Nat.le_of_ble_eq_true rfl⟩) (sx_pV hK hX hS hPc hDc hFc (va_recv hK hPc (ci := 5) (q0 := 0) rfl rfl)) rfl rfl hl.1 rfl (lv_room (Nat.le_of_ble_eq_true rfl)) dMod_group_51 ⟨Nat.le_of_ble_eq_true rfl, Nat.le_of_ble_eq_true rfl⟩) ?_
          obtain rfl := Option.some.inj hm
          exact W.iret (v := v10) hx hb hr (fun t ht hW => ⟨⟨v10, (), rfl, rfl, sx_Wi (hP.sub (ws' := [(h_mod, .inr (5, [.int v5.2, .int mod_gates, .int mod_feeds, .int mod_inputs, .int mod_latches, .int mod_outputs, .ref a_mod_sort, .ref a_mod_number, .ref a_mod_value, .ref a_mod_made, .ref a_mod_to, .ref a_mod_from, .ref a_mod_outputOf, .ref a_mod_negated, .int mod_explored, .ref a_mod_settles, .ref a_mod_next, .ref a_mod_ones, .ref a_mod_distance, .ref a_mod_apart, .ref a_mod_leads])), (a_mod_distance, .inl (cI, 256, .inl mod_distance)), (a_mod_apart, .inl (cZ, 65536, .inl mod_apart))]) [2, 0, 1] rfl) hK (hD.sub (ws' := [(h_mod, .inr (5, [.int v5.2, .int mod_gates, .int mod_feeds, .int mod_inputs, .int mod_latches, .int mod_outputs, .ref a_mod_sort, .ref a_mod_number, .ref a_mod_value, .ref a_mod_made, .ref a_mod_to, .ref a_mod_from, .ref a_mod_outputOf, .ref a_mod_negated, .int mod_explored, .ref a_mod_settles, .ref a_mod_next, .ref a_mod_ones, .ref a_mod_distance, .ref a_mod_apart, .ref a_mod_leads])), (a_mod_distance, .inl (cI, 256, .inl mod_distance)), (a_mod_apart, .inl (cZ, 65536, .inl mod_apart))]) [2, 0, 1] (by decide) rfl) ht hW.alike⟩, hS.F ht⟩) hS.2.2 dMod_group_54
        · have hm := sx_neg c9 hm
          refine lv_iconst (v := (-1 : Int32)) hx hb dMod_group_45 (by decide) ?_
          refine lv_goto (tgt := 54) hx hb dMod_group_46 (by decide) ?_
          obtain rfl := Option.some.inj hm
          exact W.iret (v := (-1 : Int32)) hx hb hr (fun t ht hW => ⟨⟨(-1 : Int32), (), rfl, rfl, sx_Wi (hP.sub (ws' := [(h_mod, .inr (5, [.int v5.2, .int mod_gates, .int mod_feeds, .int mod_inputs, .int mod_latches, .int mod_outputs, .ref a_mod_sort, .ref a_mod_number, .ref a_mod_value, .ref a_mod_made, .ref a_mod_to, .ref a_mod_from, .ref a_mod_outputOf, .ref a_mod_negated, .int mod_explored, .ref a_mod_settles, .ref a_mod_next, .ref a_mod_ones, .ref a_mod_distance, .ref a_mod_apart, .ref a_mod_leads])), (a_mod_distance, .inl (cI, 256, .inl mod_distance)), (a_mod_apart, .inl (cZ, 65536, .inl mod_apart))]) [2, 0, 1] rfl) hK (hD.sub (ws' := [(h_mod, .inr (5, [.int v5.2, .int mod_gates, .int mod_feeds, .int mod_inputs, .int mod_latches, .int mod_outputs, .ref a_mod_sort, .ref a_mod_number, .ref a_mod_value, .ref a_mod_made, .ref a_mod_to, .ref a_mod_from, .ref a_mod_outputOf, .ref a_mod_negated, .int mod_explored, .ref a_mod_settles, .ref a_mod_next, .ref a_mod_ones, .ref a_mod_distance, .ref a_mod_apart, .ref a_mod_leads])), (a_mod_distance, .inl (cI, 256, .inl mod_distance)), (a_mod_apart, .inl (cZ, 65536, .inl mod_apart))]) [2, 0, 1] (by decide) rfl) ht hW.alike⟩, hS.F ht⟩) hS.2.2 dMod_group_54
      · have hm := sx_neg c7 hm
        refine lv_iconst (v := (0 : Int32)) hx hb dMod_group_32 (by decide) ?_
        refine lv_goto (tgt := 54) hx hb dMod_group_33 (by decide) ?_
        obtain rfl := Option.some.inj hm
        exact W.iret (v := (0 : Int32)) hx hb hr (fun t ht hW => ⟨⟨(0 : Int32), (), rfl, rfl, sx_Wi (hP.sub (ws' := [(h_mod, .inr (5, [.int v5.2, .int mod_gates, .int mod_feeds, .int mod_inputs, .int mod_latches, .int mod_outputs, .ref a_mod_sort, .ref a_mod_number, .ref a_mod_value, .ref a_mod_made, .ref a_mod_to, .ref a_mod_from, .ref a_mod_outputOf, .ref a_mod_negated, .int mod_explored, .ref a_mod_settles, .ref a_mod_next, .ref a_mod_ones, .ref a_mod_distance, .ref a_mod_apart, .ref a_mod_leads])), (a_mod_distance, .inl (cI, 256, .inl mod_distance)), (a_mod_apart, .inl (cZ, 65536, .inl mod_apart))]) [2, 0, 1] rfl) hK (hD.sub (ws' := [(h_mod, .inr (5, [.int v5.2, .int mod_gates, .int mod_feeds, .int mod_inputs, .int mod_latches, .int mod_outputs, .ref a_mod_sort, .ref a_mod_number, .ref a_mod_value, .ref a_mod_made, .ref a_mod_to, .ref a_mod_from, .ref a_mod_outputOf, .ref a_mod_negated, .int mod_explored, .ref a_mod_settles, .ref a_mod_next, .ref a_mod_ones, .ref a_mod_distance, .ref a_mod_apart, .ref a_mod_leads])), (a_mod_distance, .inl (cI, 256, .inl mod_distance)), (a_mod_apart, .inl (cZ, 65536, .inl mod_apart))]) [2, 0, 1] (by decide) rfl) ht hW.alike⟩, hS.F ht⟩) hS.2.2 dMod_group_54
    refine lv_if_ne (tgt := 25) hx hb dMod_group_18 (by decide) (fun c12 => ?_) (fun c12 => ?_)
    · have hm := sx_neg c12 hm
      refine lv_iconst (v := (0 : Int32)) hx hb dMod_group_25 (by decide) ?_
      exact jJ4 (0 : Int32) z0J1 hm _ (hl)
    · have hm := sx_pos c12 hm
      refine lv_iconst (v := (1 : Int32)) hx hb dMod_group_21 (by decide) ?_
      refine lv_goto (tgt := 26) hx hb dMod_group_22 (by decide) ?_
      exact jJ4 (1 : Int32) z0J1 hm _ (hl)
  refine lv_if_ne (tgt := 12) hx hb dMod_group_5 (by decide) (fun c13 => ?_) (fun c13 => ?_)
  · have hm := sx_neg c13 hm
    refine lv_iconst (v := (0 : Int32)) hx hb dMod_group_12 (by decide) ?_
    exact jJ1 (0 : Int32) hm _ (hl)
  · have hm := sx_pos c13 hm
    refine lv_iconst (v := (1 : Int32)) hx hb dMod_group_8 (by decide) ?_
    refine lv_goto (tgt := 13) hx hb dMod_group_9 (by decide) ?_
    exact jJ1 (1 : Int32) hm _ (hl)
noncomputable def L_Mod_count_185 (mod_inputs : Int32) (mod_settles : Nat → Int32) (x6 : Int32) : Nat → Int32 → Int32 → Option (Int32)
  | 0, _, _ => none
  | n + 1, x5, x7 => (m_Mod_choices mod_inputs).bind (fun v17 => (if v17 ≤ x7 then some x5 else gd (vp_in (((16 : Int32) * x6) + x7) 4096) ((if mod_settles (((16 : Int32) * x6) + x7).toNatClampNeg = (0 : Int32) then (L_Mod_count_185 mod_inputs mod_settles x6 n (x5 + (1 : Int32)) (x7 + (1 : Int32))) else (L_Mod_count_185 mod_inputs mod_settles x6 n x5 (x7 + (1 : Int32)))))))
noncomputable def L_Mod_count_112 (mod_inputs mod_latches : Int32) (mod_settles mod_distance mod_apart : Nat → Int32) : Nat → Int32 → Int32 → Int32 → Int32 → Int32 → Option (Int32 × Int32 × Int32 × Int32)
  | 0, _, _, _, _, _ => none
  | n + 1, x2, x3, x4, x5, x6 => (m_Mod_states mod_latches).bind (fun v7 => (if v7 ≤ x6 then some (x2, x3, x4, x5) else gd (vp_in x6 256) ((if (0 : Int32) ≤ mod_distance x6.toNatClampNeg then gd (vp_in x6 256) ((sx_let (fun (z0J13 : Int32) => (m_Mod_least mod_distance mod_apart x6).bind (fun v14 => (sx_let (fun (z0J16 : Int32) => ((L_Mod_count_185 mod_inputs mod_settles x6 fu x5 (0 : Int32)).bind (fun v22 => (L_Mod_count_112 mod_inputs mod_latches mod_settles mod_distance mod_apart n (x2 + (1 : Int32)) z0J13 z0J16 v22 (x6 + (1 : Int32)))))) (fun J16 => (if v14 = x6 then (J16 (x4 + (1 : Int32))) else (J16 x4)))))) (fun J13 => (if mod_distance x6.toNatClampNeg ≤ x3 then (J13 x3) else gd (vp_in x6 256) ((J13 (mod_distance x6.toNatClampNeg))))))) else (L_Mod_count_112 mod_inputs mod_latches mod_settles mod_distance mod_apart n x2 x3 x4 x5 (x6 + (1 : Int32)))))))
noncomputable def m_Mod_count (mod_code mod_gates mod_feeds mod_inputs mod_latches mod_outputs mod_explored : Int32) (mod_settles mod_distance mod_apart : Nat → Int32) (p0 : Int32) : Option (Int32 × Int32) := (if p0 < (0 : Int32) then some ((-1 : Int32), (0 : Int32)) else (if p0 ≤ (9 : Int32) then (if (5 : Int32) ≤ p0 then (if p0 = (5 : Int32) then (if mod_explored = (0 : Int32) then some ((0 : Int32), (0 : Int32)) else some ((1 : Int32), (0 : Int32))) else (if mod_explored = (0 : Int32) then (if mod_explored = (0 : Int32) then some ((0 : Int32), (0 : Int32)) else some ((1 : Int32), (0 : Int32))) else ((L_Mod_count_112 mod_inputs mod_latches mod_settles mod_distance mod_apart fu (0 : Int32) (0 : Int32) (0 : Int32) (0 : Int32) (0 : Int32)).bind (fun v26 => (if p0 = (6 : Int32) then some (v26.1, (0 : Int32)) else (if p0 = (7 : Int32) then some (v26.2.1, (0 : Int32)) else (if p0 = (8 : Int32) then some (v26.2.2.1, (0 : Int32)) else some (v26.2.2.2, (0 : Int32))))))))) else (if p0 = (0 : Int32) then some (mod_gates, (0 : Int32)) else (if p0 = (1 : Int32) then some (mod_feeds, (0 : Int32)) else (if p0 = (2 : Int32) then some (mod_inputs, (0 : Int32)) else (if p0 = (3 : Int32) then some (mod_latches, (0 : Int32)) else some (mod_outputs, (0 : Int32))))))) else some ((-1 : Int32), (0 : Int32))))
def rm_Mod_count : Room := { frames := 1, cells := 0, slots := 0, locals := 22 }
set_option maxHeartbeats 4000000 in
set_option maxRecDepth 100000 in
theorem w_Mod_count_185 {p : Program} {l : Launch} {e : Env} {s : State} {m : MethodId} {args : Array Value} {below : List Frame} {meth : Method} {c : Code} {dC : Nat → ClassId} {dI : Nat → Nat → Nat} {cI cL cZ : ClassId} {A : Nat → Prop} {Q : State → Prop} {t1 t2 : Nat} (C0 : sx_C p s m args meth c cMod_count 8 "StateExplorerModel" A (dC, dI) [(cI, .int), (cL, .long), (cZ, .boolean)] t1 t2) (h_mod a_mod_sort a_mod_number a_mod_value a_mod_made a_mod_to a_mod_from a_mod_outputOf a_mod_negated a_mod_settles a_mod_next a_mod_ones a_mod_distance a_mod_apart a_mod_leads : Nat) (mod_code mod_gates mod_feeds mod_inputs mod_latches mod_outputs mod_explored : Int32) (mod_settles mod_distance mod_apart : Nat → Int32) (x1 : Int32) (x2 : Int32) (x3 : Int32) (x4 : Int32) (x6 : Int32) {H : Heap} {locs : List Loc} (hP : va_P (dC, dI) vwCl [(h_mod, .inr (5, [.int mod_code, .int mod_gates, .int mod_feeds, .int mod_inputs, .int mod_latches, .int mod_outputs, .ref a_mod_sort, .ref a_mod_number, .ref a_mod_value, .ref a_mod_made, .ref a_mod_to, .ref a_mod_from, .ref a_mod_outputOf, .ref a_mod_negated, .int mod_explored, .ref a_mod_settles, .ref a_mod_next, .ref a_mod_ones, .ref a_mod_distance, .ref a_mod_apart, .ref a_mod_leads])), (a_mod_settles, .inl (cZ, 4096, .inl mod_settles)), (a_mod_distance, .inl (cI, 256, .inl mod_distance)), (a_mod_apart, .inl (cZ, 65536, .inl mod_apart))] H) (hD : va_D A [(h_mod, .inr (5, [.int mod_code, .int mod_gates, .int mod_feeds, .int mod_inputs, .int mod_latches, .int mod_outputs, .ref a_mod_sort, .ref a_mod_number, .ref a_mod_value, .ref a_mod_made, .ref a_mod_to, .ref a_mod_from, .ref a_mod_outputOf, .ref a_mod_negated, .int mod_explored, .ref a_mod_settles, .ref a_mod_next, .ref a_mod_ones, .ref a_mod_distance, .ref a_mod_apart, .ref a_mod_leads])), (a_mod_settles, .inl (cZ, 4096, .inl mod_settles)), (a_mod_distance, .inl (cI, 256, .inl mod_distance)), (a_mod_apart, .inl (cZ, 65536, .inl mod_apart))]) (hS : va_S A s.heap H locs) :
    ∀ (n : Nat) (x5 : Int32) (x7 : Int32)  (r : Int32), L_Mod_count_185 mod_inputs mod_settles x6 n x5 x7 = some r → ∀ (ls : Array Slot), lv_has ls 8 [(0, .ref h_mod), (1, .int x1), (2, .int x2), (3, .int x3), (4, .int x4), (5, .int x5), (6, .int x6), (7, .int x7)] →
    (∀ (ls : Array Slot), lv_has ls 8 [(0, .ref h_mod), (1, .int x1), (2, .int x2), (3, .int x3), (4, .int x4), (5, .int r), (6, .int x6)] → W p l e (headSpec wsMod_count rm_Mod_count).room s m args below meth c H locs 0 0 Q (F0 m 227 ls [])) →
    W p l e (headSpec wsMod_count rm_Mod_count).room s m args below meth c H locs 0 0 Q (F0 m 185 ls []) := by
  obtain ⟨hx, hb, hml, hown, hts, hA, hK, hlocks, hX⟩ := id C0
  intro n
  induction n with
  | zero => intro x5 x7 r hm; rw [L_Mod_count_185] at hm; cases hm
  | succ n ih =>
    intro x5 x7 r hm ls hl k1
    rw [L_Mod_count_185] at hm
    refine lv_iload hx hb dMod_count_185 (lv_at hl 7 rfl) ?_
    refine lv_aload_n hx hb dMod_count_187 rfl (lv_at hl 0 rfl) ?_
    obtain ⟨v17, hv17, hm⟩ := sx_bind hm
    have hPc := hP.sub (ws' := [(h_mod, .inr (5, [.int mod_code, .int mod_gates, .int mod_feeds, .int mod_inputs, .int mod_latches, .int mod_outputs, .ref a_mod_sort, .ref a_mod_number, .ref a_mod_value, .ref a_mod_made, .ref a_mod_to, .ref a_mod_from, .ref a_mod_outputOf, .ref a_mod_negated, .int mod_explored, .ref a_mod_settles, .ref a_mod_next, .ref a_mod_ones, .ref a_mod_distance, .ref a_mod_apart, .ref a_mod_leads]))]) [0] rfl
    have hDc := hD.sub (ws' := [(h_mod, .inr (5, [.int mod_code, .int mod_gates, .int mod_feeds, .int mod_inputs, .int mod_latches, .int mod_outputs, .ref a_mod_sort, .ref a_mod_number, .ref a_mod_value, .ref a_mod_made, .ref a_mod_to, .ref a_mod_from, .ref a_mod_outputOf, .ref a_mod_negated, .int mod_explored, .ref a_mod_settles, .ref a_mod_next, .ref a_mod_ones, .ref a_mod_distance, .ref a_mod_apart, .ref a_mod_leads]))]) [0] (by decide) rfl
    have hFc := va_free (wc := [(h_mod, .inr (5, [.int mod_code, .int mod_gates, .int mod_feeds, .int mod_inputs, .int mod_latches, .int mod_outputs, .ref a_mod_sort, .ref a_mod_number, .ref a_mod_value, .ref a_mod_made, .ref a_mod_to, .ref a_mod_from, .ref a_mod_outputOf, .ref a_mod_negated, .int mod_explored, .ref a_mod_settles, .ref a_mod_next, .ref a_mod_ones, .ref a_mod_distance, .ref a_mod_apart, .ref a_mod_leads]))]) hD hS hA [0] rfl
    refine sx_stI (va_runV (As := []) (rest := [.int x7]) ⟨hx, hb, hml, hown, hts⟩ (k_Mod_choices l dC dI cI cL cZ t1 t2 h_mod a_mod_sort a_mod_number a_mod_value a_mod_made a_mod_to a_mod_from a_mod_outputOf a_mod_negated a_mod_settles a_mod_next a_mod_ones a_mod_distance a_mod_apart a_mod_leads mod_code mod_gates mod_feeds mod_inputs mod_latches mod_outputs mod_explored _ v17 hv17) (cwV 0 hts (sx_gV tw_712 tw_714 tw_23 tw_41 tcMod_choices) rfl rfl rfl (by decide +kernel) ⟨Nat.le_of_ble_eq_true rfl, Nat.le_of_ble_eq_true rfl⟩) (sx_pV hK hX hS hPc hDc hFc (va_recv hK hPc (ci := 5) (q0 := 0) rfl rfl)) rfl rfl hl.1 rfl (lv_room (Nat.le_of_ble_eq_true rfl)) dMod_count_188 ⟨Nat.le_of_ble_eq_true rfl, Nat.le_of_ble_eq_true rfl⟩) ?_
    refine lv_icmp_ge (tgt := 227) hx hb dMod_count_191 (by decide) (fun c19 => ?_) (fun c19 => ?_)
    · have hm := sx_pos c19 hm
      obtain rfl := Option.some.inj hm
      exact k1 _ (lv_sub hl [0, 1, 2, 3, 4, 5, 6] rfl)
    · have hm := sx_neg c19 hm
      refine lv_aload_n hx hb dMod_count_194 rfl (lv_at hl 0 rfl) ?_
      refine va_get (D := (dC, dI)) (ci := 5) (v := .ref a_mod_settles) (C := RMod) (T := TMod) (N := 21) hx hb hts inMod hown hK hP 0 rfl rfl 15 (by decide) (hts _ tw_626) (fun _ h9 => h9) rfl dMod_count_195 ?_
      refine lv_bipush (v := (16 : Int32)) hx hb dMod_count_198 (by decide) ?_
      refine lv_iload hx hb dMod_count_200 (lv_at hl 6 rfl) ?_
      refine lv_imul hx hb dMod_count_202 ?_
      refine lv_iload hx hb dMod_count_203 (lv_at hl 7 rfl) ?_
      refine lv_iadd hx hb dMod_count_205 ?_
      obtain ⟨g20, hm⟩ := gd_el hm
      refine va_zald hx hb hK hP 1 2 rfl rfl g20 dMod_count_206 ?_
      refine lv_if_eq (tgt := 215) hx hb dMod_count_207 (by decide) (fun c21 => ?_) (fun c21 => ?_)
      · have hm := sx_pos c21 hm
        refine lv_iload hx hb dMod_count_215 (lv_at hl 5 rfl) ?_
        refine lv_iconst (v := (1 : Int32)) hx hb dMod_count_217 (by decide) ?_
        refine lv_iadd hx hb dMod_count_218 ?_
        refine lv_istore (lv' := [(5, .int (x5 + (1 : Int32))), (0, .ref h_mod), (1, .int x1), (2, .int x2), (3, .int x3), (4, .int x4), (6, .int x6), (7, .int x7)]) hx hb dMod_count_219 hl (by decide) rfl (fun ls hl => ?_)
        refine lv_iinc (v := x7 + (1 : Int32)) (lv' := [(7, .int (x7 + (1 : Int32))), (5, .int (x5 + (1 : Int32))), (0, .ref h_mod), (1, .int x1), (2, .int x2), (3, .int x3), (4, .int x4), (6, .int x6)]) hx hb dMod_count_221 hl (k := 7) rfl rfl (by decide) rfl (fun ls hl => ?_)
        refine lv_goto (tgt := 185) hx hb dMod_count_224 (by decide) ?_
        exact ih (x5 + (1 : Int32)) (x7 + (1 : Int32)) r hm _ (lv_sub hl [2, 3, 4, 5, 6, 1, 7, 0] rfl) k1
      · have hm := sx_neg c21 hm
        refine lv_iload hx hb dMod_count_210 (lv_at hl 5 rfl) ?_
        refine lv_goto (tgt := 219) hx hb dMod_count_212 (by decide) ?_
        refine lv_istore (lv' := [(5, .int x5), (0, .ref h_mod), (1, .int x1), (2, .int x2), (3, .int x3), (4, .int x4), (6, .int x6), (7, .int x7)]) hx hb dMod_count_219 hl (by decide) rfl (fun ls hl => ?_)
        refine lv_iinc (v := x7 + (1 : Int32)) (lv' := [(7, .int (x7 + (1 : Int32))), (5, .int x5), (0, .ref h_mod), (1, .int x1), (2, .int x2), (3, .int x3), (4, .int x4), (6, .int x6)]) hx hb dMod_count_221 hl (k := 7) rfl rfl (by decide) rfl (fun ls hl => ?_)
        refine lv_goto (tgt := 185) hx hb dMod_count_224 (by decide) ?_
        exact ih x5 (x7 + (1 : Int32)) r hm _ (lv_sub hl [2, 3, 4, 5, 6, 1, 7, 0] rfl) k1
set_option maxHeartbeats 4000000 in
set_option maxRecDepth 100000 in
theorem w_Mod_count_112 {p : Program} {l : Launch} {e : Env} {s : State} {m : MethodId} {args : Array Value} {below : List Frame} {meth : Method} {c : Code} {dC : Nat → ClassId} {dI : Nat → Nat → Nat} {cI cL cZ : ClassId} {A : Nat → Prop} {Q : State → Prop} {t1 t2 : Nat} (C0 : sx_C p s m args meth c cMod_count 8 "StateExplorerModel" A (dC, dI) [(cI, .int), (cL, .long), (cZ, .boolean)] t1 t2) (h_mod a_mod_sort a_mod_number a_mod_value a_mod_made a_mod_to a_mod_from a_mod_outputOf a_mod_negated a_mod_settles a_mod_next a_mod_ones a_mod_distance a_mod_apart a_mod_leads : Nat) (mod_code mod_gates mod_feeds mod_inputs mod_latches mod_outputs mod_explored : Int32) (mod_settles mod_distance mod_apart : Nat → Int32) (x1 : Int32) {H : Heap} {locs : List Loc} (hP : va_P (dC, dI) vwCl [(h_mod, .inr (5, [.int mod_code, .int mod_gates, .int mod_feeds, .int mod_inputs, .int mod_latches, .int mod_outputs, .ref a_mod_sort, .ref a_mod_number, .ref a_mod_value, .ref a_mod_made, .ref a_mod_to, .ref a_mod_from, .ref a_mod_outputOf, .ref a_mod_negated, .int mod_explored, .ref a_mod_settles, .ref a_mod_next, .ref a_mod_ones, .ref a_mod_distance, .ref a_mod_apart, .ref a_mod_leads])), (a_mod_settles, .inl (cZ, 4096, .inl mod_settles)), (a_mod_distance, .inl (cI, 256, .inl mod_distance)), (a_mod_apart, .inl (cZ, 65536, .inl mod_apart))] H) (hD : va_D A [(h_mod, .inr (5, [.int mod_code, .int mod_gates, .int mod_feeds, .int mod_inputs, .int mod_latches, .int mod_outputs, .ref a_mod_sort, .ref a_mod_number, .ref a_mod_value, .ref a_mod_made, .ref a_mod_to, .ref a_mod_from, .ref a_mod_outputOf, .ref a_mod_negated, .int mod_explored, .ref a_mod_settles, .ref a_mod_next, .ref a_mod_ones, .ref a_mod_distance, .ref a_mod_apart, .ref a_mod_leads])), (a_mod_settles, .inl (cZ, 4096, .inl mod_settles)), (a_mod_distance, .inl (cI, 256, .inl mod_distance)), (a_mod_apart, .inl (cZ, 65536, .inl mod_apart))]) (hS : va_S A s.heap H locs) :
    ∀ (n : Nat) (x2 : Int32) (x3 : Int32) (x4 : Int32) (x5 : Int32) (x6 : Int32)  (r : Int32 × Int32 × Int32 × Int32), L_Mod_count_112 mod_inputs mod_latches mod_settles mod_distance mod_apart n x2 x3 x4 x5 x6 = some r → ∀ (ls : Array Slot), lv_has ls 8 [(0, .ref h_mod), (1, .int x1), (2, .int x2), (3, .int x3), (4, .int x4), (5, .int x5), (6, .int x6)] →
    (∀ (ls : Array Slot), lv_has ls 8 [(1, .int x1), (2, .int r.1), (3, .int r.2.1), (4, .int r.2.2.1), (5, .int r.2.2.2)] → W p l e (headSpec wsMod_count rm_Mod_count).room s m args below meth c H locs 0 0 Q (F0 m 233 ls [])) →
    W p l e (headSpec wsMod_count rm_Mod_count).room s m args below meth c H locs 0 0 Q (F0 m 112 ls []) := by
  obtain ⟨hx, hb, hml, hown, hts, hA, hK, hlocks, hX⟩ := id C0
  intro n
  induction n with
  | zero => intro x2 x3 x4 x5 x6 r hm; rw [L_Mod_count_112] at hm; cases hm
  | succ n ih =>
    intro x2 x3 x4 x5 x6 r hm ls hl k1
    rw [L_Mod_count_112] at hm
    refine lv_iload hx hb dMod_count_112 (lv_at hl 6 rfl) ?_
    refine lv_aload_n hx hb dMod_count_114 rfl (lv_at hl 0 rfl) ?_
    obtain ⟨v7, hv7, hm⟩ := sx_bind hm
    have hPc := hP.sub (ws' := [(h_mod, .inr (5, [.int mod_code, .int mod_gates, .int mod_feeds, .int mod_inputs, .int mod_latches, .int mod_outputs, .ref a_mod_sort, .ref a_mod_number, .ref a_mod_value, .ref a_mod_made, .ref a_mod_to, .ref a_mod_from, .ref a_mod_outputOf, .ref a_mod_negated, .int mod_explored, .ref a_mod_settles, .ref a_mod_next, .ref a_mod_ones, .ref a_mod_distance, .ref a_mod_apart, .ref a_mod_leads]))]) [0] rfl
    have hDc := hD.sub (ws' := [(h_mod, .inr (5, [.int mod_code, .int mod_gates, .int mod_feeds, .int mod_inputs, .int mod_latches, .int mod_outputs, .ref a_mod_sort, .ref a_mod_number, .ref a_mod_value, .ref a_mod_made, .ref a_mod_to, .ref a_mod_from, .ref a_mod_outputOf, .ref a_mod_negated, .int mod_explored, .ref a_mod_settles, .ref a_mod_next, .ref a_mod_ones, .ref a_mod_distance, .ref a_mod_apart, .ref a_mod_leads]))]) [0] (by decide) rfl
    have hFc := va_free (wc := [(h_mod, .inr (5, [.int mod_code, .int mod_gates, .int mod_feeds, .int mod_inputs, .int mod_latches, .int mod_outputs, .ref a_mod_sort, .ref a_mod_number, .ref a_mod_value, .ref a_mod_made, .ref a_mod_to, .ref a_mod_from, .ref a_mod_outputOf, .ref a_mod_negated, .int mod_explored, .ref a_mod_settles, .ref a_mod_next, .ref a_mod_ones, .ref a_mod_distance, .ref a_mod_apart, .ref a_mod_leads]))]) hD hS hA [0] rfl
    refine sx_stI (va_runV (As := []) (rest := [.int x6]) ⟨hx, hb, hml, hown, hts⟩ (k_Mod_states l dC dI cI cL cZ t1 t2 h_mod a_mod_sort a_mod_number a_mod_value a_mod_made a_mod_to a_mod_from a_mod_outputOf a_mod_negated a_mod_settles a_mod_next a_mod_ones a_mod_distance a_mod_apart a_mod_leads mod_code mod_gates mod_feeds mod_inputs mod_latches mod_outputs mod_explored _ v7 hv7) (cwV 0 hts (sx_gV tw_708 tw_710 tw_22 tw_41 tcMod_states) rfl rfl rfl (by decide +kernel) ⟨Nat.le_of_ble_eq_true rfl, Nat.le_of_ble_eq_true rfl⟩) (sx_pV hK hX hS hPc hDc hFc (va_recv hK hPc (ci := 5) (q0 := 0) rfl rfl)) rfl rfl hl.1 rfl (lv_room (Nat.le_of_ble_eq_true rfl)) dMod_count_115 ⟨Nat.le_of_ble_eq_true rfl, Nat.le_of_ble_eq_true rfl⟩) ?_
    refine lv_icmp_ge (tgt := 233) hx hb dMod_count_118 (by decide) (fun c9 => ?_) (fun c9 => ?_)
    · have hm := sx_pos c9 hm
      obtain rfl := Option.some.inj hm
      exact k1 _ (lv_sub hl [1, 2, 3, 4, 5] rfl)
    · have hm := sx_neg c9 hm
      refine lv_aload_n hx hb dMod_count_121 rfl (lv_at hl 0 rfl) ?_
      refine va_get (D := (dC, dI)) (ci := 5) (v := .ref a_mod_distance) (C := RMod) (T := TMod) (N := 21) hx hb hts inMod hown hK hP 0 rfl rfl 18 (by decide) (hts _ tw_629) (fun _ h9 => h9) rfl dMod_count_122 ?_
      refine lv_iload hx hb dMod_count_125 (lv_at hl 6 rfl) ?_
      obtain ⟨g10, hm⟩ := gd_el hm
      refine va_iald hx hb hK hP 2 0 rfl rfl g10 dMod_count_127 ?_
      refine lv_if_ge (tgt := 134) hx hb dMod_count_128 (by decide) (fun c11 => ?_) (fun c11 => ?_)
      · have hm := sx_pos c11 hm
        refine lv_iinc (v := x2 + (1 : Int32)) (lv' := [(2, .int (x2 + (1 : Int32))), (0, .ref h_mod), (1, .int x1), (3, .int x3), (4, .int x4), (5, .int x5), (6, .int x6)]) hx hb dMod_count_134 hl (k := 2) rfl rfl (by decide) rfl (fun ls hl => ?_)
        refine lv_aload_n hx hb dMod_count_137 rfl (lv_at hl 1 rfl) ?_
        refine va_get (D := (dC, dI)) (ci := 5) (v := .ref a_mod_distance) (C := RMod) (T := TMod) (N := 21) hx hb hts inMod hown hK hP 0 rfl rfl 18 (by decide) (hts _ tw_629) (fun _ h9 => h9) rfl dMod_count_138 ?_
        refine lv_iload hx hb dMod_count_141 (lv_at hl 6 rfl) ?_
        obtain ⟨g12, hm⟩ := gd_el hm
        refine va_iald hx hb hK hP 2 0 rfl rfl g12 dMod_count_143 ?_
        refine lv_iload_n hx hb dMod_count_144 rfl (lv_at hl 3 rfl) ?_
        obtain ⟨J13, hJ13, hm⟩ := sx_lj hm
        have jJ13 : ∀ (z0J13 : Int32), J13 z0J13 = some r → ∀ (ls : Array Slot), lv_has ls 8 [(0, .ref h_mod), (1, .int x1), (2, .int (x2 + (1 : Int32))), (4, .int x4), (5, .int x5), (6, .int x6)] → W p l e (headSpec wsMod_count rm_Mod_count).room s m args below meth c H locs 0 0 Q (F0 m 159 ls [.int z0J13]) := by
          intro z0J13 hm ls hl
          rw [hJ13] at hm
          dsimp only at hm
          refine lv_istore_n (lv' := [(3, .int z0J13), (0, .ref h_mod), (1, .int x1), (2, .int (x2 + (1 : Int32))), (4, .int x4), (5, .int x5), (6, .int x6)]) hx hb dMod_count_159 rfl hl (by decide) rfl (fun ls hl => ?_)
          refine lv_aload_n hx hb dMod_count_160 rfl (lv_at hl 1 rfl) ?_
          refine lv_iload hx hb dMod_count_161 (lv_at hl 6 rfl) ?_
          obtain ⟨v14, hv14, hm⟩ := sx_bind hm
          have hPc := hP.sub (ws' := [(h_mod, .inr (5, [.int mod_code, .int mod_gates, .int mod_feeds, .int mod_inputs, .int mod_latches, .int mod_outputs, .ref a_mod_sort, .ref a_mod_number, .ref a_mod_value, .ref a_mod_made, .ref a_mod_to, .ref a_mod_from, .ref a_mod_outputOf, .ref a_mod_negated, .int mod_explored, .ref a_mod_settles, .ref a_mod_next, .ref a_mod_ones, .ref a_mod_distance, .ref a_mod_apart, .ref a_mod_leads])), (a_mod_distance, .inl (cI, 256, .inl mod_distance)), (a_mod_apart, .inl (cZ, 65536, .inl mod_apart))]) [0, 2, 3] rfl
          have hDc := hD.sub (ws' := [(h_mod, .inr (5, [.int mod_code, .int mod_gates, .int mod_feeds, .int mod_inputs, .int mod_latches, .int mod_outputs, .ref a_mod_sort, .ref a_mod_number, .ref a_mod_value, .ref a_mod_made, .ref a_mod_to, .ref a_mod_from, .ref a_mod_outputOf, .ref a_mod_negated, .int mod_explored, .ref a_mod_settles, .ref a_mod_next, .ref a_mod_ones, .ref a_mod_distance, .ref a_mod_apart, .ref a_mod_leads])), (a_mod_distance, .inl (cI, 256, .inl mod_distance)), (a_mod_apart, .inl (cZ, 65536, .inl mod_apart))]) [0, 2, 3] (by decide) rfl
          have hFc := va_free (wc := [(h_mod, .inr (5, [.int mod_code, .int mod_gates, .int mod_feeds, .int mod_inputs, .int mod_latches, .int mod_outputs, .ref a_mod_sort, .ref a_mod_number, .ref a_mod_value, .ref a_mod_made, .ref a_mod_to, .ref a_mod_from, .ref a_mod_outputOf, .ref a_mod_negated, .int mod_explored, .ref a_mod_settles, .ref a_mod_next, .ref a_mod_ones, .ref a_mod_distance, .ref a_mod_apart, .ref a_mod_leads])), (a_mod_distance, .inl (cI, 256, .inl mod_distance)), (a_mod_apart, .inl (cZ, 65536, .inl mod_apart))]) hD hS hA [0, 2, 3] rfl
          refine sx_stI (va_runV (As := [.int x6]) (rest := []) ⟨hx, hb, hml, hown, hts⟩ (k_Mod_least l dC dI cI cL cZ t1 t2 h_mod a_mod_sort a_mod_number a_mod_value a_mod_made a_mod_to a_mod_from a_mod_outputOf a_mod_negated a_mod_settles a_mod_next a_mod_ones a_mod_distance a_mod_apart a_mod_leads mod_code mod_gates mod_feeds mod_inputs mod_latches mod_outputs mod_explored mod_distance mod_apart _ x6 v14 hv14) (cwV 1 hts (sx_gV tw_788 tw_790 tw_34 tw_41 tcMod_least) rfl rfl rfl (by decide +kernel) ⟨Nat.le_of_ble_eq_true rfl, Nat.le_of_ble_eq_true rfl⟩) (sx_pV hK hX hS hPc hDc hFc (va_recv hK hPc (ci := 5) (q0 := 0) rfl rfl)) rfl rfl hl.1 rfl (lv_room (Nat.le_of_ble_eq_true rfl)) dMod_count_163 ⟨Nat.le_of_ble_eq_true rfl, Nat.le_of_ble_eq_true rfl⟩) ?_
          refine lv_iload hx hb dMod_count_166 (lv_at hl 6 rfl) ?_
          obtain ⟨J16, hJ16, hm⟩ := sx_lj hm
          have jJ16 : ∀ (z0J16 : Int32), J16 z0J16 = some r → ∀ (ls : Array Slot), lv_has ls 8 [(0, .ref h_mod), (1, .int x1), (2, .int (x2 + (1 : Int32))), (3, .int z0J13), (5, .int x5), (6, .int x6)] → W p l e (headSpec wsMod_count rm_Mod_count).room s m args below meth c H locs 0 0 Q (F0 m 180 ls [.int z0J16]) := by
            intro z0J16 hm ls hl
            rw [hJ16] at hm
            dsimp only at hm
            refine lv_istore (lv' := [(4, .int z0J16), (0, .ref h_mod), (1, .int x1), (2, .int (x2 + (1 : Int32))), (3, .int z0J13), (5, .int x5), (6, .int x6)]) hx hb dMod_count_180 hl (by decide) rfl (fun ls hl => ?_)
            refine lv_iconst (v := (0 : Int32)) hx hb dMod_count_182 (by decide) ?_
            refine lv_istore (lv' := [(7, .int (0 : Int32)), (4, .int z0J16), (0, .ref h_mod), (1, .int x1), (2, .int (x2 + (1 : Int32))), (3, .int z0J13), (5, .int x5), (6, .int x6)]) hx hb dMod_count_183 hl (by decide) rfl (fun ls hl => ?_)
            obtain ⟨v22, hv22, hm⟩ := sx_bind hm
            refine w_Mod_count_185 C0 h_mod a_mod_sort a_mod_number a_mod_value a_mod_made a_mod_to a_mod_from a_mod_outputOf a_mod_negated a_mod_settles a_mod_next a_mod_ones a_mod_distance a_mod_apart a_mod_leads mod_code mod_gates mod_feeds mod_inputs mod_latches mod_outputs mod_explored mod_settles mod_distance mod_apart x1 (x2 + (1 : Int32)) z0J13 z0J16 x6 hP hD hS _ x5 (0 : Int32) v22 hv22 _ (lv_sub hl [2, 3, 4, 5, 1, 6, 7, 0] rfl) ?_
            intro ls hl
            refine lv_iinc (v := x6 + (1 : Int32)) (lv' := [(6, .int (x6 + (1 : Int32))), (0, .ref h_mod), (1, .int x1), (2, .int (x2 + (1 : Int32))), (3, .int z0J13), (4, .int z0J16), (5, .int v22)]) hx hb dMod_count_227 hl (k := 6) rfl rfl (by decide) rfl (fun ls hl => ?_)
            refine lv_goto (tgt := 112) hx hb dMod_count_230 (by decide) ?_
            exact ih (x2 + (1 : Int32)) z0J13 z0J16 v22 (x6 + (1 : Int32)) r hm _ (lv_sub hl [1, 2, 3, 4, 5, 6, 0] rfl) k1
          refine lv_icmp_ne (tgt := 178) hx hb dMod_count_168 (by decide) (fun c23 => ?_) (fun c23 => ?_)
          · have hm := sx_neg c23 hm
            refine lv_iload hx hb dMod_count_178 (lv_at hl 4 rfl) ?_
            exact jJ16 x4 hm _ (lv_sub hl [1, 2, 3, 0, 5, 6] rfl)
          · have hm := sx_pos c23 hm
            refine lv_iload hx hb dMod_count_171 (lv_at hl 4 rfl) ?_
            refine lv_iconst (v := (1 : Int32)) hx hb dMod_count_173 (by decide) ?_
            refine lv_iadd hx hb dMod_count_174 ?_
            refine lv_goto (tgt := 180) hx hb dMod_count_175 (by decide) ?_
            exact jJ16 (x4 + (1 : Int32)) hm _ (lv_sub hl [1, 2, 3, 0, 5, 6] rfl)
        refine lv_icmp_le (tgt := 158) hx hb dMod_count_145 (by decide) (fun c24 => ?_) (fun c24 => ?_)
        · have hm := sx_pos c24 hm
          refine lv_iload_n hx hb dMod_count_158 rfl (lv_at hl 3 rfl) ?_
          exact jJ13 x3 hm _ (lv_sub hl [1, 2, 0, 4, 5, 6] rfl)
        · have hm := sx_neg c24 hm
          refine lv_aload_n hx hb dMod_count_148 rfl (lv_at hl 1 rfl) ?_
          refine va_get (D := (dC, dI)) (ci := 5) (v := .ref a_mod_distance) (C := RMod) (T := TMod) (N := 21) hx hb hts inMod hown hK hP 0 rfl rfl 18 (by decide) (hts _ tw_629) (fun _ h9 => h9) rfl dMod_count_149 ?_
          refine lv_iload hx hb dMod_count_152 (lv_at hl 6 rfl) ?_
          obtain ⟨g25, hm⟩ := gd_el hm
          refine va_iald hx hb hK hP 2 0 rfl rfl g25 dMod_count_154 ?_
          refine lv_goto (tgt := 159) hx hb dMod_count_155 (by decide) ?_
          exact jJ13 (mod_distance x6.toNatClampNeg) hm _ (lv_sub hl [1, 2, 0, 4, 5, 6] rfl)
      · have hm := sx_neg c11 hm
        refine lv_goto (tgt := 227) hx hb dMod_count_131 (by decide) ?_
        refine lv_iinc (v := x6 + (1 : Int32)) (lv' := [(6, .int (x6 + (1 : Int32))), (0, .ref h_mod), (1, .int x1), (2, .int x2), (3, .int x3), (4, .int x4), (5, .int x5)]) hx hb dMod_count_227 hl (k := 6) rfl rfl (by decide) rfl (fun ls hl => ?_)
        refine lv_goto (tgt := 112) hx hb dMod_count_230 (by decide) ?_
        exact ih x2 x3 x4 x5 (x6 + (1 : Int32)) r hm _ (lv_sub hl [1, 2, 3, 4, 5, 6, 0] rfl) k1
set_option maxHeartbeats 4000000 in
set_option maxRecDepth 100000 in
theorem k_Mod_count (l : Launch) (dC : Nat → ClassId) (dI : Nat → Nat → Nat) (cI cL cZ : ClassId) (t1 t2 : Nat) (h_mod a_mod_sort a_mod_number a_mod_value a_mod_made a_mod_to a_mod_from a_mod_outputOf a_mod_negated a_mod_settles a_mod_next a_mod_ones a_mod_distance a_mod_apart a_mod_leads : Nat) (mod_code mod_gates mod_feeds mod_inputs mod_latches mod_outputs mod_explored : Int32) (mod_settles mod_distance mod_apart : Nat → Int32) (sz : Nat) (p0 : Int32) (v : Int32 × Int32) (hm : m_Mod_count mod_code mod_gates mod_feeds mod_inputs mod_latches mod_outputs mod_explored mod_settles mod_distance mod_apart p0 = some v) : Met l yMod_count wsMod_count rm_Mod_count (sx_Pc (dC, dI) [(cI, .int), (cL, .long), (cZ, .boolean)] t1 t2 [(h_mod, .inr (5, [.int mod_code, .int mod_gates, .int mod_feeds, .int mod_inputs, .int mod_latches, .int mod_outputs, .ref a_mod_sort, .ref a_mod_number, .ref a_mod_value, .ref a_mod_made, .ref a_mod_to, .ref a_mod_from, .ref a_mod_outputOf, .ref a_mod_negated, .int mod_explored, .ref a_mod_settles, .ref a_mod_next, .ref a_mod_ones, .ref a_mod_distance, .ref a_mod_apart, .ref a_mod_leads])), (a_mod_settles, .inl (cZ, 4096, .inl mod_settles)), (a_mod_distance, .inl (cI, 256, .inl mod_distance)), (a_mod_apart, .inl (cZ, 65536, .inl mod_apart))] sz [.ref h_mod, .int p0]) (va_Qi (fun (r : Int32) (_ : Unit) => r = v.1) (fun _ t => sx_W (dC, dI) [(cI, .int), (cL, .long), (cZ, .boolean)] (va_A [(h_mod, .inr (5, [.int mod_code, .int mod_gates, .int mod_feeds, .int mod_inputs, .int mod_latches, .int mod_outputs, .ref a_mod_sort, .ref a_mod_number, .ref a_mod_value, .ref a_mod_made, .ref a_mod_to, .ref a_mod_from, .ref a_mod_outputOf, .ref a_mod_negated, .int mod_explored, .ref a_mod_settles, .ref a_mod_next, .ref a_mod_ones, .ref a_mod_distance, .ref a_mod_apart, .ref a_mod_leads])), (a_mod_settles, .inl (cZ, 4096, .inl mod_settles)), (a_mod_distance, .inl (cI, 256, .inl mod_distance)), (a_mod_apart, .inl (cZ, 65536, .inl mod_apart))] sz) [(h_mod, .inr (5, [.int v.2, .int mod_gates, .int mod_feeds, .int mod_inputs, .int mod_latches, .int mod_outputs, .ref a_mod_sort, .ref a_mod_number, .ref a_mod_value, .ref a_mod_made, .ref a_mod_to, .ref a_mod_from, .ref a_mod_outputOf, .ref a_mod_negated, .int mod_explored, .ref a_mod_settles, .ref a_mod_next, .ref a_mod_ones, .ref a_mod_distance, .ref a_mod_apart, .ref a_mod_leads])), (a_mod_settles, .inl (cZ, 4096, .inl mod_settles)), (a_mod_distance, .inl (cI, 256, .inl mod_distance)), (a_mod_apart, .inl (cZ, 65536, .inl mod_apart))] t) (va_A [(h_mod, .inr (5, [.int mod_code, .int mod_gates, .int mod_feeds, .int mod_inputs, .int mod_latches, .int mod_outputs, .ref a_mod_sort, .ref a_mod_number, .ref a_mod_value, .ref a_mod_made, .ref a_mod_to, .ref a_mod_from, .ref a_mod_outputOf, .ref a_mod_negated, .int mod_explored, .ref a_mod_settles, .ref a_mod_next, .ref a_mod_ones, .ref a_mod_distance, .ref a_mod_apart, .ref a_mod_leads])), (a_mod_settles, .inl (cZ, 4096, .inl mod_settles)), (a_mod_distance, .inl (cI, 256, .inl mod_distance)), (a_mod_apart, .inl (cZ, 65536, .inl mod_apart))] sz)) 0 0 (va_A [(h_mod, .inr (5, [.int mod_code, .int mod_gates, .int mod_feeds, .int mod_inputs, .int mod_latches, .int mod_outputs, .ref a_mod_sort, .ref a_mod_number, .ref a_mod_value, .ref a_mod_made, .ref a_mod_to, .ref a_mod_from, .ref a_mod_outputOf, .ref a_mod_negated, .int mod_explored, .ref a_mod_settles, .ref a_mod_next, .ref a_mod_ones, .ref a_mod_distance, .ref a_mod_apart, .ref a_mod_leads])), (a_mod_settles, .inl (cZ, 4096, .inl mod_settles)), (a_mod_distance, .inl (cI, 256, .inl mod_distance)), (a_mod_apart, .inl (cZ, 65536, .inl mod_apart))] sz) := by
  refine Met.ofW (cc := cMod_count) (maxL := 8) (ret := (some .int)) (by decide) rfl ?_
  intro p e s m args below meth c s₁ B hml hv
  obtain ⟨rfl, hsz, hP, hK, hD0, hX⟩ := hv
  have hx := B.exec
  have hb := B.bytes
  have hr := B.returns
  have hts0 := atoms_spec (ws := wsMod_count) B.pre
  have hts : ∀ w ∈ tb, w.before _ s = true := fun w h => hts0 w (List.mem_cons_of_mem _ h)
  have hown : s.vm.findClass "StateExplorerModel" = some m.cls := findClass_of_methodNamed B.named
  have hlocks := B.notSynchronized
  subst hsz
  have hD := hD0.self (sz := s.heap.size)
  generalize hAe : va_A [(h_mod, .inr (5, [.int mod_code, .int mod_gates, .int mod_feeds, .int mod_inputs, .int mod_latches, .int mod_outputs, .ref a_mod_sort, .ref a_mod_number, .ref a_mod_value, .ref a_mod_made, .ref a_mod_to, .ref a_mod_from, .ref a_mod_outputOf, .ref a_mod_negated, .int mod_explored, .ref a_mod_settles, .ref a_mod_next, .ref a_mod_ones, .ref a_mod_distance, .ref a_mod_apart, .ref a_mod_leads])), (a_mod_settles, .inl (cZ, 4096, .inl mod_settles)), (a_mod_distance, .inl (cI, 256, .inl mod_distance)), (a_mod_apart, .inl (cZ, 65536, .inl mod_apart))] s.heap.size = A at hD hX ⊢
  have hA : ∀ q : Nat, s.heap.size ≤ q → A q := fun q h => by rw [← hAe]; exact Or.inr h
  have hS : va_S A s.heap s.heap [] := va_S.rf
  have hl := lv_entry ([.ref h_mod, .int p0]) (n := 8) (Nat.le_of_ble_eq_true rfl)
  rw [lg_entry_eq]
  generalize (lg_sl ([.ref h_mod, .int p0]) ++ List.replicate (8 - (lg_sl ([.ref h_mod, .int p0])).length) Slot.unset).toArray = ls at hl ⊢
  have hl : lv_has ls 8 [(0, .ref h_mod), (1, .int p0)] := hl
  have C0 : sx_C p s m _ meth c cMod_count 8 "StateExplorerModel" A (dC, dI) [(cI, .int), (cL, .long), (cZ, .boolean)] t1 t2 := ⟨hx, hb, hml, hown, hts, hA, hK, hlocks, hX⟩
  rw [m_Mod_count] at hm
  refine lv_aload_n hx hb dMod_count_0 rfl (lv_at hl 0 rfl) ?_
  refine lv_iconst (v := (0 : Int32)) hx hb dMod_count_1 (by decide) ?_
  refine va_put (D := (dC, dI)) (ci := 5) (v := .int (0 : Int32)) (ty := .int) (C := RMod) (T := TMod) (N := 21) hx hb hts inMod tyMod tyMod_ok nmMod hown hK hP hD hS 0 rfl rfl 0 (by decide) (hts _ tw_611) (fun _ h9 => h9) rfl (by decide +kernel) rfl rfl (Nat.le_of_ble_eq_true rfl) dMod_count_2 (fun H locs hP hD hS => ?_)
  have hP : va_P (dC, dI) vwCl [(h_mod, .inr (5, [.int (0 : Int32), .int mod_gates, .int mod_feeds, .int mod_inputs, .int mod_latches, .int mod_outputs, .ref a_mod_sort, .ref a_mod_number, .ref a_mod_value, .ref a_mod_made, .ref a_mod_to, .ref a_mod_from, .ref a_mod_outputOf, .ref a_mod_negated, .int mod_explored, .ref a_mod_settles, .ref a_mod_next, .ref a_mod_ones, .ref a_mod_distance, .ref a_mod_apart, .ref a_mod_leads])), (a_mod_settles, .inl (cZ, 4096, .inl mod_settles)), (a_mod_distance, .inl (cI, 256, .inl mod_distance)), (a_mod_apart, .inl (cZ, 65536, .inl mod_apart))] H := hP
  have hD : va_D A [(h_mod, .inr (5, [.int (0 : Int32), .int mod_gates, .int mod_feeds, .int mod_inputs, .int mod_latches, .int mod_outputs, .ref a_mod_sort, .ref a_mod_number, .ref a_mod_value, .ref a_mod_made, .ref a_mod_to, .ref a_mod_from, .ref a_mod_outputOf, .ref a_mod_negated, .int mod_explored, .ref a_mod_settles, .ref a_mod_next, .ref a_mod_ones, .ref a_mod_distance, .ref a_mod_apart, .ref a_mod_leads])), (a_mod_settles, .inl (cZ, 4096, .inl mod_settles)), (a_mod_distance, .inl (cI, 256, .inl mod_distance)), (a_mod_apart, .inl (cZ, 65536, .inl mod_apart))] := hD
  refine lv_iload_n hx hb dMod_count_5 rfl (lv_at hl 1 rfl) ?_
  refine lv_if_lt (tgt := 15) hx hb dMod_count_6 (by decide) (fun c1 => ?_) (fun c1 => ?_)
  · have hm := sx_pos c1 hm
    refine lv_iconst (v := (-1 : Int32)) hx hb dMod_count_15 (by decide) ?_
    obtain rfl := Option.some.inj hm
    exact W.iret (v := (-1 : Int32)) hx hb hr (fun t ht hW => ⟨⟨(-1 : Int32), (), rfl, rfl, sx_Wi hP hK hD ht hW.alike⟩, hS.F ht⟩) hS.2.2 dMod_count_16
  · have hm := sx_neg c1 hm
    refine lv_iload_n hx hb dMod_count_9 rfl (lv_at hl 1 rfl) ?_
    refine lv_bipush (v := (9 : Int32)) hx hb dMod_count_10 (by decide) ?_
    refine lv_icmp_le (tgt := 17) hx hb dMod_count_12 (by decide) (fun c2 => ?_) (fun c2 => ?_)
    · have hm := sx_pos c2 hm
      refine lv_iload_n hx hb dMod_count_17 rfl (lv_at hl 1 rfl) ?_
      refine lv_iconst (v := (5 : Int32)) hx hb dMod_count_18 (by decide) ?_
      refine lv_icmp_ge (tgt := 74) hx hb dMod_count_19 (by decide) (fun c3 => ?_) (fun c3 => ?_)
      · have hm := sx_pos c3 hm
        refine lv_iload_n hx hb dMod_count_74 rfl (lv_at hl 1 rfl) ?_
        refine lv_iconst (v := (5 : Int32)) hx hb dMod_count_75 (by decide) ?_
        refine lv_icmp_eq (tgt := 86) hx hb dMod_count_76 (by decide) (fun c4 => ?_) (fun c4 => ?_)
        · have hm := sx_pos c4 hm
          refine lv_aload_n hx hb dMod_count_86 rfl (lv_at hl 0 rfl) ?_
          refine va_get (D := (dC, dI)) (ci := 5) (v := .int mod_explored) (C := RMod) (T := TMod) (N := 21) hx hb hts inMod hown hK hP 0 rfl rfl 14 (by decide) (hts _ tw_625) (fun _ h9 => h9) rfl dMod_count_87 ?_
          refine lv_if_eq (tgt := 97) hx hb dMod_count_90 (by decide) (fun c5 => ?_) (fun c5 => ?_)
          · have hm := sx_pos c5 hm
            refine lv_iconst (v := (0 : Int32)) hx hb dMod_count_97 (by decide) ?_
            obtain rfl := Option.some.inj hm
            exact W.iret (v := (0 : Int32)) hx hb hr (fun t ht hW => ⟨⟨(0 : Int32), (), rfl, rfl, sx_Wi hP hK hD ht hW.alike⟩, hS.F ht⟩) hS.2.2 dMod_count_98
          · have hm := sx_neg c5 hm
            refine lv_iconst (v := (1 : Int32)) hx hb dMod_count_93 (by decide) ?_
            refine lv_goto (tgt := 98) hx hb dMod_count_94 (by decide) ?_
            obtain rfl := Option.some.inj hm
            exact W.iret (v := (1 : Int32)) hx hb hr (fun t ht hW => ⟨⟨(1 : Int32), (), rfl, rfl, sx_Wi hP hK hD ht hW.alike⟩, hS.F ht⟩) hS.2.2 dMod_count_98
        · have hm := sx_neg c4 hm
          refine lv_aload_n hx hb dMod_count_79 rfl (lv_at hl 0 rfl) ?_
          refine va_get (D := (dC, dI)) (ci := 5) (v := .int mod_explored) (C := RMod) (T := TMod) (N := 21) hx hb hts inMod hown hK hP 0 rfl rfl 14 (by decide) (hts _ tw_625) (fun _ h9 => h9) rfl dMod_count_80 ?_
          refine lv_if_ne (tgt := 99) hx hb dMod_count_83 (by decide) (fun c6 => ?_) (fun c6 => ?_)
          · have hm := sx_neg c6 hm
            refine lv_iconst (v := (0 : Int32)) hx hb dMod_count_99 (by decide) ?_
            refine lv_istore_n (lv' := [(2, .int (0 : Int32)), (0, .ref h_mod), (1, .int p0)]) hx hb dMod_count_100 rfl hl (by decide) rfl (fun ls hl => ?_)
            refine lv_iconst (v := (0 : Int32)) hx hb dMod_count_101 (by decide) ?_
            refine lv_istore_n (lv' := [(3, .int (0 : Int32)), (2, .int (0 : Int32)), (0, .ref h_mod), (1, .int p0)]) hx hb dMod_count_102 rfl hl (by decide) rfl (fun ls hl => ?_)
            refine lv_iconst (v := (0 : Int32)) hx hb dMod_count_103 (by decide) ?_
            refine lv_istore (lv' := [(4, .int (0 : Int32)), (3, .int (0 : Int32)), (2, .int (0 : Int32)), (0, .ref h_mod), (1, .int p0)]) hx hb dMod_count_104 hl (by decide) rfl (fun ls hl => ?_)
            refine lv_iconst (v := (0 : Int32)) hx hb dMod_count_106 (by decide) ?_
            refine lv_istore (lv' := [(5, .int (0 : Int32)), (4, .int (0 : Int32)), (3, .int (0 : Int32)), (2, .int (0 : Int32)), (0, .ref h_mod), (1, .int p0)]) hx hb dMod_count_107 hl (by decide) rfl (fun ls hl => ?_)
            refine lv_iconst (v := (0 : Int32)) hx hb dMod_count_109 (by decide) ?_
            refine lv_istore (lv' := [(6, .int (0 : Int32)), (5, .int (0 : Int32)), (4, .int (0 : Int32)), (3, .int (0 : Int32)), (2, .int (0 : Int32)), (0, .ref h_mod), (1, .int p0)]) hx hb dMod_count_110 hl (by decide) rfl (fun ls hl => ?_)
            obtain ⟨v26, hv26, hm⟩ := sx_bind hm
            refine w_Mod_count_112 C0 h_mod a_mod_sort a_mod_number a_mod_value a_mod_made a_mod_to a_mod_from a_mod_outputOf a_mod_negated a_mod_settles a_mod_next a_mod_ones a_mod_distance a_mod_apart a_mod_leads (0 : Int32) mod_gates mod_feeds mod_inputs mod_latches mod_outputs mod_explored mod_settles mod_distance mod_apart p0 hP hD hS _ (0 : Int32) (0 : Int32) (0 : Int32) (0 : Int32) (0 : Int32) v26 hv26 _ (lv_sub hl [5, 6, 4, 3, 2, 1, 0] rfl) ?_
            intro ls hl
            refine lv_iload_n hx hb dMod_count_233 rfl (lv_at hl 0 rfl) ?_
            refine lv_bipush (v := (6 : Int32)) hx hb dMod_count_234 (by decide) ?_
            refine lv_icmp_ne (tgt := 243) hx hb dMod_count_236 (by decide) (fun c27 => ?_) (fun c27 => ?_)
            · have hm := sx_neg c27 hm
              refine lv_iload_n hx hb dMod_count_243 rfl (lv_at hl 0 rfl) ?_
              refine lv_bipush (v := (7 : Int32)) hx hb dMod_count_244 (by decide) ?_
              refine lv_icmp_ne (tgt := 253) hx hb dMod_count_246 (by decide) (fun c28 => ?_) (fun c28 => ?_)
              · have hm := sx_neg c28 hm
                refine lv_iload_n hx hb dMod_count_253 rfl (lv_at hl 0 rfl) ?_
                refine lv_bipush (v := (8 : Int32)) hx hb dMod_count_254 (by decide) ?_
                refine lv_icmp_ne (tgt := 264) hx hb dMod_count_256 (by decide) (fun c29 => ?_) (fun c29 => ?_)
                · have hm := sx_neg c29 hm
                  refine lv_iload hx hb dMod_count_264 (lv_at hl 4 rfl) ?_
                  obtain rfl := Option.some.inj hm
                  exact W.iret (v := v26.2.2.2) hx hb hr (fun t ht hW => ⟨⟨v26.2.2.2, (), rfl, rfl, sx_Wi hP hK hD ht hW.alike⟩, hS.F ht⟩) hS.2.2 dMod_count_266
                · have hm := sx_pos c29 hm
                  refine lv_iload hx hb dMod_count_259 (lv_at hl 3 rfl) ?_
                  refine lv_goto (tgt := 266) hx hb dMod_count_261 (by decide) ?_
                  obtain rfl := Option.some.inj hm
                  exact W.iret (v := v26.2.2.1) hx hb hr (fun t ht hW => ⟨⟨v26.2.2.1, (), rfl, rfl, sx_Wi hP hK hD ht hW.alike⟩, hS.F ht⟩) hS.2.2 dMod_count_266
              · have hm := sx_pos c28 hm
                refine lv_iload_n hx hb dMod_count_249 rfl (lv_at hl 2 rfl) ?_
                refine lv_goto (tgt := 266) hx hb dMod_count_250 (by decide) ?_
                obtain rfl := Option.some.inj hm
                exact W.iret (v := v26.2.1) hx hb hr (fun t ht hW => ⟨⟨v26.2.1, (), rfl, rfl, sx_Wi hP hK hD ht hW.alike⟩, hS.F ht⟩) hS.2.2 dMod_count_266
            · have hm := sx_pos c27 hm
              refine lv_iload_n hx hb dMod_count_239 rfl (lv_at hl 1 rfl) ?_
              refine lv_goto (tgt := 266) hx hb dMod_count_240 (by decide) ?_
              obtain rfl := Option.some.inj hm
              exact W.iret (v := v26.1) hx hb hr (fun t ht hW => ⟨⟨v26.1, (), rfl, rfl, sx_Wi hP hK hD ht hW.alike⟩, hS.F ht⟩) hS.2.2 dMod_count_266
          · have hm := sx_pos c6 hm
            refine lv_aload_n hx hb dMod_count_86 rfl (lv_at hl 0 rfl) ?_
            refine va_get (D := (dC, dI)) (ci := 5) (v := .int mod_explored) (C := RMod) (T := TMod) (N := 21) hx hb hts inMod hown hK hP 0 rfl rfl 14 (by decide) (hts _ tw_625) (fun _ h9 => h9) rfl dMod_count_87 ?_
            refine lv_if_eq (tgt := 97) hx hb dMod_count_90 (by decide) (fun c30 => ?_) (fun c30 => ?_)
            · have hm := sx_pos c30 hm
              refine lv_iconst (v := (0 : Int32)) hx hb dMod_count_97 (by decide) ?_
              obtain rfl := Option.some.inj hm
              exact W.iret (v := (0 : Int32)) hx hb hr (fun t ht hW => ⟨⟨(0 : Int32), (), rfl, rfl, sx_Wi hP hK hD ht hW.alike⟩, hS.F ht⟩) hS.2.2 dMod_count_98
            · have hm := sx_neg c30 hm
              refine lv_iconst (v := (1 : Int32)) hx hb dMod_count_93 (by decide) ?_
              refine lv_goto (tgt := 98) hx hb dMod_count_94 (by decide) ?_
              obtain rfl := Option.some.inj hm
              exact W.iret (v := (1 : Int32)) hx hb hr (fun t ht hW => ⟨⟨(1 : Int32), (), rfl, rfl, sx_Wi hP hK hD ht hW.alike⟩, hS.F ht⟩) hS.2.2 dMod_count_98
      · have hm := sx_neg c3 hm
        refine lv_iload_n hx hb dMod_count_22 rfl (lv_at hl 1 rfl) ?_
        refine lv_if_ne (tgt := 33) hx hb dMod_count_23 (by decide) (fun c31 => ?_) (fun c31 => ?_)
        · have hm := sx_neg c31 hm
          refine lv_iload_n hx hb dMod_count_33 rfl (lv_at hl 1 rfl) ?_
          refine lv_iconst (v := (1 : Int32)) hx hb dMod_count_34 (by decide) ?_
          refine lv_icmp_ne (tgt := 45) hx hb dMod_count_35 (by decide) (fun c32 => ?_) (fun c32 => ?_)
          · have hm := sx_neg c32 hm
            refine lv_iload_n hx hb dMod_count_45 rfl (lv_at hl 1 rfl) ?_
            refine lv_iconst (v := (2 : Int32)) hx hb dMod_count_46 (by decide) ?_
            refine lv_icmp_ne (tgt := 57) hx hb dMod_count_47 (by decide) (fun c33 => ?_) (fun c33 => ?_)
            · have hm := sx_neg c33 hm
              refine lv_iload_n hx hb dMod_count_57 rfl (lv_at hl 1 rfl) ?_
              refine lv_iconst (v := (3 : Int32)) hx hb dMod_count_58 (by decide) ?_
              refine lv_icmp_ne (tgt := 69) hx hb dMod_count_59 (by decide) (fun c34 => ?_) (fun c34 => ?_)
              · have hm := sx_neg c34 hm
                refine lv_aload_n hx hb dMod_count_69 rfl (lv_at hl 0 rfl) ?_
                refine va_get (D := (dC, dI)) (ci := 5) (v := .int mod_outputs) (C := RMod) (T := TMod) (N := 21) hx hb hts inMod hown hK hP 0 rfl rfl 5 (by decide) (hts _ tw_616) (fun _ h9 => h9) rfl dMod_count_70 ?_
                obtain rfl := Option.some.inj hm
                exact W.iret (v := mod_outputs) hx hb hr (fun t ht hW => ⟨⟨mod_outputs, (), rfl, rfl, sx_Wi hP hK hD ht hW.alike⟩, hS.F ht⟩) hS.2.2 dMod_count_73
              · have hm := sx_pos c34 hm
                refine lv_aload_n hx hb dMod_count_62 rfl (lv_at hl 0 rfl) ?_
                refine va_get (D := (dC, dI)) (ci := 5) (v := .int mod_latches) (C := RMod) (T := TMod) (N := 21) hx hb hts inMod hown hK hP 0 rfl rfl 4 (by decide) (hts _ tw_615) (fun _ h9 => h9) rfl dMod_count_63 ?_
                refine lv_goto (tgt := 73) hx hb dMod_count_66 (by decide) ?_
                obtain rfl := Option.some.inj hm
                exact W.iret (v := mod_latches) hx hb hr (fun t ht hW => ⟨⟨mod_latches, (), rfl, rfl, sx_Wi hP hK hD ht hW.alike⟩, hS.F ht⟩) hS.2.2 dMod_count_73
            · have hm := sx_pos c33 hm
              refine lv_aload_n hx hb dMod_count_50 rfl (lv_at hl 0 rfl) ?_
              refine va_get (D := (dC, dI)) (ci := 5) (v := .int mod_inputs) (C := RMod) (T := TMod) (N := 21) hx hb hts inMod hown hK hP 0 rfl rfl 3 (by decide) (hts _ tw_614) (fun _ h9 => h9) rfl dMod_count_51 ?_
              refine lv_goto (tgt := 73) hx hb dMod_count_54 (by decide) ?_
              obtain rfl := Option.some.inj hm
              exact W.iret (v := mod_inputs) hx hb hr (fun t ht hW => ⟨⟨mod_inputs, (), rfl, rfl, sx_Wi hP hK hD ht hW.alike⟩, hS.F ht⟩) hS.2.2 dMod_count_73
          · have hm := sx_pos c32 hm
            refine lv_aload_n hx hb dMod_count_38 rfl (lv_at hl 0 rfl) ?_
            refine va_get (D := (dC, dI)) (ci := 5) (v := .int mod_feeds) (C := RMod) (T := TMod) (N := 21) hx hb hts inMod hown hK hP 0 rfl rfl 2 (by decide) (hts _ tw_613) (fun _ h9 => h9) rfl dMod_count_39 ?_
            refine lv_goto (tgt := 73) hx hb dMod_count_42 (by decide) ?_
            obtain rfl := Option.some.inj hm
            exact W.iret (v := mod_feeds) hx hb hr (fun t ht hW => ⟨⟨mod_feeds, (), rfl, rfl, sx_Wi hP hK hD ht hW.alike⟩, hS.F ht⟩) hS.2.2 dMod_count_73
        · have hm := sx_pos c31 hm
          refine lv_aload_n hx hb dMod_count_26 rfl (lv_at hl 0 rfl) ?_
          refine va_get (D := (dC, dI)) (ci := 5) (v := .int mod_gates) (C := RMod) (T := TMod) (N := 21) hx hb hts inMod hown hK hP 0 rfl rfl 1 (by decide) (hts _ tw_612) (fun _ h9 => h9) rfl dMod_count_27 ?_
          refine lv_goto (tgt := 73) hx hb dMod_count_30 (by decide) ?_
          obtain rfl := Option.some.inj hm
          exact W.iret (v := mod_gates) hx hb hr (fun t ht hW => ⟨⟨mod_gates, (), rfl, rfl, sx_Wi hP hK hD ht hW.alike⟩, hS.F ht⟩) hS.2.2 dMod_count_73
    · have hm := sx_neg c2 hm
      refine lv_iconst (v := (-1 : Int32)) hx hb dMod_count_15 (by decide) ?_
      obtain rfl := Option.some.inj hm
      exact W.iret (v := (-1 : Int32)) hx hb hr (fun t ht hW => ⟨⟨(-1 : Int32), (), rfl, rfl, sx_Wi hP hK hD ht hW.alike⟩, hS.F ht⟩) hS.2.2 dMod_count_16
