theorem lw_arr {s : State} {args : Array Value} {ty : FieldType} (h : (Cond.arrayClass ty).before args s = true) : ∃ cA : ClassId, ArrOfT s cA ty ∧ s.vm.findClass ("[" ++ ty.toString) = some cA := by
  obtain ⟨c, k, comp, h1, h2, h3⟩ := Cond.arrayClass_spec h
  exact ⟨c, fun n z => ⟨fun k h => (by cases h), k, h2, comp, h3⟩, h1⟩
set_option maxHeartbeats 4000000 in
set_option maxRecDepth 100000 in
theorem whole_start {p : Program} {e : Env} {s : State} {m : MethodId} {below : List Frame} {meth : Method} {c : Code} (l : Launch) {b L : Nat} {xs : Nat → Int32} (hL : L ≤ 4) (C0 : lw_At p s m meth c b L xs) : W p l e room_1 s m #[Value.ref b] below meth c s.heap [] 0 0 (lw_Z below #[Value.ref b] s) (entryFrame m ([Value.ref b] : List Value).toArray 4) := by
  obtain ⟨hx, hb, hr, hml, hown, hts, hX, hbl, hlocks, hgv⟩ := id C0
  have hA : ∀ q : Nat, s.heap.size ≤ q → (fun q : Nat => s.heap.size ≤ q) q := fun _ h => h
  have hN : ai_N s := by
    intro w hw hn
    have h1 := hts w hw
    cases w with
    | fieldLinkNest a i b n d h => exact va_Nw.of rfl h1
    | methodLinkNest a i x h => exact va_Nw.of rfl h1
    | _ => cases hn
  have hk : ∀ k : Nat, ∃ x : ClassId × (Nat → Nat), ∀ q : vw_C, ai_cl[k]? = some q → u_Kn s q.1 q.2.1 q.2.2 x.1 x.2 := by
    intro k
    match k with
    | 0 => obtain ⟨c0, i0, h0⟩ := u_known (C := RX0) (T := TX0) (N := 12) (n := 12) hts (fun w hw => by obtain ⟨ty0, t1, t2, t3⟩ := ai_cls 0 _ rfl; exact (t3 w hw).1) (hts _ (List.mem_of_getElem? (i := 93) (by decide +kernel))); exact ⟨(c0, i0), fun q hq => by cases hq; exact h0⟩
    | 1 => obtain ⟨c0, i0, h0⟩ := u_known (C := RX1) (T := TX1) (N := 2) (n := 2) hts (fun w hw => by obtain ⟨ty0, t1, t2, t3⟩ := ai_cls 1 _ rfl; exact (t3 w hw).1) (hts _ (List.mem_of_getElem? (i := 189) (by decide +kernel))); exact ⟨(c0, i0), fun q hq => by cases hq; exact h0⟩
    | 2 => obtain ⟨c0, i0, h0⟩ := u_known (C := RX2) (T := TX2) (N := 3) (n := 3) hts (fun w hw => by obtain ⟨ty0, t1, t2, t3⟩ := ai_cls 2 _ rfl; exact (t3 w hw).1) (hts _ (List.mem_of_getElem? (i := 202) (by decide +kernel))); exact ⟨(c0, i0), fun q hq => by cases hq; exact h0⟩
    | 3 => obtain ⟨c0, i0, h0⟩ := u_known (C := RX3) (T := TX3) (N := 5) (n := 5) hts (fun w hw => by obtain ⟨ty0, t1, t2, t3⟩ := ai_cls 3 _ rfl; exact (t3 w hw).1) (hts _ (List.mem_of_getElem? (i := 265) (by decide +kernel))); exact ⟨(c0, i0), fun q hq => by cases hq; exact h0⟩
    | 4 => obtain ⟨c0, i0, h0⟩ := u_known (C := RX4) (T := TX4) (N := 7) (n := 7) hts (fun w hw => by obtain ⟨ty0, t1, t2, t3⟩ := ai_cls 4 _ rfl; exact (t3 w hw).1) (hts _ (List.mem_of_getElem? (i := 237) (by decide +kernel))); exact ⟨(c0, i0), fun q hq => by cases hq; exact h0⟩
    | 5 => obtain ⟨c0, i0, h0⟩ := u_known (C := RX5) (T := TX5) (N := 4) (n := 4) hts (fun w hw => by obtain ⟨ty0, t1, t2, t3⟩ := ai_cls 5 _ rfl; exact (t3 w hw).1) (hts _ (List.mem_of_getElem? (i := 218) (by decide +kernel))); exact ⟨(c0, i0), fun q hq => by cases hq; exact h0⟩
    | 6 => obtain ⟨c0, i0, h0⟩ := u_known (C := RX6) (T := TX6) (N := 13) (n := 13) hts (fun w hw => by obtain ⟨ty0, t1, t2, t3⟩ := ai_cls 6 _ rfl; exact (t3 w hw).1) (hts _ (List.mem_of_getElem? (i := 138) (by decide +kernel))); exact ⟨(c0, i0), fun q hq => by cases hq; exact h0⟩
    | 7 => obtain ⟨c0, i0, h0⟩ := u_known (C := RX7) (T := TX7) (N := 9) (n := 9) hts (fun w hw => by obtain ⟨ty0, t1, t2, t3⟩ := ai_cls 7 _ rfl; exact (t3 w hw).1) (hts _ (List.mem_of_getElem? (i := 85) (by decide +kernel))); exact ⟨(c0, i0), fun q hq => by cases hq; exact h0⟩
    | 8 => obtain ⟨c0, i0, h0⟩ := u_known (C := RX8) (T := TX8) (N := 56) (n := 56) hts (fun w hw => by obtain ⟨ty0, t1, t2, t3⟩ := ai_cls 8 _ rfl; exact (t3 w hw).1) (hts _ (List.mem_of_getElem? (i := 784) (by decide +kernel))); exact ⟨(c0, i0), fun q hq => by cases hq; exact h0⟩
    | k + 9 => exact ⟨(0, fun _ => 0), fun q hq => by simp [ai_cl] at hq⟩
  obtain ⟨f, hf⟩ := Classical.axiomOfChoice hk
  obtain ⟨cI, aI, fI⟩ := lw_arr (hts _ ac_wI)
  obtain ⟨cZ, aZ, fZ⟩ := lw_arr (hts _ ac_wZ)
  obtain ⟨D, hDD⟩ : ∃ D : va_G, D = (fun k => (f k).1, fun k => (f k).2) := ⟨_, rfl⟩
  obtain ⟨cA, hcA0, hcA1⟩ : ∃ cA : Bool → ClassId, cA false = cI ∧ cA true = cZ := ⟨fun z => if z = true then cZ else cI, rfl, rfl⟩
  have hK : va_K D ai_cl [(cA false, .int), (cA true, .boolean)] s := by
    refine ⟨fun k q hq => by rw [hDD]; exact hf k q hq, fun k q hq => ?_⟩
    match k, hq with
    | 0, hq => cases hq; rw [hcA0]; exact ⟨aI, fI⟩
    | 1, hq => cases hq; rw [hcA1]; exact ⟨aZ, fZ⟩
    | k + 2, hq => simp at hq
  have hS : va_S (fun q : Nat => s.heap.size ≤ q) s.heap s.heap [] := va_S.rf
  have hP : va_P D ai_cl [] s.heap := fun k q h => by simp at h
  have hD : va_D (fun q : Nat => s.heap.size ≤ q) [] := ⟨fun i j p q h => by simp at h, fun k q h => by simp at h⟩
  have hl := lv_entry ([.ref b]) (n := 4) (Nat.le_of_ble_eq_true rfl)
  rw [lg_entry_eq]
  generalize (lg_sl ([.ref b]) ++ List.replicate (4 - (lg_sl ([.ref b])).length) Slot.unset).toArray = ls at hl ⊢
  have hl : lv_has ls 4 [(0, .ref b)] := hl
  refine ac_new1 (own := R_law) (cA := cA) (ci := 7) (N := 9) (C := RX7) (T := TX7) (df := dfC) (pc := 0) hx hb hown hts lw_in hK hA rfl dd_lC wl_lC.1 wl_lC.2.1 wl_lC.2.2 hP hD hS (by decide +kernel) (by decide +kernel) d_law_0 d_law_3 (fun qC H hP hD hS => ?_)
  refine ac_call1 (own := R_law) (y := yX7_init) (q := qC) (ci := 7) (df := dfC) (rs := []) (rest := [.ref qC]) (ix := 9) (pc := 4) hx hb hml hown hts lw_in hN hK hA (ct_C l D cA) wm_lC.1 wm_lC.2.1 wl_lC.2.2 wm_lC.2.2 rfl wy_lC (by decide +kernel) hl.1 (Nat.le_of_ble_eq_true rfl) hP hD hS (by decide +kernel) (by decide +kernel) d_law_4 (fun u H locs hu hP2 hD2 hS2 => ?_)
  obtain ⟨pC, xC⟩ := u
  obtain ⟨eC, -, gC_⟩ := hu
  have eC : pC 29 = qC := eC
  have gC_ : ab_h gC xC := gC_
  subst eC
  rw [List.nil_append] at hP2 hD2
  (try dsimp only at hP2 hD2)
  refine W.widen (k := 31) (n := 5978) (by decide +kernel) (by decide +kernel) ?_
  refine lv_astore_n (lv' := [(1, .ref (pC 29)), (0, .ref b)]) hx hb d_law_7 rfl hl (by decide) rfl (fun ls hl => ?_)
  refine ac_new1 (own := R_law) (cA := cA) (ci := 8) (N := 56) (C := RX8) (T := TX8) (df := dfM) (ws := ai_ws cA pC shC xC) (pc := 8) hx hb hown hts lw_in hK hA rfl dd_lM wl_lM.1 wl_lM.2.1 wl_lM.2.2 hP2 hD2 hS2 (by decide +kernel) (by decide +kernel) d_law_8 d_law_11 (fun qM H hP hD hS => ?_)
  refine W.widen (k := 32) (n := 6034) (by decide +kernel) (by decide +kernel) ?_
  refine ac_call1 (own := R_law) (y := yX8_init) (q := qM) (ci := 8) (df := dfM) (rs := []) (rest := [.ref qM]) (ix := 12) (pc := 12) hx hb hml hown hts lw_in hN hK hA (ct_M l D cA) wm_lM.1 wm_lM.2.1 wl_lM.2.2 wm_lM.2.2 rfl wy_lM (by decide +kernel) hl.1 (Nat.le_of_ble_eq_true rfl) hP hD hS (by decide +kernel) (by decide +kernel) d_law_12 (fun u H locs hu hP3 hD3 hS3 => ?_)
  obtain ⟨pM, xM⟩ := u
  obtain ⟨eM, -, gM_⟩ := hu
  have eM : pM 0 = qM := eM
  have gM_ : ab_h gM xM := gM_
  subst eM
  (try dsimp only at hP3 hD3)
  refine lv_astore_n (lv' := [(2, .ref (pM 0)), (1, .ref (pC 29)), (0, .ref b)]) hx hb d_law_15 rfl hl (by decide) rfl (fun ls hl => ?_)
  refine lv_iconst (v := 0) hx hb d_law_16 (by decide +kernel) ?_
  refine lv_istore_n (lv' := [(3, .int 0), (2, .ref (pM 0)), (1, .ref (pC 29)), (0, .ref b)]) hx hb d_law_17 rfl hl (by decide) rfl (fun ls hl => ?_)
  refine W.widen (k := 72) (n := 102720) (by decide +kernel) (by decide +kernel) ?_
  have hlC : (ai_ws cA pC shC xC).length = shC.length := by unfold ai_ws; rw [List.length_mapIdx]
  have inl : ∀ (k : Nat) (x : Nat × va_E), (ai_ws cA pC shC xC)[k]? = some x → (ai_ws cA pC shC xC ++ ai_ws cA pM shM xM)[k]? = some x := fun k x hx => by
    rw [List.getElem?_append_left (List.getElem?_eq_some_iff.mp hx).1]; exact hx
  have inr : ∀ (k : Nat) (x : Nat × va_E), (ai_ws cA pM shM xM)[k]? = some x → (ai_ws cA pC shC xC ++ ai_ws cA pM shM xM)[(ai_ws cA pC shC xC).length + k]? = some x := fun k x hx => by
    rw [List.getElem?_append_right (Nat.le_add_right _ _), Nat.add_sub_cancel_left]; exact hx
  have hPC : va_P D ai_cl (ai_ws cA pC shC xC) H := fun k x hx => hP3 k x (inl k x hx)
  have hPM : va_P D ai_cl (ai_ws cA pM shM xM) H := fun k x hx => hP3 _ x (inr k x hx)
  have hDC : va_D (fun q : Nat => s.heap.size ≤ q) (ai_ws cA pC shC xC) := ⟨fun i j x y hx hy e => hD3.1 i j x y (inl i x hx) (inl j y hy) e, fun k x hx => hD3.2 k x (inl k x hx)⟩
  have hDM : va_D (fun q : Nat => s.heap.size ≤ q) (ai_ws cA pM shM xM) := ⟨fun i j x y hx hy e => by have := hD3.1 _ _ x y (inr i x hx) (inr j y hy) e; omega, fun k x hx => hD3.2 _ x (inr k x hx)⟩
  refine lw_body l hL C0 (D := D) (cA := cA) (pC := pC) (pM := pM) (xC := xC) (xM := xM) ⟨hPC, fun H1 hk => ?_, (ac_dist hDC).1, (ac_dist hDM).1, (ac_dist hDC).2, (ac_dist hDM).2, gC_, gM_, hS3, hl, hK, hN⟩
  refine hPM.kept (fun k x hx => hk x.1 (hPM k x hx).lt (fun hz => ?_))
  obtain ⟨k9, h9, e9⟩ := hz
  have h10 : shC[k9]? = some shC[k9] := List.getElem?_eq_getElem h9
  have h11 := hD3.1 k9 _ _ x (inl k9 _ (ai_ws_at h10)) (inr k x hx) e9
  rw [hlC] at h11
  omega
