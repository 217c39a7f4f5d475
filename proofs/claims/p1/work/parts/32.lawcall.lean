theorem lw_call {p : Program} {l : Launch} {e : Env} {R : Room} {s : State} {m : MethodId} {args : Array Value} {below : List Frame} {meth : Method} {c : Code} {cells slots : Nat} {Q : State → Prop} {sh : ai_Sh} {cA : Bool → ClassId} {ad : Nat → Nat} {D : va_G} {A : Nat → Prop} {bs : ByteArray} {own : String} {Ts : List Cond} {nL : Nat}
    (hx : p.tables.exec = Jvm.exec) (hb : c.code = bs) (hml : c.maxLocals = nL) (hown : s.vm.findClass own = some m.cls) (hts : ∀ w ∈ Ts, w.before args s = true) (hin : ∀ w ∈ ai_tb, w ∈ Ts) (hN : ai_N s) (hK : va_K D ai_cl [(cA false, .int), (cA true, .boolean)] s) (hAd : ∀ k, k < sh.length → A (ad k))
    {y : MethodName} {yb : ByteArray} {yn ci na d k ix pc : Nat} {yt : Option FieldType} {fs : List (Option Nat)} {As rest : List Value} {r : Int32} {h h2 : ai_H} {H : Heap} {locs : List Loc} {ls : Array Slot} (hm1 : ai_mokP (y, yb, yn, yt, ci, false, na)) (hsk : sh[k]? = some (.inr (ci, fs)))
    (hmet : Met l y (.code y yb yn yt :: ai_tb) (ai_rm d) (ai_Pc D cA ad sh (.ref k :: As) h) (ai_Qc D cA ad sh (some (.int r)) h2) 0 0 (ai_A ad sh)) (hlk : Cond.methodLink own ix y ∈ lw_tbl) (hlen : As.length = na)
    (hfr : d + 1 ≤ R.frames) (hlo : 50 * d + 50 ≤ R.locals) (hce : cells ≤ R.cells) (hsl : slots ≤ R.slots) (hls : ls.size = nL) (hrest : (rest.map fun v => v.category).sum ≤ 8) (hP : va_P D ai_cl (ai_ws cA ad sh h) H) (hS : va_S A s.heap H locs) (hdec : decode bs pc = .ok (.invokevirtual ix, 3))
    (kk : ∀ (H1 : Heap) (locs1 : List Loc), (∀ q : Nat, q < H.size → ¬ ai_A ad sh q → H1[q]? = H[q]?) → va_S A s.heap H1 locs1 → W p l e R s m args below meth c H1 locs1 cells slots Q (F0 m (pc + 3) ls (.int r :: rest))) :
    W p l e R s m args below meth c H locs cells slots Q (F0 m pc ls ((As.map (ai_cv ad)).reverse ++ .ref (ad k) :: rest)) := by
  simp only [ai_mokP] at hm1
  obtain ⟨w1, w2, w3, w4, w5, w6, w7, w8⟩ := hm1
  simp only [Bool.false_eq_true, if_false] at w8
  obtain ⟨w8, w9, w10⟩ := w8
  have hG : ∀ w ∈ (Cond.code y yb yn yt :: ai_tb), w ∈ ai_tb := fun w hw => (List.mem_cons.mp hw).elim (fun e => e ▸ ai_tb_in w1 rfl) (fun e => e)
  have hci : ∃ T N, ai_cl[ci]? = some (y.cls, T, N) := by
    cases hz : ai_cl[ci]? with
    | none => rw [hz] at w10; cases w10
    | some q => obtain ⟨C, T, N⟩ := q; rw [hz] at w10; cases w10; exact ⟨T, N, rfl⟩
  obtain ⟨T, N, hci⟩ := hci
  have hpre : PreV s H y.cls (ad k) (ai_Pc D cA ad sh (.ref k :: As) h) (As.map (ai_cv ad)) :=
    ⟨ai_blind D cA ad sh _ h, va_recv hK hP hci (ai_ws_at hsk), fun U hU hW => ⟨rfl, by rw [hU]; exact hP, va_K.moved hW.alike hK, ai_N_warm hW hN⟩⟩
  have hroom : (ai_rm d).frames + 1 ≤ R.frames ∧ 8 + (yn + 11) + (ai_rm d).locals ≤ R.locals := ⟨hfr, by show 8 + (yn + 11) + 50 * d ≤ _; omega⟩
  have hr : va_Run p l e R s m args below meth c H locs cells slots 0 0 (F0 m pc ls ((As.map (ai_cv ad)).reverse ++ .ref (ad k) :: rest)) rest (ai_Qc D cA ad sh (some (.int r)) h2 (Value.ref (ad k) :: As.map (ai_cv ad)).toArray) (ai_A ad sh) := by
    refine va_runV (n := na) (C := y.cls) (bytes := yb) (maxL := yn) (ret := yt) (index := ix) (own := own) (Ts := Ts) ⟨hx, hb, hml, hown, hts⟩ hmet ?_ hpre rfl (by rw [List.length_map]; exact hlen) hls rfl (lv_room hrest) hdec ⟨hce, hsl⟩
    exact cwV na hts (ai_good (fun w hw => by
      rcases List.mem_append.mp hw with q | q
      · rcases List.mem_cons.mp q with rfl | q
        · exact ai_tb_in hlk rfl
        rcases List.mem_cons.mp q with rfl | q
        · exact ai_tb_in w8 rfl
        rcases List.mem_cons.mp q with rfl | q
        · exact ai_tb_in w9 rfl
        rcases List.mem_cons.mp q with rfl | q
        · exact ai_tb_in w2 rfl
        cases q
      · exact hG w q) hin) rfl rfl rfl ⟨rfl, w4, w5, w7⟩ hroom
  have hA : ∀ q, ai_A ad sh q → A q := fun q hq => by obtain ⟨k9, h9, rfl⟩ := hq; exact hAd k9 h9
  intro T hT X
  obtain ⟨v, st₀, t, T', L, h0, X', hL, e1, e2, ⟨hv, hp, hz, hk⟩, st⟩ := hr T hT X
  cases hv
  rw [h0] at hz hk
  obtain ⟨t2, a1, b1⟩ := kk T'.heap (locs ++ L) (fun q h1 h2 => by rw [e1]; exact hk q h1 h2)
    ⟨Nat.le_trans hS.1 (by rw [e1]; exact hz), fun q h1 h2 => by rw [e1, hk q (Nat.lt_of_lt_of_le h1 hS.1) (fun z => h2 (hA q z))]; exact hS.2.1 q h1 h2, fun q hq => by
      rcases List.mem_append.mp hq with h | h
      · exact hS.2.2 q h
      · exact hA _ (hL q h)⟩ T' rfl X'
  exact ⟨t2, st t2 a1, b1⟩
/-- what stands at the loop's head, both objects being new -/
def lw_St (s : State) (b : Nat) (D : va_G) (cA : Bool → ClassId) (pC pM : Nat → Nat) (xC xM : ai_H) (H : Heap) (locs : List Loc) (ls : Array Slot) : Prop :=
  va_P D ai_cl (ai_ws cA pC shC xC) H ∧ (∀ H1 : Heap, (∀ q : Nat, q < H.size → ¬ ai_A pC shC q → H1[q]? = H[q]?) → va_P D ai_cl (ai_ws cA pM shM xM) H1) ∧
  (∀ i j, i < shC.length → j < shC.length → pC i = pC j → i = j) ∧ (∀ i j, i < shM.length → j < shM.length → pM i = pM j → i = j) ∧ (∀ k, k < shC.length → s.heap.size ≤ pC k) ∧ (∀ k, k < shM.length → s.heap.size ≤ pM k) ∧
  ab_h gC xC ∧ ab_h gM xM ∧ va_S (fun q : Nat => s.heap.size ≤ q) s.heap H locs ∧ lv_has ls 4 [(3, .int 0), (2, .ref (pM 0)), (1, .ref (pC 29)), (0, .ref b)] ∧ va_K D ai_cl [(cA false, .int), (cA true, .boolean)] s ∧ ai_N s
theorem lw_in : ∀ w ∈ ai_tb, w ∈ lw_tbl := fun _ hw => (List.mem_filter.mp hw).1
/-- the loop's head, behind the last call -/
theorem lw_exit {p : Program} {l : Launch} {e : Env} {s : State} {m : MethodId} {below : List Frame} {meth : Method} {c : Code} {b L : Nat} {xs : Nat → Int32} {H : Heap} {locs : List Loc} {ls : Array Slot} {x3 : Int32} {u1 u2 : Nat} (C0 : lw_At p s m meth c b L xs) (hS : va_S (fun q : Nat => s.heap.size ≤ q) s.heap H locs) (hl : lv_has ls 4 [(3, .int x3), (2, .ref u1), (1, .ref u2), (0, .ref b)]) (hgt : Int32.ofNat L - 4 < x3) :
    W p l e room_1 s m #[Value.ref b] below meth c H locs 72 102720 (lw_Z below #[Value.ref b] s) (F0 m 18 ls []) := by
  obtain ⟨hx, hb, hr, hml, hown, hts, hX, hbl, hlocks, hgv⟩ := id C0
  have hbA : ¬ (fun q : Nat => s.heap.size ≤ q) b := Nat.not_le.mpr hbl
  refine lv_iload_n hx hb d_law_18 rfl (lv_at hl 0 rfl) ?_
  refine lv_aload_n hx hb d_law_19 rfl (lv_at hl 3 rfl) ?_
  refine va_slen hx hb hX hbl hbA hS d_law_20 ?_
  refine lv_iconst (v := 4) hx hb d_law_21 (by decide +kernel) ?_
  refine lv_isub hx hb d_law_22 ?_
  refine lv_icmp_gt (tgt := 690) hx hb d_law_23 (by decide) (fun _ => ?_) (fun h => absurd hgt h)
  refine va_forget (fun q hq => hS.2.2 q hq) ?_
  refine W.widen (k := 600000) (n := 7302250) (Nat.le_of_ble_eq_true rfl) (Nat.le_of_ble_eq_true rfl) ?_
  refine lv_iconst (v := 1) hx hb d_law_690 (by decide +kernel) ?_
  exact lw_ret hx hb hr hlocks d_law_691
/-- behind a case -/
theorem lw_next {p : Program} {l : Launch} {e : Env} {s : State} {m : MethodId} {below : List Frame} {meth : Method} {c : Code} {b L : Nat} {xs : Nat → Int32} {H : Heap} {locs : List Loc} {ls : Array Slot} {u1 u2 : Nat} (h4 : L = 4) (C0 : lw_At p s m meth c b L xs) (hS : va_S (fun q : Nat => s.heap.size ≤ q) s.heap H locs) (hl : lv_has ls 4 [(3, .int 0), (2, .ref u1), (1, .ref u2), (0, .ref b)]) :
    W p l e room_1 s m #[Value.ref b] below meth c H locs 72 102720 (lw_Z below #[Value.ref b] s) (F0 m 684 ls []) := by
  obtain ⟨hx, hb, -⟩ := id C0
  refine lv_iinc (v := 4) (lv' := [(3, .int 4), (2, .ref u1), (1, .ref u2), (0, .ref b)]) hx hb d_law_684 hl (k := 0) rfl (by decide +kernel) (by decide) rfl (fun ls hl => ?_)
  refine lv_goto (tgt := 18) hx hb d_law_687 (by decide) ?_
  exact lw_exit C0 hS hl (by subst h4; decide +kernel)
theorem lw_v0 : vp_in 0 4 := by unfold vp_in; decide +kernel
theorem lw_v1 : vp_in (0 + 1) 4 := by unfold vp_in; decide +kernel
theorem lw_v2 : vp_in (0 + 2) 4 := by unfold vp_in; decide +kernel
theorem lw_v3 : vp_in (0 + 3) 4 := by unfold vp_in; decide +kernel
