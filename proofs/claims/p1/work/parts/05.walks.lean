theorem ai_nar0 {x : Int32} (h : x = 0 ∨ x = 1) : narrow .boolean (.int x) = .int x ∧ fits .boolean (.int x) = true ∧ vp_nar .boolean x = x := by
  rcases h with rfl | rfl <;> exact ⟨by decide +kernel, by decide +kernel, by decide +kernel⟩
set_option maxHeartbeats 4000000 in
set_option maxRecDepth 20000 in
theorem ai_walk {p : Program} {l : Launch} {e : Env} {R : Room} {s : State} {m : MethodId} {args : Array Value} {below : List Frame} {meth : Method} {c : Code} {cells slots : Nat}
    {sh : ai_Sh} {cA : Bool → ClassId} {ad : Nat → Nat} {D : va_G} {A : Nat → Prop} {mci ml : Nat → Nat} {cd : Nat → Nat → Option ai_I} {mt : Nat → Option ai_Mt} {cdi : Nat → Option ai_I} {bs : ByteArray} {own : String} {nL d : Nat} {rt : Option FieldType} {Ts : List Cond}
    {Q : Option Value → ai_H → Prop} {Qc : Array Value → State → Outcome → State → Prop} {free : Addr → Prop}
    (hx : p.tables.exec = Jvm.exec) (hb : c.code = bs) (hml : c.maxLocals = nL) (hown : s.vm.findClass own = some m.cls) (hts : ∀ w ∈ Ts, w.before args s = true) (hin : ∀ w ∈ ai_tb, w ∈ Ts) (hN : ai_N s)
    (hK : va_K D ai_cl [(cA false, .int), (cA true, .boolean)] s) (hdist : ∀ i j, i < sh.length → j < sh.length → ad i = ad j → i = j) (hAd : ∀ k, k < sh.length → A (ad k))
    (hr : meth.sig.returnType = rt) (hlocks : meth.locks = false) (hck : ∀ pc q, cdi pc = some q → ai_okb mt own bs rt pc q = true)
    (hmt : ∀ i q, mt i = some q → ai_mokP q ∧ ml i = q.2.2.1 ∧ mci i = q.2.2.2.2.1)
    (hfr : d + 1 ≤ R.frames) (hlo : 50 * d + 50 ≤ R.locals) (hce : cells ≤ R.cells) (hsl : slots ≤ R.slots)
    (hM : ∀ i q, mt i = some q → ∀ as h r h2, ai_C sh mci ml cd d i as h r h2 → Met l q.1 (.code q.1 q.2.1 q.2.2.1 q.2.2.2.1 :: ai_tb) (ai_rm d) (ai_Pc D cA ad sh as h) (ai_Qc D cA ad sh r h2) 0 0 (ai_A ad sh))
    (hq : ∀ (r : Option Value) (h : ai_H) (H : Heap) (locs : List Loc) (t : State), Q r h → va_P D ai_cl (ai_ws cA ad sh h) H → va_S A s.heap H locs → t.heap = H → s.WarmedH t.vm → Qc args s (.returned (r.map (ai_cv ad))) t)
    (hfree : ∀ q, A q → free q) :
    ∀ (n pc : Nat) (L : ai_Lc) (S : List Value) (h : ai_H) (H : Heap) (locs : List Loc) (ls : Array Slot), ai_P sh mci (ai_C sh mci ml cd d) cdi Q n pc L S h → va_P D ai_cl (ai_ws cA ad sh h) H → va_S A s.heap H locs → ai_lk ad ls L → L.length = nL →
      W p l e R s m args below meth c H locs cells slots (MQ below Qc args s cells slots free) (F0 m pc ls (S.map (ai_cv ad))) := by
  intro n
  induction n with
  | zero => intro pc L S h H locs ls hp; exact (show False from hp).elim
  | succ n ih =>
    intro pc L S h H locs ls hp hP hS hL hnL
    have hD : va_D A (ai_ws cA ad sh h) := ai_D hdist hAd h
    have hsz : ls.size = nL := by rw [hL.1, hnL]
    cases hcd : cdi pc with
    | none => simp only [ai_P, hcd] at hp
    | some q =>
      have hok := hck pc q hcd
      obtain ⟨i, len, a, b, w, cc⟩ := q
      simp only [ai_P, hcd] at hp
      simp only [ai_okb, Bool.and_eq_true, decide_eq_true_eq] at hok
      obtain ⟨hdec, hok⟩ := hok
      cases i
      all_goals (try exact (show False from hp).elim)
      all_goals dsimp only at hp hok
      all_goals (try simp only [Bool.and_eq_true, decide_eq_true_eq] at hok)
      case iconst v => obtain ⟨rfl, hc⟩ := hok; exact lv_iconst hx hb hdec hc (ih _ _ _ _ _ _ _ hp hP hS hL hnL)
      case bipush v => obtain ⟨rfl, hc⟩ := hok; exact lv_bipush hx hb hdec hc (ih _ _ _ _ _ _ _ hp hP hS hL hnL)
      case sipush v => obtain ⟨rfl, hc⟩ := hok; exact lv_sipush hx hb hdec hc (ih _ _ _ _ _ _ _ hp hP hS hL hnL)
      case ldc2_w ix => obtain ⟨rfl, hc⟩ := hok; exact lv_ldc2 hx hb hown (hts _ (hin _ (ai_tb_at hc rfl))) hdec (ih _ _ _ _ _ _ _ hp hP hS hL hnL)
      case aload_n k =>
        obtain ⟨rfl, hc⟩ := hok
        split at hp
        · rename_i x hx2; exact lv_aload_n hx hb hdec hc (hL.2.2 a _ hx2) (ih _ _ _ _ _ _ _ hp hP hS hL hnL)
        · exact hp.elim
      case aload k =>
        obtain ⟨rfl, rfl⟩ := hok
        split at hp
        · rename_i x hx2; exact lv_aload hx hb hdec (hL.2.2 k _ hx2) (ih _ _ _ _ _ _ _ hp hP hS hL hnL)
        · exact hp.elim
      case iload_n k =>
        obtain ⟨rfl, hc⟩ := hok
        split at hp
        · rename_i x hx2; exact lv_iload_n hx hb hdec hc (hL.2.2 a _ hx2) (ih _ _ _ _ _ _ _ hp hP hS hL hnL)
        · exact hp.elim
      case iload k =>
        obtain ⟨rfl, rfl⟩ := hok
        split at hp
        · rename_i x hx2; exact lv_iload hx hb hdec (hL.2.2 k _ hx2) (ih _ _ _ _ _ _ _ hp hP hS hL hnL)
        · exact hp.elim
      case lload_n k =>
        obtain ⟨rfl, hc⟩ := hok
        split at hp
        · rename_i x hx2; exact lv_lload_n hx hb hdec hc (hL.2.2 a _ hx2) (ih _ _ _ _ _ _ _ hp hP hS hL hnL)
        · exact hp.elim
      case istore_n k =>
        obtain ⟨rfl, hc⟩ := hok
        split at hp
        · obtain ⟨L', hs, hp⟩ := hp
          have hs2 := ai_set_spec _ _ _ _ hs
          exact lv_istore_n hx hb hdec hc (ai_lk_has hL) hs2.2.1 rfl (fun ls' hl => ih _ _ _ _ _ _ _ hp hP hS (ai_lk_set hL hs hl) (by rw [hs2.1, hnL]))
        · exact hp.elim
      case istore k =>
        obtain ⟨rfl, rfl⟩ := hok
        split at hp
        · obtain ⟨L', hs, hp⟩ := hp
          have hs2 := ai_set_spec _ _ _ _ hs
          exact lv_istore hx hb hdec (ai_lk_has hL) hs2.2.1 rfl (fun ls' hl => ih _ _ _ _ _ _ _ hp hP hS (ai_lk_set hL hs hl) (by rw [hs2.1, hnL]))
        · exact hp.elim
      case iinc k v =>
        obtain ⟨rfl, rfl, hc⟩ := hok
        split at hp
        · rename_i x hx2
          obtain ⟨L', hs, hp⟩ := hp
          have hs2 := ai_set_spec _ _ _ _ hs
          obtain ⟨j, hj⟩ := List.getElem?_of_mem (ai_lv_mem (ad := ad) hx2)
          exact lv_iinc (v := x + cc) hx hb hdec (ai_lk_has hL) hj (by rw [hc]) hs2.2.1 rfl (fun ls' hl => ih _ _ _ _ _ _ _ hp hP hS (ai_lk_set hL hs hl) (by rw [hs2.1, hnL]))
        · exact hp.elim
      case iadd =>
        subst hok
        split at hp
        · exact lv_iadd hx hb hdec (ih _ _ _ _ _ _ _ hp hP hS hL hnL)
        · exact hp.elim
      case isub =>
        subst hok
        split at hp
        · exact lv_isub hx hb hdec (ih _ _ _ _ _ _ _ hp hP hS hL hnL)
        · exact hp.elim
      case imul =>
        subst hok
        split at hp
        · exact lv_imul hx hb hdec (ih _ _ _ _ _ _ _ hp hP hS hL hnL)
        · exact hp.elim
      case iand =>
        subst hok
        split at hp
        · exact lv_iand hx hb hdec (ih _ _ _ _ _ _ _ hp hP hS hL hnL)
        · exact hp.elim
      case ior =>
        subst hok
        split at hp
        · exact lv_ior hx hb hdec (ih _ _ _ _ _ _ _ hp hP hS hL hnL)
        · exact hp.elim
      case ishl =>
        subst hok
        split at hp
        · exact lv_ishl hx hb hdec (ih _ _ _ _ _ _ _ hp hP hS hL hnL)
        · exact hp.elim
      case ishr =>
        subst hok
        split at hp
        · exact lv_ishr hx hb hdec (ih _ _ _ _ _ _ _ hp hP hS hL hnL)
        · exact hp.elim
      case land =>
        subst hok
        split at hp
        · exact lv_land hx hb hdec (ih _ _ _ _ _ _ _ hp hP hS hL hnL)
        · exact hp.elim
      case lushr =>
        subst hok
        split at hp
        · exact lv_lushr hx hb hdec rfl (ih _ _ _ _ _ _ _ hp hP hS hL hnL)
        · exact hp.elim
      case lshr =>
        subst hok
        split at hp
        · exact lv_lshr hx hb hdec rfl (ih _ _ _ _ _ _ _ hp hP hS hL hnL)
        · exact hp.elim
      case l2i =>
        subst hok
        split at hp
        · exact lv_l2i hx hb hdec rfl (ih _ _ _ _ _ _ _ hp hP hS hL hnL)
        · exact hp.elim
      case dup =>
        subst hok
        split at hp
        · exact lv_dup hx hb hdec (by rw [ai_cv_cat]; exact hp.1) (ih _ _ _ _ _ _ _ hp.2 hP hS hL hnL)
        · exact hp.elim
      case dup2 =>
        subst hok
        split at hp
        · exact lv_dup2_11 hx hb hdec (by rw [ai_cv_cat]; exact hp.1) (by rw [ai_cv_cat]; exact hp.2.1) (ih _ _ _ _ _ _ _ hp.2.2 hP hS hL hnL)
        · exact hp.elim
      case getfield ix =>
        obtain ⟨rfl, hok⟩ := hok
        split at hp
        · rename_i k S'
          split at hp
          · rename_i ci fs hsk
            obtain ⟨rfl, hp⟩ := hp
            cases hcl : ai_cl[ci]? with
            | none => rw [hcl] at hok; exact absurd hok (by simp)
            | some q =>
              obtain ⟨C, T, N⟩ := q
              rw [hcl] at hok
              simp only [Bool.and_eq_true, Bool.or_eq_true, decide_eq_true_eq] at hok
              obtain ⟨ty0, t1, t2, t3⟩ := ai_cls ci _ hcl
              obtain ⟨hbN, hlk⟩ := hok
              have hin2 : ∀ w ∈ u_ws C T N, w ∈ Ts := fun w hw => hin w (ai_tb_in (t3 w hw).1 (t3 w hw).2)
              have key : ∀ v : Value, (fs.mapIdx (ai_fv ad h k))[b]? = some v → W p l e R s m args below meth c H locs cells slots (MQ below Qc args s cells slots free) (F0 m (pc + 3) ls (v :: S'.map (ai_cv ad))) → W p l e R s m args below meth c H locs cells slots (MQ below Qc args s cells slots free) (F0 m pc ls ((Value.ref k :: S').map (ai_cv ad))) := by
                intro v hv kk
                rcases hlk with hlk | hlk
                · exact va_get hx hb hts hin2 hown hK hP k (ai_ws_at hsk) hcl b hbN (hts _ (hin _ (ai_tb_at hlk rfl))) (fun _ h9 => h9) hv hdec kk
                · exact va_getN hx hb hts hin2 hown hK hP k (ai_ws_at hsk) hcl b hbN (va_Nw.use rfl (hN _ (List.mem_of_getElem? hlk) rfl)) (fun _ h9 => h9) hv hdec kk
              split at hp
              · rename_i hf
                exact key (.int (h k b)) (by simp [List.getElem?_mapIdx, hf, ai_fv]) (ih _ _ _ _ _ _ _ hp hP hS hL hnL)
              · rename_i k2 hf
                exact key (.ref (ad k2)) (by simp [List.getElem?_mapIdx, hf, ai_fv]) (ih _ _ _ _ _ _ _ hp hP hS hL hnL)
              · exact hp.elim
          · exact hp.elim
        · exact hp.elim
      case putfield ix =>
        obtain ⟨rfl, hok⟩ := hok
        split at hp
        · rename_i x k S'
          obtain ⟨⟨fs, hsk, hf⟩, hcx, hp⟩ := hp
          cases hcl : ai_cl[a]? with
          | none => rw [hcl] at hok; exact absurd hok (by simp)
          | some q =>
            obtain ⟨C, T, N⟩ := q
            rw [hcl] at hok
            simp only [Bool.and_eq_true, decide_eq_true_eq] at hok
            obtain ⟨ty0, t1, t2, t3⟩ := ai_cls a _ hcl
            obtain ⟨hbN, hlk, hfin, hty⟩ := hok
            have hin2 : ∀ w ∈ u_ws C T N, w ∈ Ts := fun w hw => hin w (ai_tb_in (t3 w hw).1 (t3 w hw).2)
            have hnf : narrow (if cc = 0 then FieldType.int else .boolean) (.int x) = .int x ∧ fits (if cc = 0 then FieldType.int else .boolean) (.int x) = true := by
              by_cases hc0 : cc = 0
              · rw [if_pos hc0]; exact ⟨rfl, rfl⟩
              · rw [if_neg hc0]
                have := ai_nar0 (x := x) (hcx.resolve_left hc0)
                exact ⟨this.1, this.2.1⟩
            refine va_put (v := .int x) hx hb hts hin2 ty0 t1 t2 hown hK hP hD hS k (ai_ws_at hsk) hcl b hbN (hts _ (hin _ (ai_tb_at hlk rfl))) (fun _ h9 => h9) hfin hty hnf.1 hnf.2 (by rw [List.length_mapIdx]; exact (List.getElem?_eq_some_iff.mp hf).1) hdec (fun H1 locs1 hP1 _ hS1 => ?_)
            rw [ai_set_obj hsk hf] at hP1
            exact ih _ _ _ _ _ _ _ hp hP1 hS1 hL hnL
        · exact hp.elim
      case iaload =>
        subst hok
        split at hp
        · rename_i j k S'
          obtain ⟨N, hsk, hi, hp⟩ := hp
          exact va_iald hx hb hK hP k 0 (ai_ws_at hsk) rfl hi hdec (ih _ _ _ _ _ _ _ hp hP hS hL hnL)
        · exact hp.elim
      case baload =>
        subst hok
        split at hp
        · rename_i j k S'
          obtain ⟨N, hsk, hi, hp⟩ := hp
          exact va_zald hx hb hK hP k 1 (ai_ws_at hsk) rfl hi hdec (ih _ _ _ _ _ _ _ hp hP hS hL hnL)
        · exact hp.elim
      case iastore =>
        subst hok
        split at hp
        · rename_i x j k S'
          obtain ⟨N, hsk, hi, hp⟩ := hp
          refine va_iast hx hb hK hP hD hS k 0 (ai_ws_at hsk) rfl hi hdec (fun H1 locs1 hP1 _ hS1 => ?_)
          rw [ai_set_arr hsk] at hP1
          exact ih _ _ _ _ _ _ _ hp hP1 hS1 hL hnL
        · exact hp.elim
      case bastore =>
        subst hok
        split at hp
        · rename_i x j k S'
          obtain ⟨N, hsk, hi, hx01, hp⟩ := hp
          refine va_zast hx hb hK hP hD hS k 1 (ai_ws_at hsk) rfl hi hdec (fun H1 locs1 hP1 _ hS1 => ?_)
          rw [(ai_nar0 hx01).2.2, ai_set_arr hsk] at hP1
          exact ih _ _ _ _ _ _ _ hp hP1 hS1 hL hnL
        · exact hp.elim
      case if_icmp k off =>
        obtain ⟨rfl, hc⟩ := hok
        split at hp
        · rename_i y x S'
          cases k
          · exact lv_icmp_eq hx hb hdec hc (fun q => ih _ _ _ _ _ _ _ (hp.resolve_right (fun z => z.1 q)).2 hP hS hL hnL) (fun q => ih _ _ _ _ _ _ _ (hp.resolve_left (fun z => q z.1)).2 hP hS hL hnL)
          · exact lv_icmp_ne hx hb hdec hc (fun q => ih _ _ _ _ _ _ _ (hp.resolve_right (fun z => z.1 q)).2 hP hS hL hnL) (fun q => ih _ _ _ _ _ _ _ (hp.resolve_left (fun z => z.1 q)).2 hP hS hL hnL)
          · exact lv_icmp_lt hx hb hdec hc (fun q => ih _ _ _ _ _ _ _ (hp.resolve_right (fun z => z.1 q)).2 hP hS hL hnL) (fun q => ih _ _ _ _ _ _ _ (hp.resolve_left (fun z => q z.1)).2 hP hS hL hnL)
          · exact lv_icmp_ge hx hb hdec hc (fun q => ih _ _ _ _ _ _ _ (hp.resolve_right (fun z => z.1 q)).2 hP hS hL hnL) (fun q => ih _ _ _ _ _ _ _ (hp.resolve_left (fun z => q z.1)).2 hP hS hL hnL)
          · exact lv_icmp_gt hx hb hdec hc (fun q => ih _ _ _ _ _ _ _ (hp.resolve_right (fun z => z.1 q)).2 hP hS hL hnL) (fun q => ih _ _ _ _ _ _ _ (hp.resolve_left (fun z => q z.1)).2 hP hS hL hnL)
          · exact lv_icmp_le hx hb hdec hc (fun q => ih _ _ _ _ _ _ _ (hp.resolve_right (fun z => z.1 q)).2 hP hS hL hnL) (fun q => ih _ _ _ _ _ _ _ (hp.resolve_left (fun z => q z.1)).2 hP hS hL hnL)
        · exact hp.elim
      case ifCond k off =>
        obtain ⟨rfl, hc⟩ := hok
        split at hp
        · rename_i x S'
          cases k
          · exact lv_if_eq hx hb hdec hc (fun q => ih _ _ _ _ _ _ _ (hp.resolve_right (fun z => z.1 q)).2 hP hS hL hnL) (fun q => ih _ _ _ _ _ _ _ (hp.resolve_left (fun z => q z.1)).2 hP hS hL hnL)
          · exact lv_if_ne hx hb hdec hc (fun q => ih _ _ _ _ _ _ _ (hp.resolve_right (fun z => z.1 q)).2 hP hS hL hnL) (fun q => ih _ _ _ _ _ _ _ (hp.resolve_left (fun z => z.1 q)).2 hP hS hL hnL)
          · exact lv_if_lt hx hb hdec hc (fun q => ih _ _ _ _ _ _ _ (hp.resolve_right (fun z => z.1 q)).2 hP hS hL hnL) (fun q => ih _ _ _ _ _ _ _ (hp.resolve_left (fun z => q z.1)).2 hP hS hL hnL)
          · exact lv_if_ge hx hb hdec hc (fun q => ih _ _ _ _ _ _ _ (hp.resolve_right (fun z => z.1 q)).2 hP hS hL hnL) (fun q => ih _ _ _ _ _ _ _ (hp.resolve_left (fun z => q z.1)).2 hP hS hL hnL)
          · exact lv_if_gt hx hb hdec hc (fun q => ih _ _ _ _ _ _ _ (hp.resolve_right (fun z => z.1 q)).2 hP hS hL hnL) (fun q => ih _ _ _ _ _ _ _ (hp.resolve_left (fun z => q z.1)).2 hP hS hL hnL)
          · exact lv_if_le hx hb hdec hc (fun q => ih _ _ _ _ _ _ _ (hp.resolve_right (fun z => z.1 q)).2 hP hS hL hnL) (fun q => ih _ _ _ _ _ _ _ (hp.resolve_left (fun z => q z.1)).2 hP hS hL hnL)
        · exact hp.elim
      case goto off => obtain ⟨rfl, hc⟩ := hok; exact lv_goto hx hb hdec hc (ih _ _ _ _ _ _ _ hp hP hS hL hnL)
      case tableswitch df lo hi offs =>
        split at hp
        · rename_i x S'
          rcases hp with ⟨h1, t, h2, hp⟩ | ⟨h1, h2, off, t, h3, h4, hp⟩
          · exact lv_tableOut hx hb hdec h1 h2 (ih _ _ _ _ _ _ _ hp hP hS hL hnL)
          · exact lv_tableIn hx hb hdec h1 h2 h3 h4 (ih _ _ _ _ _ _ _ hp hP hS hL hnL)
        · exact hp.elim
      case invokevirtual ix =>
        obtain ⟨rfl, hok⟩ := hok
        obtain ⟨As, k, rest, fs, v, h2, rfl, hlen, hsk, hrest, hcall, hp⟩ := hp
        cases hmq : mt a with
        | none => rw [hmq] at hok; exact absurd hok (by simp)
        | some q =>
          obtain ⟨y, yb, yn, yt, ci, st, na⟩ := q
          rw [hmq] at hok
          obtain ⟨hm1, hm2, hm3⟩ := hmt a _ hmq
          simp only [ai_mokP] at hm1
          simp only [Bool.and_eq_true, Bool.or_eq_true, decide_eq_true_eq] at hok
          obtain ⟨rfl, rfl, hlk⟩ := hok
          obtain ⟨w1, w2, w3, w4, w5, w6, w7, w8⟩ := hm1
          simp only [Bool.false_eq_true, if_false] at w8
          obtain ⟨w8, w9, w10⟩ := w8
          have hmet := hM a _ hmq _ _ _ _ hcall
          dsimp only at hmet
          have hG : ∀ w ∈ (Cond.code y yb yn yt :: ai_tb), w ∈ ai_tb := fun w hw => (List.mem_cons.mp hw).elim (fun e => e ▸ ai_tb_in w1 rfl) (fun e => e)
          have hci : ∃ T N, ai_cl[ci]? = some (y.cls, T, N) := by
            cases hz : ai_cl[ci]? with
            | none => rw [hz] at w10; cases w10
            | some q => obtain ⟨C, T, N⟩ := q; rw [hz] at w10; cases w10; exact ⟨T, N, rfl⟩
          obtain ⟨T, N, hci⟩ := hci
          have hm4 : mci a = ci := hm3
          rw [hm4] at hsk
          have hpre : PreV s H y.cls (ad k) (ai_Pc D cA ad sh (.ref k :: As) h) (As.map (ai_cv ad)) :=
            ⟨ai_blind D cA ad sh _ h, va_recv hK hP hci (ai_ws_at hsk), fun U hU hW => ⟨rfl, by rw [hU]; exact hP, va_K.moved hW.alike hK, ai_N_warm hW hN⟩⟩
          have hroom : (ai_rm d).frames + 1 ≤ R.frames ∧ 8 + (yn + 11) + (ai_rm d).locals ≤ R.locals := ⟨hfr, by show 8 + (yn + 11) + 50 * d ≤ _; omega⟩
          have hst2 : (F0 m pc ls ((As.reverse ++ Value.ref k :: rest).map (ai_cv ad))).stack = (As.map (ai_cv ad)).reverse ++ Value.ref (ad k) :: rest.map (ai_cv ad) := by
            simp [ai_cv, List.map_reverse]
          have hrest2 : 2 * (F0 m pc ls ((As.reverse ++ Value.ref k :: rest).map (ai_cv ad))).monitorRoom + ((rest.map (ai_cv ad)).map fun v => v.category).sum ≤ 8 := by
            apply lv_room
            rw [List.map_map]
            have : ((fun v : Value => v.category) ∘ ai_cv ad) = fun v => v.category := by funext v; exact ai_cv_cat ad v
            rw [this]; exact hrest
          have hrun : va_Run p l e R s m args below meth c H locs cells slots 0 0 (F0 m pc ls ((As.reverse ++ Value.ref k :: rest).map (ai_cv ad))) (rest.map (ai_cv ad)) (ai_Qc D cA ad sh v h2 (Value.ref (ad k) :: As.map (ai_cv ad)).toArray) (ai_A ad sh) := by
            rcases hlk with hlk | hlk
            · refine va_runV (n := na) (C := y.cls) (bytes := yb) (maxL := yn) (ret := yt) (index := ix) (own := own) (Ts := Ts) ⟨hx, hb, hml, hown, hts⟩ hmet ?_ hpre rfl (by rw [List.length_map]; exact hlen) hsz hst2 hrest2 hdec ⟨hce, hsl⟩
              exact cwV na hts (ai_good (fun w hw => by
                rcases List.mem_append.mp hw with q | q
                · rcases List.mem_cons.mp q with rfl | q
                  · exact ai_tb_at hlk rfl
                  rcases List.mem_cons.mp q with rfl | q
                  · exact ai_tb_in w8 rfl
                  rcases List.mem_cons.mp q with rfl | q
                  · exact ai_tb_in w9 rfl
                  rcases List.mem_cons.mp q with rfl | q
                  · exact ai_tb_in w2 rfl
                  cases q
                · exact hG w q) hin) rfl rfl rfl ⟨rfl, w4, w5, w7⟩ hroom
            · refine va_runVN (n := na) (C := y.cls) (bytes := yb) (maxL := yn) (ret := yt) (index := ix) (own := own) (host := RX7) (Ts := Ts) ⟨hx, hb, hml, hown, hts⟩ hmet ?_ hpre rfl (by rw [List.length_map]; exact hlen) hsz hst2 hrest2 hdec ⟨hce, hsl⟩
              exact ⟨va_cnB na hts (ai_good hG hin) rfl rfl rfl (hN _ (List.mem_of_getElem? hlk) rfl) (hts _ (hin _ (ai_tb_in w2 rfl))) ⟨w4, w5, w7⟩ hroom, hts _ (hin _ (ai_tb_in w8 rfl)), hts _ (hin _ (ai_tb_in w9 rfl))⟩
          refine ai_call hrun hS (fun q hq => by obtain ⟨k9, h9, rfl⟩ := hq; exact hAd k9 h9) (fun H1 locs1 hP1 hS1 => ?_)
          have := ih _ _ _ _ _ _ _ hp hP1 hS1 hL hnL
          rw [List.map_append] at this
          cases v <;> exact this
      case invokestatic ix =>
        obtain ⟨rfl, hok⟩ := hok
        by_cases h1 : a = 1001
        · rw [if_pos h1] at hp hok
          simp only [decide_eq_true_eq] at hok
          split at hp
          · rename_i y x S'
            have hs8 : ((S'.map (ai_cv ad)).map fun v => v.category).sum ≤ 8 := by
              rw [List.map_map]
              have : ((fun v : Value => v.category) ∘ ai_cv ad) = fun v => v.category := by funext v; exact ai_cv_cat ad v
              rw [this]; exact hp.1
            exact va_mmin hx hb (hml.trans hsz.symm) hown (hts _ (hin _ (ai_tb_at hok rfl))) (hts _ (hin _ (ai_tb_in ai_wmin.1 rfl))) (hts _ (hin _ (ai_tb_in ai_wmin.2.1 rfl))) (hts _ (hin _ (ai_tb_in ai_wmin.2.2 rfl))) (by omega) (by omega) hce hsl hdec (ih _ _ _ _ _ _ _ hp.2 hP hS hL hnL)
          · exact hp.elim
        · rw [if_neg h1] at hp hok
          by_cases h2 : a = 1002
          · rw [if_pos h2] at hp hok
            simp only [decide_eq_true_eq] at hok
            split at hp
            · rename_i y x S'
              have hs8 : ((S'.map (ai_cv ad)).map fun v => v.category).sum ≤ 8 := by
                rw [List.map_map]
                have : ((fun v : Value => v.category) ∘ ai_cv ad) = fun v => v.category := by funext v; exact ai_cv_cat ad v
                rw [this]; exact hp.1
              exact va_mmax hx hb (hml.trans hsz.symm) hown (hts _ (hin _ (ai_tb_at hok rfl))) (hts _ (hin _ (ai_tb_in ai_wmax.1 rfl))) (hts _ (hin _ (ai_tb_in ai_wmax.2.1 rfl))) (hts _ (hin _ (ai_tb_in ai_wmax.2.2 rfl))) (by omega) (by omega) hce hsl hdec (ih _ _ _ _ _ _ _ hp.2 hP hS hL hnL)
            · exact hp.elim
          · rw [if_neg h2] at hp hok
            by_cases h3 : a = 1003
            · rw [if_pos h3] at hp hok
              simp only [decide_eq_true_eq] at hok
              split at hp
              · rename_i mm dp k1 sp k0 S'
                obtain ⟨N0, N1, e0, e1, c1, c2, c3, c4, c5, c6, hp⟩ := hp
                have hs8 : ((S'.map (ai_cv ad)).map fun v => v.category).sum ≤ 8 := by
                  rw [List.map_map]
                  have : ((fun v : Value => v.category) ∘ ai_cv ad) = fun v => v.category := by funext v; exact ai_cv_cat ad v
                  rw [this]; exact c6
                have hnw : nativeFrameWords "java/lang/System" "arraycopy" 5 + 11 ≤ 42 := by decide +kernel
                refine va_copyi (ty := .int) hx hb (hml.trans hsz.symm) hown (hts _ (hin _ (ai_tb_at hok rfl))) (hts _ (hin _ (ai_tb_in ai_wcpy.2.2 rfl))) (hts _ (hin _ (ai_tb_in ai_wcpy.1 rfl))) (hts _ (hin _ (ai_tb_in ai_wcpy.2.1 rfl))) hK hP hD hS k0 k1 0 0 (ai_ws_at e0) (ai_ws_at e1) rfl rfl rfl c1 c2 c3 c4 c5 (fun i _ => rfl) (by omega) (by omega) hdec (fun H1 locs1 hP1 _ hS1 => ?_)
                rw [ai_set_cpy e1] at hP1
                exact ih _ _ _ _ _ _ _ hp hP1 hS1 hL hnL
              · exact hp.elim
            · rw [if_neg h3] at hp hok
              obtain ⟨As, rest, v, h2, rfl, hlen, hrest, hcall, hp⟩ := hp
              cases hmq : mt a with
              | none => rw [hmq] at hok; exact absurd hok (by simp)
              | some q =>
                obtain ⟨y, yb, yn, yt, ci, st, na⟩ := q
                rw [hmq] at hok
                obtain ⟨hm1, hm2, hm3⟩ := hmt a _ hmq
                simp only [ai_mokP] at hm1
                simp only [Bool.and_eq_true, Bool.or_eq_true, decide_eq_true_eq] at hok
                obtain ⟨rfl, rfl, hlk⟩ := hok
                obtain ⟨w1, w2, w3, w4, w5, w6, w7, w8⟩ := hm1
                simp only [if_true] at w8
                have hmet := hM a _ hmq _ _ _ _ hcall
                dsimp only at hmet
                have hG : ∀ w ∈ (Cond.code y yb yn yt :: ai_tb), w ∈ ai_tb := fun w hw => (List.mem_cons.mp hw).elim (fun e => e ▸ ai_tb_in w1 rfl) (fun e => e)
                have hpre : PreS s H (ai_Pc D cA ad sh As h) (As.map (ai_cv ad)) :=
                  ⟨ai_blind D cA ad sh _ h, fun U hU hW => ⟨rfl, by rw [hU]; exact hP, va_K.moved hW.alike hK, ai_N_warm hW hN⟩⟩
                have hroom : (ai_rm d).frames + 1 ≤ R.frames ∧ 8 + (yn + 11) + (ai_rm d).locals ≤ R.locals := ⟨hfr, by show 8 + (yn + 11) + 50 * d ≤ _; omega⟩
                have hst2 : (F0 m pc ls ((As.reverse ++ rest).map (ai_cv ad))).stack = (As.map (ai_cv ad)).reverse ++ rest.map (ai_cv ad) := by
                  simp [List.map_reverse]
                have hrest2 : 2 * (F0 m pc ls ((As.reverse ++ rest).map (ai_cv ad))).monitorRoom + ((rest.map (ai_cv ad)).map fun v => v.category).sum ≤ 8 := by
                  apply lv_room
                  rw [List.map_map]
                  have : ((fun v : Value => v.category) ∘ ai_cv ad) = fun v => v.category := by funext v; exact ai_cv_cat ad v
                  rw [this]; exact hrest
                have hrun : va_Run p l e R s m args below meth c H locs cells slots 0 0 (F0 m pc ls ((As.reverse ++ rest).map (ai_cv ad))) (rest.map (ai_cv ad)) (ai_Qc D cA ad sh v h2 (As.map (ai_cv ad)).toArray) (ai_A ad sh) := by
                  rcases hlk with ⟨hyo, hlk⟩ | hlk
                  · refine va_runS (n := na) (bytes := yb) (maxL := yn) (ret := yt) (index := ix) (own := own) (Ts := Ts) ⟨hx, hb, hml, hown, hts⟩ hmet ?_ hpre rfl (by rw [List.length_map]; exact hlen) hsz hst2 hrest2 hdec ⟨hce, hsl⟩
                    exact cwS na hts (ai_good (fun w hw => by
                      rcases List.mem_append.mp hw with q | q
                      · rcases List.mem_cons.mp q with rfl | q
                        · exact ai_tb_at hlk rfl
                        rcases List.mem_cons.mp q with rfl | q
                        · exact ai_tb_in w8 rfl
                        rcases List.mem_cons.mp q with rfl | q
                        · rw [← hyo]; exact ai_tb_in w2 rfl
                        cases q
                      · exact hG w q) hin) rfl rfl rfl ⟨hyo, w4, w5, w7⟩ hroom
                  · refine va_runSN (n := na) (bytes := yb) (maxL := yn) (ret := yt) (index := ix) (own := own) (host := RX7) (Ts := Ts) ⟨hx, hb, hml, hown, hts⟩ hmet ?_ hpre rfl (by rw [List.length_map]; exact hlen) hsz hst2 hrest2 hdec ⟨hce, hsl⟩
                    exact ⟨va_cnB na hts (ai_good hG hin) rfl rfl rfl (hN _ (List.mem_of_getElem? hlk) rfl) (hts _ (hin _ (ai_tb_in w2 rfl))) ⟨w4, w5, w7⟩ hroom, hts _ (hin _ (ai_tb_in w8 rfl)), trivial⟩
                refine ai_call hrun hS (fun q hq => by obtain ⟨k9, h9, rfl⟩ := hq; exact hAd k9 h9) (fun H1 locs1 hP1 hS1 => ?_)
                have := ih _ _ _ _ _ _ _ hp hP1 hS1 hL hnL
                rw [List.map_append] at this
                cases v <;> exact this
      case ireturn =>
        obtain ⟨rfl, hok⟩ := hok
        split at hp
        · rename_i x
          obtain ⟨hbx, hQ⟩ := hp
          rcases hok with ⟨hrt, rfl⟩ | ⟨hrt, rfl⟩
          · exact W.iret hx hb (hr.trans hrt) (fun t ht hW => hq _ _ _ _ t hQ hP hS ht hW) (fun q hq => hfree _ (hS.2.2 q hq)) hdec hlocks
          · exact W.zret hx hb (hr.trans hrt) (ai_nar0 (hbx.resolve_left (by decide))).1 (fun t ht hW => hq _ _ _ _ t hQ hP hS ht hW) (fun q hq => hfree _ (hS.2.2 q hq)) hdec hlocks
        · exact hp.elim
      case return_ =>
        obtain ⟨rfl, hrt⟩ := hok
        split at hp
        · exact W.vret hx hb (hr.trans hrt) (fun t ht hW => hq _ _ _ _ t hp hP hS ht hW) (fun q hq => hfree _ (hS.2.2 q hq)) hdec hlocks
        · exact hp.elim
/-- every call of the small machine is a contract of the machine -/
theorem ai_sound (l : Launch) {sh : ai_Sh} {cA : Bool → ClassId} {ad : Nat → Nat} {D : va_G} {mci ml : Nat → Nat} {cd : Nat → Nat → Option ai_I} {mt : Nat → Option ai_Mt}
    (hdist : ∀ i j, i < sh.length → j < sh.length → ad i = ad j → i = j)
    (hck : ∀ i q, mt i = some q → ∀ pc r, cd i pc = some r → ai_okb mt q.1.cls q.2.1 q.2.2.2.1 pc r = true)
    (hmt : ∀ i q, mt i = some q → ai_mokP q ∧ ml i = q.2.2.1 ∧ mci i = q.2.2.2.2.1) :
    ∀ (d i : Nat) (q : ai_Mt), mt i = some q → ∀ as h r h2, ai_C sh mci ml cd d i as h r h2 → Met l q.1 (.code q.1 q.2.1 q.2.2.1 q.2.2.2.1 :: ai_tb) (ai_rm d) (ai_Pc D cA ad sh as h) (ai_Qc D cA ad sh r h2) 0 0 (ai_A ad sh) := by
  intro d
  induction d with
  | zero => intro i q _ as h r h2 hC; exact (show False from hC).elim
  | succ d ih =>
    intro i q hq as h r h2 hC
    obtain ⟨hlen, n, hp⟩ := hC
    obtain ⟨hm1, hm2, hm3⟩ := hmt i q hq
    have hck1 := hck i q hq
    obtain ⟨y, b, nl, rt, ci, st, na⟩ := q
    dsimp only at hm2 hm3 hck1 ⊢
    simp only [ai_mokP] at hm1
    refine Met.ofW (cc := b) (maxL := nl) (ret := rt) hm1.2.2.1 rfl ?_
    intro p e s m args below meth c s₁ B hml hv
    obtain ⟨rfl, hP, hK, hN⟩ := hv
    have hts := atoms_spec (ws := Cond.code y b nl rt :: ai_tb) B.pre
    have hown : s.vm.findClass y.cls = some m.cls := findClass_of_methodNamed B.named
    rw [lg_entry_eq]
    rw [hm2] at hlen hp
    exact ai_walk (Q := fun r' h' => r' = r ∧ h' = h2) B.exec B.bytes hml hown hts (fun w hw => List.mem_cons_of_mem _ hw) hN hK hdist (fun k hk => ⟨k, hk, rfl⟩) B.returns B.notSynchronized hck1 hmt (Nat.le_refl _) (by show 50 * d + 50 ≤ 50 * (d + 1); omega) (Nat.zero_le _) (Nat.zero_le _) (fun i q hi as h r h2 hC => ih i q hi as h r h2 hC)
      (fun r' h' H locs t hQ hP hS ht hW => by
        obtain ⟨rfl, rfl⟩ := hQ
        exact ⟨rfl, by rw [ht]; exact hP, hS.F ht⟩) (fun q hq => hq) n 0 _ [] h s.heap [] _ hp hP va_S.rf (ai_lk_ent ad as nl hlen) hlen
