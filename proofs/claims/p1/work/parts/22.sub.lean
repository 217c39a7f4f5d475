/-! a new object, its constructor called: the world grows by the constructor's cells -/
theorem ac_join {A0 : Nat → Prop} {D : va_G} {cl : List vw_C} {ws w1 : va_W} {q ci : Nat} {df : List Value} {H H1 : Heap} (hP : va_P D cl (ws ++ ac_w0 q ci df) H) (hD : va_D A0 (ws ++ ac_w0 q ci df)) (hk : ∀ a : Nat, a < H.size → ¬ va_A (ac_w0 q ci df) H.size a → H1[a]? = H[a]?) (hF : ∀ a, va_A (ac_w0 q ci df) H.size a → A0 a) (hP1 : va_P D cl w1 H1) (hD1 : va_D (va_A (ac_w0 q ci df) H.size) w1) : va_P D cl (ws ++ w1) H1 ∧ va_D A0 (ws ++ w1) := by
  have inl : ∀ (k : Nat) (x : Nat × va_E), ws[k]? = some x → (ws ++ ac_w0 q ci df)[k]? = some x := fun k x hx => by
    rw [List.getElem?_append_left (List.getElem?_eq_some_iff.mp hx).1]; exact hx
  have inr : (ws ++ ac_w0 q ci df)[ws.length]? = some (q, .inr (ci, df)) := by
    rw [List.getElem?_append_right (Nat.le_refl _), Nat.sub_self]; rfl
  have apart : ∀ (k : Nat) (x : Nat × va_E), ws[k]? = some x → x.1 < H.size ∧ ¬ va_A (ac_w0 q ci df) H.size x.1 := by
    intro k x hx
    have hl := (hP k x (inl k x hx)).lt
    refine ⟨hl, fun h => ?_⟩
    rcases h with ⟨k2, e, h⟩ | h
    · have hk2 : k2 = 0 := by
        have : k2 < (ac_w0 q ci df).length := (List.getElem?_eq_some_iff.mp h).1
        have e1 : (ac_w0 q ci df).length = 1 := rfl
        omega
      subst hk2
      have e2 : (q, (.inr (ci, df) : va_E)) = (x.1, e) := Option.some.inj h
      have e3 := hD.1 k ws.length x (q, .inr (ci, df)) (inl k x hx) inr (congrArg Prod.fst e2).symm
      have := (List.getElem?_eq_some_iff.mp hx).1
      omega
    · omega
  refine ⟨va_P.app (fun k x hx => (hP k x (inl k x hx)).kept (hk x.1 (apart k x hx).1 (apart k x hx).2)) hP1, va_D.app ⟨fun i j x y hx hy e => hD.1 i j x y (inl i x hx) (inl j y hy) e, fun k x hx => hD.2 k x (inl k x hx)⟩ (hD1.weaken (fun k x _ h => hF x.1 h)) (fun i j x y hx hy hxy => ?_)⟩
  exact (apart i x hx).2 (by rw [hxy]; exact hD1.2 j y hy)
section ACS
variable {p : Program} {l : Launch} {e : Env} {R : Room} {s : State} {m : MethodId} {args : Array Value} {below : List Frame} {meth : Method} {c : Code} {cA : Bool → ClassId} {D : va_G} {A : Nat → Prop} {bs : ByteArray} {own : String} {Ts : List Cond} {Q : State → Prop}
/-- new, dup -/
theorem ac_new1 (hx : p.tables.exec = Jvm.exec) (hb : c.code = bs) (hown : s.vm.findClass own = some m.cls) (hts : ∀ w ∈ Ts, w.before args s = true) (hin : ∀ w ∈ ai_tb, w ∈ Ts) (hK : va_K D ai_cl [(cA false, .int), (cA true, .boolean)] s) (hA : ∀ q, s.heap.size ≤ q → A q)
    {ci N ix pc cells slots : Nat} {C : String} {T : u_T} {df : List Value} (hcl : ai_cl[ci]? = some (C, T, N)) (hdf : ∀ j, j < N → (parseFieldDescriptor (T j).2.2.1).map defaultValue = some (vp_V df j)) (w1 : Cond.classLink own ix C ∈ lw_tbl) (w2 : Cond.instantiable C N ∈ lw_tbl) (w3 : Cond.initialized C ∈ lw_tbl)
    {ws : va_W} {H : Heap} {locs : List Loc} {ls : Array Slot} {rest : List Value} (hP : va_P D ai_cl ws H) (hD : va_D A ws) (hS : va_S A s.heap H locs) (hc : cells + 1 ≤ R.cells) (hs : slots + N ≤ R.slots) (d1 : decode bs pc = .ok (.new ix, 3)) (d2 : decode bs (pc + 3) = .ok (.dup, 1))
    (kk : ∀ (q : Nat) (H1 : Heap), va_P D ai_cl (ws ++ ac_w0 q ci df) H1 → va_D A (ws ++ ac_w0 q ci df) → va_S A s.heap H1 locs → W p l e R s m args below meth c H1 locs (cells + 1) (slots + N) Q (F0 m (pc + 3 + 1) ls (.ref q :: .ref q :: rest))) :
    W p l e R s m args below meth c H locs cells slots Q (F0 m pc ls rest) := by
  obtain ⟨ty0, t1, t2, t3⟩ := ai_cls ci _ hcl
  have hin2 : ∀ w ∈ u_ws C T N, w ∈ Ts := fun w hw => hin w (ai_tb_in (t3 w hw).1 (t3 w hw).2)
  refine va_new (ci := ci) (fs := df) (C := C) (T := T) (N := N) hx hb hts hin2 ty0 t1 hown (hts _ (hin _ (ai_tb_in w1 rfl))) (hts _ (hin _ (ai_tb_in w2 rfl))) (hts _ (hin _ (ai_tb_in w3 rfl))) hK hP hD hS hA hcl (fun j hj => ?_) hc hs d1 (fun q H1 hP1 hD1 hS1 => ?_)
  · have h1 := hdf j hj
    rw [t1 j hj] at h1
    exact Option.some.inj h1
  · exact lv_dup hx hb d2 rfl (kk q H1 hP1 hD1 hS1)
/-- the constructor's call -/
theorem ac_call1 {nL : Nat} (hx : p.tables.exec = Jvm.exec) (hb : c.code = bs) (hml : c.maxLocals = nL) (hown : s.vm.findClass own = some m.cls) (hts : ∀ w ∈ Ts, w.before args s = true) (hin : ∀ w ∈ ai_tb, w ∈ Ts) (hN : ai_N s) (hK : va_K D ai_cl [(cA false, .int), (cA true, .boolean)] s) (hA : ∀ q, s.heap.size ≤ q → A q)
    {y : MethodName} {bs2 : ByteArray} {nL2 ci mc ms d k0 q ix pc cells slots : Nat} {df : List Value} {rs : List Nat} {sh : ai_Sh} {g : ab_G} (hM : ac_Met l D cA y bs2 nL2 ci df rs sh g mc ms d k0)
    (w1 : Cond.methodLink own ix y ∈ lw_tbl) (w2 : Cond.instanceMethod y ∈ lw_tbl) (w3 : Cond.initialized y.cls ∈ lw_tbl) (w4 : Cond.code y bs2 nL2 none ∈ lw_tbl) (hyi : y.name = "<init>") (hyd : y.cls ≠ "java/lang/invoke/MethodHandle" ∧ y.cls ≠ "java/lang/invoke/VarHandle" ∧ (parseMethodDescriptor y.desc).map (fun d => d.parameters.length) = some rs.length)
    (hroom : d + 1 ≤ R.frames ∧ 8 + (nL2 + 11) + 50 * d ≤ R.locals)
    {ws : va_W} {H : Heap} {locs : List Loc} {ls : Array Slot} {rest : List Value} (hls : ls.size = nL) (hrest : (rest.map fun v => v.category).sum ≤ 8) (hP : va_P D ai_cl (ws ++ ac_w0 q ci df) H) (hD : va_D A (ws ++ ac_w0 q ci df)) (hS : va_S A s.heap H locs) (hc : cells + mc ≤ R.cells) (hs : slots + ms ≤ R.slots) (d1 : decode bs pc = .ok (.invokespecial ix, 3))
    (kk : ∀ (u : (Nat → Nat) × ai_H) (H1 : Heap) (locs1 : List Loc), ac_post k0 q rs sh.length g u → va_P D ai_cl (ws ++ ai_ws cA u.1 sh u.2) H1 → va_D A (ws ++ ai_ws cA u.1 sh u.2) → va_S A s.heap H1 locs1 → W p l e R s m args below meth c H1 locs1 (cells + mc) (slots + ms) Q (F0 m (pc + 3) ls rest)) :
    W p l e R s m args below meth c H locs cells slots Q (F0 m pc ls ((rs.map Value.ref).reverse ++ .ref q :: rest)) := by
  have hPc : va_P D ai_cl (ac_w0 q ci df) H := fun k x hx => hP (ws.length + k) x (by rw [List.getElem?_append_right (Nat.le_add_right _ _), Nat.add_sub_cancel_left]; exact hx)
  have hF : ∀ a, va_A (ac_w0 q ci df) H.size a → A a := by
    intro a h
    rcases h with ⟨k, e, h⟩ | h
    · exact hD.2 (ws.length + k) (a, e) (by rw [List.getElem?_append_right (Nat.le_add_right _ _), Nat.add_sub_cancel_left]; exact h)
    · exact hA a (Nat.le_trans hS.1 h)
  have hG : ∀ w ∈ (Cond.code y bs2 nL2 none :: ai_tb), w ∈ ai_tb := fun w hw => (List.mem_cons.mp hw).elim (fun e => e ▸ ai_tb_in w4 rfl) (fun e => e)
  refine va_callv (va_runI (As := rs.map Value.ref) (rest := rest) ⟨hx, hb, hml, hown, hts⟩ (hM q H.size) (cwI rs.length hts (ai_good hG hin) rfl rfl rfl (hts _ (hin _ (ai_tb_in w3 rfl))) (hts _ (hin _ (ai_tb_in w1 rfl))) (hts _ (hin _ (ai_tb_in w2 rfl))) hyi hyd hroom) ⟨fun a U g mk z => ?_, fun U hU hW => ⟨rfl, by rw [hU], by rw [hU]; exact hPc, va_K.moved hW.alike hK, ai_N_warm hW hN⟩⟩ rfl (by rw [List.length_map]) hls rfl (lv_room hrest) d1 ⟨hc, hs⟩) hS (fun q _ h => hF q h) hF (fun u t H1 locs1 ht hvm hw hB hz1 hk1 hS1 => ?_)
  · obtain ⟨q0, q1, qP, qK, qN⟩ := z
    exact ⟨q0, q1, qP, va_K.moved (u := U) (U := U.calling g mk a) (Vm.Alike.refl U.vm) qK, ai_N_same (u := U) (U := U.calling g mk a) rfl qN⟩
  · obtain ⟨hP1, hD1⟩ := hB
    rw [ht] at hP1
    obtain ⟨hP2, hD2⟩ := ac_join hP hD hk1 hF hP1 hD1
    exact kk u H1 locs1 hw hP2 hD2 hS1
def ac_gok (own : String) (bs : ByteArray) (T : u_T) (N : Nat) : Nat → List (Nat × Nat × Nat) → Bool
  | _, [] => true
  | pc, (k, ix, w) :: js => (decide (decode bs pc = .ok (.aload_n 0, 1)) && decide (decode bs (pc + 1) = .ok (.getfield ix, 3)) && decide (k < N) && decide (lw_tbl[w]? = some (.fieldLink own ix (T k).1 (T k).2.1 (T k).2.2.1))) && ac_gok own bs T N (pc + 1 + 3) js
/-- fields of the object that is made, read -/
theorem ac_gets {ci N : Nat} {T : u_T} (hx : p.tables.exec = Jvm.exec) (hb : c.code = bs) (hown : s.vm.findClass own = some m.cls) (hts : ∀ w ∈ Ts, w.before args s = true) (hin : ∀ w ∈ ai_tb, w ∈ Ts) (hK : va_K D ai_cl [(cA false, .int), (cA true, .boolean)] s)
    (hcl : ai_cl[ci]? = some (own, T, N)) {ls : Array Slot} {a cells slots : Nat} {fs : List Value} {wr : va_W} {H : Heap} {locs : List Loc} (hl0 : ls[0]? = some (.val (.ref a))) (hP : va_P D ai_cl ((a, .inr (ci, fs)) :: wr) H) :
    ∀ (js : List (Nat × Nat × Nat)) (rs : List Nat) (pc : Nat) (st : List Value), ac_gok own bs T N pc js = true → js.map (fun j => fs[j.1]?) = rs.map (fun q => some (Value.ref q)) →
      W p l e R s m args below meth c H locs cells slots Q (F0 m (pc + 4 * js.length) ls ((rs.map Value.ref).reverse ++ st)) → W p l e R s m args below meth c H locs cells slots Q (F0 m pc ls st) := by
  obtain ⟨ty0, t1, t2, t3⟩ := ai_cls ci _ hcl
  have hin2 : ∀ w ∈ u_ws own T N, w ∈ Ts := fun w hw => hin w (ai_tb_in (t3 w hw).1 (t3 w hw).2)
  intro js
  induction js with
  | nil =>
    intro rs pc st _ hv kk
    cases rs with
    | nil => exact kk
    | cons q rs => cases hv
  | cons j js ih =>
    intro rs pc st hok hv kk
    obtain ⟨k, ix, w⟩ := j
    cases rs with
    | nil => cases hv
    | cons q rs =>
      rw [List.map_cons, List.map_cons, List.cons.injEq] at hv
      simp only [ac_gok, Bool.and_eq_true, decide_eq_true_eq] at hok
      obtain ⟨⟨⟨⟨h1, h2⟩, h3⟩, h4⟩, h5⟩ := hok
      refine lv_aload_n hx hb h1 rfl hl0 ?_
      refine va_get (D := D) (v := .ref q) hx hb hts hin2 hown hK hP 0 rfl hcl k h3 (hts _ (hin _ (ai_tb_at h4 rfl))) (fun _ h9 => h9) hv.1 h2 ?_
      refine ih rs (pc + 1 + 3) (.ref q :: st) h5 hv.2 ?_
      rw [List.length_cons] at kk
      rw [show pc + 1 + 3 + 4 * js.length = pc + 4 * (js.length + 1) by omega]
      rw [List.map_cons, List.reverse_cons, List.append_assoc] at kk
      exact kk
end ACS
