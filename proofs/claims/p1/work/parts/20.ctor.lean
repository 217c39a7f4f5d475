/-! CONSTRUCTORS: new arrays, and references out of locals, into the fields of one new object; then a run of the small machine -/
abbrev ac_Op : Type := Nat × Nat × Nat × ((Instr × Nat × Int32 × Nat × Bool) ⊕ (Instr × Nat × Nat))
def ac_z (z : Bool) : FieldType := if z = true then .boolean else .int
def ac_at (z : Bool) : ArrayType := if z = true then .boolean else .int
def ac_fs (r : Nat → Nat) : List Value → List ac_Op → List Nat → List Value
  | fs, (k, _, _, .inl _) :: ops, q :: qs => ac_fs r (fs.set k (.ref q)) ops qs
  | fs, (k, _, _, .inr (_, _, j)) :: ops, qs => ac_fs r (fs.set k (.ref (r j))) ops qs
  | fs, _, _ => fs
def ac_ar (cA : Bool → ClassId) : List ac_Op → List Nat → va_W
  | (_, _, _, .inl (_, _, _, N, z)) :: ops, q :: qs => (q, .inl (cA z, N, .inl (fun _ => 0))) :: ac_ar cA ops qs
  | (_, _, _, .inr _) :: ops, qs => ac_ar cA ops qs
  | _, _ => []
def ac_n : List ac_Op → Nat
  | [] => 0
  | (_, _, _, .inl _) :: ops => ac_n ops + 1
  | (_, _, _, .inr _) :: ops => ac_n ops
def ac_sum : List ac_Op → Nat
  | [] => 0
  | (_, _, _, .inl (_, _, _, N, _)) :: ops => ac_sum ops + N
  | (_, _, _, .inr _) :: ops => ac_sum ops
def ac_obj (o : Option FieldType) : Bool := match o with
  | some (.object _) => true
  | _ => false
def ac_push (i : Instr) (len : Nat) (n : Int32) : Bool := match i with
  | .iconst v => decide (len = 1) && decide (Int32.ofInt v = n)
  | .bipush v => decide (len = 2) && decide ((Int8.ofInt v).toInt32 = n)
  | .sipush v => decide (len = 3) && decide ((Int16.ofInt v).toInt32 = n)
  | _ => false
def ac_load (i : Instr) (len j : Nat) : Bool := match i with
  | .aload_n v => decide (len = 1) && decide (v.val = j)
  | .aload v => decide (len = 2) && decide (v = j)
  | _ => false
def ac_ok (own : String) (bs : ByteArray) (T : u_T) (N nr : Nat) : Nat → List ac_Op → Nat → Bool
  | pc, [], e => decide (pc = e)
  | pc, (k, ix, w, .inl (i, len, n, NN, z)) :: ops, e => (decide (decode bs pc = .ok (.aload_n 0, 1)) && decide (k < N) && decide (lw_tbl[w]? = some (.fieldLink own ix (T k).1 (T k).2.1 (T k).2.2.1)) && decide ((T k).2.2.2 = true) && decide ((T k).1 = own)) &&
      ((decide (decode bs (pc + 1) = .ok (i, len)) && ac_push i len n && decide (¬ n < 0) && decide (n.toNatClampNeg = NN) && decide (NN ≤ 100000)) &&
      (decide (decode bs (pc + 1 + len) = .ok (.newarray (ac_at z), 2)) && decide (decode bs (pc + 1 + len + 2) = .ok (.putfield ix, 3)) && decide (parseFieldDescriptor (T k).2.2.1 = some (.array (ac_z z))) && ac_ok own bs T N nr (pc + 1 + len + 2 + 3) ops e))
  | pc, (k, ix, w, .inr (i, len, j)) :: ops, e => (decide (decode bs pc = .ok (.aload_n 0, 1)) && decide (k < N) && decide (lw_tbl[w]? = some (.fieldLink own ix (T k).1 (T k).2.1 (T k).2.2.1)) && decide ((T k).2.2.2 = true) && decide ((T k).1 = own)) &&
      ((decide (decode bs (pc + 1) = .ok (i, len)) && decide (j < nr) && ac_load i len j) &&
      (decide (decode bs (pc + 1 + len) = .ok (.putfield ix, 3)) && ac_obj (parseFieldDescriptor (T k).2.2.1) && ac_ok own bs T N nr (pc + 1 + len + 3) ops e))
theorem ac_wI : Cond.arrayClass .int ∈ lw_tbl := by decide +kernel
theorem ac_wZ : Cond.arrayClass .boolean ∈ lw_tbl := by decide +kernel
theorem ac_wO : Cond.instanceMethod Lib.objectInit ∈ lw_tbl ∧ Cond.code Lib.objectInit ⟨#[0xb1]⟩ 1 none ∈ lw_tbl := by decide +kernel
section ACW
variable {p : Program} {l : Launch} {e : Env} {R : Room} {s : State} {m : MethodId} {args : Array Value} {below : List Frame} {meth : Method} {c : Code} {cA : Bool → ClassId} {D : va_G} {A : Nat → Prop} {bs : ByteArray} {own : String} {Ts : List Cond} {Q : State → Prop}
theorem ac_newa (hx : p.tables.exec = Jvm.exec) (hb : c.code = bs) (hts : ∀ w ∈ Ts, w.before args s = true) (hin : ∀ w ∈ ai_tb, w ∈ Ts) (hK : va_K D ai_cl [(cA false, .int), (cA true, .boolean)] s) (hA : ∀ q, s.heap.size ≤ q → A q)
    {z : Bool} {n : Int32} {NN pc cells slots : Nat} {ws : va_W} {H : Heap} {locs : List Loc} {ls : Array Slot} {rest : List Value} (hP : va_P D ai_cl ws H) (hD : va_D A ws) (hS : va_S A s.heap H locs) (hn : ¬ n < 0) (hN : n.toNatClampNeg = NN) (hNN : NN ≤ 100000) (hc : cells + 1 ≤ R.cells) (hs : slots + NN ≤ R.slots) (hd : decode bs pc = .ok (.newarray (ac_at z), 2))
    (kk : ∀ (q : Nat) (H1 : Heap), va_P D ai_cl (ws ++ [(q, .inl (cA z, NN, .inl (fun _ => 0)))]) H1 → va_D A (ws ++ [(q, .inl (cA z, NN, .inl (fun _ => 0)))]) → va_S A s.heap H1 locs → W p l e R s m args below meth c H1 locs (cells + 1) (slots + NN) Q (F0 m (pc + 2) ls (.ref q :: rest))) :
    W p l e R s m args below meth c H locs cells slots Q (F0 m pc ls (.int n :: rest)) := by
  cases z with
  | false =>
    refine va_newa (atype := .int) (ty := .int) (a0 := (NN, .inl (fun _ => 0))) hx hb (hts _ (hin _ (ai_tb_in ac_wI rfl))) rfl hK hP hD hS hA (fun _ => rfl) hn hN (Nat.le_trans (Nat.mul_le_mul_right _ hNN) (by decide +kernel)) hc hs hd (fun q cA' H1 hK1 hP1 hD1 hS1 => ?_)
    have e1 : s.vm.findClass ("[" ++ FieldType.int.toString) = some (cA false) := (hK.2 0 (cA false, .int) rfl).2
    have e2 : s.vm.findClass ("[" ++ FieldType.int.toString) = some cA' := (hK1.2 2 (cA', .int) rfl).2
    have e3 : cA' = cA false := Option.some.inj (e2.symm.trans e1)
    rw [e3] at hP1 hD1
    exact kk q H1 hP1 hD1 hS1
  | true =>
    refine va_newa (atype := .boolean) (ty := .boolean) (a0 := (NN, .inl (fun _ => 0))) hx hb (hts _ (hin _ (ai_tb_in ac_wZ rfl))) rfl hK hP hD hS hA (fun _ => rfl) hn hN (Nat.le_trans (Nat.mul_le_mul_right _ hNN) (by decide +kernel)) hc hs hd (fun q cA' H1 hK1 hP1 hD1 hS1 => ?_)
    have e1 : s.vm.findClass ("[" ++ FieldType.boolean.toString) = some (cA true) := (hK.2 1 (cA true, .boolean) rfl).2
    have e2 : s.vm.findClass ("[" ++ FieldType.boolean.toString) = some cA' := (hK1.2 2 (cA', .boolean) rfl).2
    have e3 : cA' = cA true := Option.some.inj (e2.symm.trans e1)
    rw [e3] at hP1 hD1
    exact kk q H1 hP1 hD1 hS1
theorem ac_walk {ci N : Nat} {T : u_T} (hx : p.tables.exec = Jvm.exec) (hb : c.code = bs) (hown : s.vm.findClass own = some m.cls) (hts : ∀ w ∈ Ts, w.before args s = true) (hin : ∀ w ∈ ai_tb, w ∈ Ts) (hini : meth.name = "<init>") (hK : va_K D ai_cl [(cA false, .int), (cA true, .boolean)] s) (hA : ∀ q, s.heap.size ≤ q → A q)
    (hcl : ai_cl[ci]? = some (own, T, N)) {ls : Array Slot} {a nr : Nat} {r : Nat → Nat} (hl0 : ls[0]? = some (.val (.ref a))) (hlr : ∀ j, j < nr → ls[j]? = some (.val (.ref (r j)))) (pe : Nat) :
    ∀ (ops : List ac_Op) (pc cells slots : Nat) (fs : List Value) (wr : va_W) (H : Heap) (locs : List Loc), ac_ok own bs T N nr pc ops pe = true → fs.length = N → cells + ac_n ops ≤ R.cells → slots + ac_sum ops ≤ R.slots → va_P D ai_cl ((a, .inr (ci, fs)) :: wr) H → va_D A ((a, .inr (ci, fs)) :: wr) → va_S A s.heap H locs →
      (∀ (qs : List Nat) (H1 : Heap) (locs1 : List Loc), qs.length = ac_n ops → va_P D ai_cl ((a, .inr (ci, ac_fs r fs ops qs)) :: (wr ++ ac_ar cA ops qs)) H1 → va_D A ((a, .inr (ci, ac_fs r fs ops qs)) :: (wr ++ ac_ar cA ops qs)) → va_S A s.heap H1 locs1 → W p l e R s m args below meth c H1 locs1 (cells + ac_n ops) (slots + ac_sum ops) Q (F0 m pe ls [])) →
      W p l e R s m args below meth c H locs cells slots Q (F0 m pc ls []) := by
  obtain ⟨ty0, t1, t2, t3⟩ := ai_cls ci _ hcl
  have hin2 : ∀ w ∈ u_ws own T N, w ∈ Ts := fun w hw => hin w (ai_tb_in (t3 w hw).1 (t3 w hw).2)
  intro ops
  induction ops with
  | nil =>
    intro pc cells slots fs wr H locs hok hfl hc hs hP hD hS kk
    have e1 : pc = pe := by simpa [ac_ok] using hok
    subst e1
    exact kk [] H locs rfl (by simpa [ac_fs, ac_ar] using hP) (by simpa [ac_fs, ac_ar] using hD) hS
  | cons op ops ih =>
    intro pc cells slots fs wr H locs hok hfl hc hs hP hD hS kk
    obtain ⟨k, ix, w, o⟩ := op
    cases o with
    | inl o =>
      obtain ⟨i, len, n, NN, z⟩ := o
      simp only [ac_ok, Bool.and_eq_true, decide_eq_true_eq] at hok
      obtain ⟨⟨⟨⟨⟨h1, h2⟩, h3⟩, h4⟩, h5⟩, ⟨⟨⟨⟨h6, h7⟩, h8⟩, h9⟩, h10⟩, ⟨⟨h11, h12⟩, h13⟩, h14⟩ := hok
      simp only [ac_n, ac_sum] at hc hs kk
      refine lv_aload_n hx hb h1 rfl hl0 ?_
      have hpush : W p l e R s m args below meth c H locs cells slots Q (F0 m (pc + 1 + len) ls [.int n, .ref a]) → W p l e R s m args below meth c H locs cells slots Q (F0 m (pc + 1) ls [.ref a]) := by
        intro k0
        cases i
        all_goals (try exact absurd (show false = true from h7) (by decide))
        all_goals simp only [ac_push, Bool.and_eq_true, decide_eq_true_eq] at h7
        all_goals (obtain ⟨rfl, h7⟩ := h7; first | exact lv_iconst hx hb h6 h7 k0 | exact lv_bipush hx hb h6 h7 k0 | exact lv_sipush hx hb h6 h7 k0)
      refine hpush ?_
      refine ac_newa (z := z) (NN := NN) hx hb hts hin hK hA hP hD hS h8 h9 h10 (by omega) (by omega) h11 (fun q H1 hP1 hD1 hS1 => ?_)
      refine va_putF (D := D) (v := .ref q) (ty := .array (ac_z z)) hx hb hts hin2 ty0 t1 t2 hown hK hP1 hD1 hS1 0 rfl hcl k h2 (hts _ (hin _ (ai_tb_at h3 rfl))) (fun _ h9 => h9) h4 hini h5 h13 rfl rfl (by rw [hfl]; exact h2) h12 (fun H2 locs2 hP2 hD2 hS2 => ?_)
      refine ih (pc + 1 + len + 2 + 3) (cells + 1) (slots + NN) (fs.set k (.ref q)) (wr ++ [((q, .inl (cA z, NN, .inl (fun _ => 0))) : Nat × va_E)]) H2 locs2 h14 (by rw [List.length_set]; exact hfl) (by omega) (by omega) hP2 hD2 hS2 (fun qs H3 locs3 hq hP3 hD3 hS3 => ?_)
      have key := kk (q :: qs) H3 locs3 (by rw [List.length_cons, hq]) (by rw [List.append_assoc] at hP3; exact hP3) (by rw [List.append_assoc] at hD3; exact hD3) hS3
      rw [show cells + 1 + ac_n ops = cells + (ac_n ops + 1) by omega, show slots + NN + ac_sum ops = slots + (ac_sum ops + NN) by omega]
      exact key
    | inr o =>
      obtain ⟨i, len, j⟩ := o
      simp only [ac_ok, Bool.and_eq_true, decide_eq_true_eq] at hok
      obtain ⟨⟨⟨⟨⟨h1, h2⟩, h3⟩, h4⟩, h5⟩, ⟨⟨h6, h7⟩, h8⟩, ⟨h9, h10⟩, h11⟩ := hok
      simp only [ac_n, ac_sum] at hc hs kk
      refine lv_aload_n hx hb h1 rfl hl0 ?_
      have hpush : W p l e R s m args below meth c H locs cells slots Q (F0 m (pc + 1 + len) ls [.ref (r j), .ref a]) → W p l e R s m args below meth c H locs cells slots Q (F0 m (pc + 1) ls [.ref a]) := by
        intro k0
        cases i
        all_goals (try exact absurd (show false = true from h8) (by decide))
        all_goals simp only [ac_load, Bool.and_eq_true, decide_eq_true_eq] at h8
        all_goals (obtain ⟨rfl, h8⟩ := h8; first | exact lv_aload hx hb h6 (by rw [h8]; exact hlr j h7) k0 | exact lv_aload_n hx hb h6 h8 (hlr j h7) k0)
      refine hpush ?_
      have h12 : ∃ C, parseFieldDescriptor (T k).2.2.1 = some (.object C) := by
        cases hz : parseFieldDescriptor (T k).2.2.1 with
        | none => rw [hz] at h10; cases h10
        | some t => rw [hz] at h10; cases t <;> first | exact ⟨_, rfl⟩ | cases h10
      obtain ⟨C, h12⟩ := h12
      refine va_putF (D := D) (v := .ref (r j)) (ty := .object C) hx hb hts hin2 ty0 t1 t2 hown hK hP hD hS 0 rfl hcl k h2 (hts _ (hin _ (ai_tb_at h3 rfl))) (fun _ h9 => h9) h4 hini h5 h12 rfl rfl (by rw [hfl]; exact h2) h9 (fun H2 locs2 hP2 hD2 hS2 => ?_)
      exact ih (pc + 1 + len + 3) cells slots (fs.set k (.ref (r j))) wr H2 locs2 h11 (by rw [List.length_set]; exact hfl) hc hs hP2 hD2 hS2 (fun qs H3 locs3 hq hP3 hD3 hS3 => kk qs H3 locs3 hq hP3 hD3 hS3)
end ACW
def ac_ad (n h0 : Nat) (f r : Nat → Nat) : Nat → Nat
  | 0 => h0
  | k + 1 => if k < n then f k else r (k - n)
def ac_rr (h0 : Nat) (r : Nat → Nat) : Nat → Nat
  | 0 => h0
  | k + 1 => r k
def ac_w0 (h0 ci : Nat) (df : List Value) : va_W := [(h0, .inr (ci, df))]
def ac_Pre (D : va_G) (cA : Bool → ClassId) (h0 sz ci : Nat) (df : List Value) (U : State) : Prop := U.heap.size = sz ∧ va_P D ai_cl (ac_w0 h0 ci df) U.heap ∧ va_K D ai_cl [(cA false, .int), (cA true, .boolean)] U ∧ ai_N U
def ac_Rm (d mc ms : Nat) : Room := { frames := d, cells := mc, slots := ms, locals := 50 * d }
def ac_B (D : va_G) (cA : Bool → ClassId) (A : Nat → Prop) (sh : ai_Sh) (u : (Nat → Nat) × ai_H) (t : State) : Prop := va_P D ai_cl (ai_ws cA u.1 sh u.2) t.heap ∧ va_D A (ai_ws cA u.1 sh u.2)
def ac_post (k0 h0 : Nat) (rs : List Nat) (n : Nat) (g : ab_G) (u : (Nat → Nat) × ai_H) : Prop := u.1 k0 = h0 ∧ (∀ j q, rs[j]? = some q → u.1 (n + j) = q) ∧ ab_h g u.2
/-- a constructor's contract: from a new object to the cells of sh, the numbers as g has them; the object is cell k0 -/
def ac_Met (l : Launch) (D : va_G) (cA : Bool → ClassId) (y : MethodName) (bs : ByteArray) (nL ci : Nat) (df : List Value) (rs : List Nat) (sh : ai_Sh) (g : ab_G) (mc ms d k0 : Nat) : Prop :=
  ∀ h0 sz : Nat, Met l y (.code y bs nL none :: ai_tb) (ac_Rm d mc ms) (va_Pc (.ref h0 :: rs.map Value.ref) (ac_Pre D cA h0 sz ci df)) (va_Qv (ac_post k0 h0 rs sh.length g) (ac_B D cA (va_A (ac_w0 h0 ci df) sz) sh) (va_A (ac_w0 h0 ci df) sz)) mc ms (va_A (ac_w0 h0 ci df) sz)
theorem ac_fl : ∀ ks : List Nat, ai_fl (ks.map Value.ref) = ks.map (fun k => some (.ref k))
  | [] => rfl
  | k :: ks => by
    have e : ai_fl ((k :: ks).map Value.ref) = [some (.ref k)] ++ ai_fl (ks.map Value.ref) := rfl
    rw [e, ac_fl ks]
    rfl
theorem ac_ent {ks : List Nat} {n : Nat} (h : ks.length ≤ n) : (ai_ent n (ks.map Value.ref)).length = n ∧ ∀ j k : Nat, ks[j]? = some k → (ai_ent n (ks.map Value.ref))[j]? = some (some (Value.ref k)) := by
  unfold ai_ent
  rw [ac_fl, List.length_map]
  refine ⟨by simp; omega, fun j k hj => ?_⟩
  have hl : j < ks.length := (List.getElem?_eq_some_iff.mp hj).1
  rw [List.getElem?_append_left (by rw [List.length_map]; exact hl), List.getElem?_map, hj]
  rfl
theorem ac_range (qs : List Nat) : qs = (List.range qs.length).map (fun i => qs.getD i 0) := by
  apply List.ext_getElem?
  intro i
  rw [List.getElem?_map]
  by_cases hi : i < qs.length
  · rw [List.getElem?_range hi]
    simp [List.getD, hi]
  · rw [List.getElem?_eq_none (by omega), List.getElem?_eq_none (by rw [List.length_range]; omega)]
    rfl
theorem ac_dist {cA : Bool → ClassId} {ad : Nat → Nat} {sh : ai_Sh} {h : ai_H} {A : Nat → Prop} (hD : va_D A (ai_ws cA ad sh h)) : (∀ i j, i < sh.length → j < sh.length → ad i = ad j → i = j) ∧ ∀ k, k < sh.length → A (ad k) := by
  have h1 : ∀ i, i < sh.length → ∃ q, (ai_ws cA ad sh h)[i]? = some q ∧ q.1 = ad i := by
    intro i hi
    have h2 : sh[i]? = some sh[i] := List.getElem?_eq_getElem hi
    exact ⟨_, ai_ws_at h2, rfl⟩
  refine ⟨fun i j hi hj e => ?_, fun k hk => ?_⟩
  · obtain ⟨p, p1, p2⟩ := h1 i hi
    obtain ⟨q, q1, q2⟩ := h1 j hj
    exact hD.1 i j p q p1 q1 (by rw [p2, q2, e])
  · obtain ⟨p, p1, p2⟩ := h1 k hk
    have := hD.2 k p p1
    rw [p2] at this
    exact this
theorem ac_D1 (h0 ci : Nat) (df : List Value) : va_D (fun _ => True) (ac_w0 h0 ci df) := by
  have h1 : ∀ (k : Nat) (p : Nat × va_E), (ac_w0 h0 ci df)[k]? = some p → k = 0 := fun k p hk => by
    have : k < (ac_w0 h0 ci df).length := (List.getElem?_eq_some_iff.mp hk).1
    have e : (ac_w0 h0 ci df).length = 1 := rfl
    omega
  exact ⟨fun i j p q hp hq _ => by rw [h1 i p hp, h1 j q hq], fun _ _ _ => trivial⟩
def ac_ent0 (h0 : Nat) (rs : List Nat) (nL : Nat) (ls : Array Slot) : Prop := ∀ (ks : List Nat) (ad : Nat → Nat), ks.map ad = h0 :: rs → ai_lk ad ls (ai_ent nL (ks.map Value.ref))
theorem ac_lr {h0 nL : Nat} {rs : List Nat} {ls : Array Slot} (hnl : rs.length + 1 ≤ nL) (h : ac_ent0 h0 rs nL ls) : ls.size = nL ∧ ∀ j, j < rs.length + 1 → ls[j]? = some (.val (.ref (ac_rr h0 (fun j => rs.getD j 0) j))) := by
  have hk0 : (List.range (rs.length + 1)).map (ac_rr h0 (fun j => rs.getD j 0)) = h0 :: rs := by
    rw [List.range_succ_eq_map, List.map_cons, List.map_map]
    have e1 : (ac_rr h0 (fun j => rs.getD j 0) ∘ Nat.succ) = fun i => rs.getD i 0 := by funext i; rfl
    rw [e1, ← ac_range]
    rfl
  have h1 := h _ _ hk0
  have h2 := ac_ent (ks := List.range (rs.length + 1)) (n := nL) (by rw [List.length_range]; omega)
  refine ⟨by rw [h1.1, h2.1], fun j hj => ?_⟩
  exact h1.2.2 j (.ref j) (h2.2 j j (by rw [List.getElem?_range hj]))
set_option maxHeartbeats 4000000 in
set_option maxRecDepth 20000 in
theorem ac_enter (l : Launch) {D : va_G} {cA : Bool → ClassId} {y : MethodName} {bs : ByteArray} {nL ci mc ms d oix k0 : Nat} {df : List Value} {rs : List Nat} {sh : ai_Sh} {g : ab_G}
    (hy : plainName y.cls = true) (hyi : y.name = "<init>") (hnl : rs.length + 1 ≤ nL)
    (d0 : decode bs 0 = .ok (.aload_n 0, 1)) (d1 : decode bs 1 = .ok (.invokespecial oix, 3)) (hw : Cond.methodLink y.cls oix Lib.objectInit ∈ lw_tbl)
    (body : ∀ (p : Program) (e : Env) (s : State) (m : MethodId) (args : Array Value) (below : List Frame) (meth : Method) (c : Code) (h0 : Nat) (A : Nat → Prop) (ls : Array Slot),
      p.tables.exec = Jvm.exec → c.code = bs → meth.sig.returnType = none → c.maxLocals = nL → (∀ w ∈ Cond.code y bs nL none :: ai_tb, w.before args s = true) → s.vm.findClass y.cls = some m.cls → meth.locks = false → meth.name = "<init>" → va_K D ai_cl [(cA false, .int), (cA true, .boolean)] s → ai_N s → va_P D ai_cl (ac_w0 h0 ci df) s.heap → va_D A (ac_w0 h0 ci df) → (∀ q : Nat, s.heap.size ≤ q → A q) → ac_ent0 h0 rs nL ls →
      W p l e (ac_Rm (d + 1) mc ms) s m args below meth c s.heap [] 0 0 (MQ below (va_Qv (ac_post k0 h0 rs sh.length g) (ac_B D cA A sh) A) args s mc ms A) (F0 m 4 ls [])) :
    ac_Met l D cA y bs nL ci df rs sh g mc ms (d + 1) k0 := by
  intro h0 sz
  refine Met.ofW (cc := bs) (maxL := nL) (ret := none) hy rfl ?_
  intro p e s m args below meth c s₁ B hml hv
  obtain ⟨rfl, hsz, hP, hK, hN⟩ := hv
  have hx := B.exec
  have hb := B.bytes
  have hr := B.returns
  have hts := atoms_spec (ws := Cond.code y bs nL none :: ai_tb) B.pre
  have hown : s.vm.findClass y.cls = some m.cls := findClass_of_methodNamed B.named
  have hlocks := B.notSynchronized
  have hini : meth.name = "<init>" := by rw [(name_of_methodNamed B.named B.method).1]; exact hyi
  have hin : ∀ w ∈ ai_tb, w ∈ Cond.code y bs nL none :: ai_tb := fun w hw => List.mem_cons_of_mem _ hw
  subst hsz
  have hD : va_D (va_A (ac_w0 h0 ci df) s.heap.size) (ac_w0 h0 ci df) := (ac_D1 h0 ci df).self
  have hA : ∀ q : Nat, s.heap.size ≤ q → va_A (ac_w0 h0 ci df) s.heap.size q := fun q h => Or.inr h
  generalize va_A (ac_w0 h0 ci df) s.heap.size = A at hD hA ⊢
  rw [lg_entry_eq]
  have hent : ac_ent0 h0 rs nL ((lg_sl (Value.ref h0 :: rs.map Value.ref) ++ List.replicate (nL - (lg_sl (Value.ref h0 :: rs.map Value.ref)).length) Slot.unset).toArray) := by
    intro ks ad hk
    have hkl : ks.length = rs.length + 1 := by rw [← List.length_map (f := ad), hk]; rfl
    have e1 : (Value.ref h0 :: rs.map Value.ref) = (ks.map Value.ref).map (ai_cv ad) := by
      have e2 : (ks.map Value.ref).map (ai_cv ad) = (ks.map ad).map Value.ref := by
        rw [List.map_map, List.map_map]
        rfl
      rw [e2, hk]
      rfl
    rw [e1]
    exact ai_lk_ent ad (ks.map Value.ref) nL (ac_ent (by omega)).1
  generalize (lg_sl (Value.ref h0 :: rs.map Value.ref) ++ List.replicate (nL - (lg_sl (Value.ref h0 :: rs.map Value.ref)).length) Slot.unset).toArray = ls at hent ⊢
  have hlr := ac_lr hnl hent
  refine lv_aload_n hx hb d0 rfl (hlr.2 0 (Nat.succ_pos _)) ?_
  refine W.objInit hx hb hown (hts _ (hin _ (ai_tb_in hw rfl))) (hts _ (hin _ (ai_tb_in ac_wO.1 rfl))) (hts _ (hin _ (ai_tb_in ac_wO.2 rfl))) rfl (by rw [hml]; exact hlr.1) rfl d1 (Nat.succ_le_succ (Nat.zero_le _)) (by show 2 * 0 + 0 + 12 ≤ 50 * (d + 1); omega) ?_
  refine W.eq (g2 := F0 m 4 ls []) rfl ?_
  exact body p e s m _ below meth c h0 A ls hx hb hr hml hts hown hlocks hini hK hN hP hD hA hent
set_option maxHeartbeats 4000000 in
set_option maxRecDepth 20000 in
theorem ac_made (l : Launch) (D : va_G) (cA : Bool → ClassId) {y : MethodName} {bs : ByteArray} {nL ci N : Nat} {T : u_T} {df : List Value} {rs : List Nat} {sh : ai_Sh} {ops : List ac_Op} {g : ab_G} {d oix pe fuel fuel2 : Nat} {mci ml : Nat → Nat} {cd : Nat → Nat → Option ai_I} {mt : Nat → Option ai_Mt} {ki : List (Nat × ai_I)}
    (hy : plainName y.cls = true) (hyi : y.name = "<init>") (hcl : ai_cl[ci]? = some (y.cls, T, N)) (hdf : df.length = N) (hnl : rs.length + 1 ≤ nL)
    (d0 : decode bs 0 = .ok (.aload_n 0, 1)) (d1 : decode bs 1 = .ok (.invokespecial oix, 3)) (hw : Cond.methodLink y.cls oix Lib.objectInit ∈ lw_tbl)
    (hops : ac_ok y.cls bs T N (rs.length + 1) 4 ops pe = true)
    (hsh : ∀ (h0 : Nat) (f r : Nat → Nat), (((h0, .inr (ci, ac_fs (ac_rr h0 r) df ops ((List.range (ac_n ops)).map f))) :: ac_ar cA ops ((List.range (ac_n ops)).map f)) : va_W) = ai_ws cA (ac_ad (ac_n ops) h0 f r) sh (fun _ _ => 0)) (hshl : sh.length = ac_n ops + 1)
    (hrun : ab_e sh mci (ab_ec sh mci ml cd fuel d) (ai_lu ki) fuel2 pe (ab_ent nL ((0 :: (List.range rs.length).map (fun j => ac_n ops + 1 + j)).map Sum.inl)) [] [] = some (none, g))
    (hki : ki.all (fun e => ai_okb mt y.cls bs none e.1 e.2) = true)
    (hck : ∀ i q, mt i = some q → ∀ pc r, cd i pc = some r → ai_okb mt q.1.cls q.2.1 q.2.2.2.1 pc r = true)
    (hmt : ∀ i q, mt i = some q → ai_mokP q ∧ ml i = q.2.2.1 ∧ mci i = q.2.2.2.2.1) :
    ac_Met l D cA y bs nL ci df rs sh g (ac_n ops) (ac_sum ops) (d + 1) 0 := by
  refine ac_enter l hy hyi hnl d0 d1 hw ?_
  intro p e s m args below meth c h0 A ls hx hb hr hml hts hown hlocks hini hK hN hP hD hA hent
  have hlr := ac_lr hnl hent
  have hin : ∀ w ∈ ai_tb, w ∈ Cond.code y bs nL none :: ai_tb := fun w hw => List.mem_cons_of_mem _ hw
  generalize hr0 : (fun j => rs.getD j 0) = r at hlr
  refine ac_walk (T := T) (N := N) (ci := ci) (a := h0) (r := ac_rr h0 r) (nr := rs.length + 1) hx hb hown hts hin hini hK hA hcl (hlr.2 0 (Nat.succ_pos _)) hlr.2 pe ops 4 0 0 df [] s.heap [] hops hdf (Nat.le_of_eq (Nat.zero_add _)) (Nat.le_of_eq (Nat.zero_add _)) hP hD va_S.rf (fun qs H1 locs1 hq hP1 hD1 hS1 => ?_)
  rw [Nat.zero_add, Nat.zero_add]
  obtain ⟨f, hf⟩ : ∃ f : Nat → Nat, qs = (List.range (ac_n ops)).map f := ⟨_, by rw [← hq]; exact ac_range qs⟩
  rw [List.nil_append, hf, hsh h0 f r] at hP1 hD1
  have hdist := (ac_dist hD1).1
  have hAd := (ac_dist hD1).2
  have hk1 : (0 :: (List.range rs.length).map (fun j => ac_n ops + 1 + j)).map (ac_ad (ac_n ops) h0 f r) = h0 :: rs := by
    rw [List.map_cons, List.map_map]
    have e1 : (ac_ad (ac_n ops) h0 f r ∘ fun j => ac_n ops + 1 + j) = fun i => rs.getD i 0 := by
      funext i
      show ac_ad (ac_n ops) h0 f r (ac_n ops + 1 + i) = _
      rw [show ac_n ops + 1 + i = (ac_n ops + i) + 1 by omega]
      show (if ac_n ops + i < ac_n ops then f (ac_n ops + i) else r (ac_n ops + i - ac_n ops)) = _
      rw [if_neg (by omega), Nat.add_sub_cancel_left, ← hr0]
    rw [e1, ← ac_range]
    rfl
  have hL := hent _ _ hk1
  have hab : ab_s ((0 :: (List.range rs.length).map (fun j => ac_n ops + 1 + j)).map Sum.inl) ((0 :: (List.range rs.length).map (fun j => ac_n ops + 1 + j)).map Value.ref) := by
    generalize (0 :: (List.range rs.length).map (fun j => ac_n ops + 1 + j)) = ks
    induction ks with
    | nil => trivial
    | cons k ks ih => exact ⟨rfl, ih⟩
  have hp := ab_sound (ab_call (sh := sh) (mci := mci) (ml := ml) (cd := cd) (fuel := fuel) d) none g fuel2 pe _ _ _ hrun _ [] (fun _ _ => 0) (ab_l_ent (n := nL) hab) trivial ab_zero
  refine ai_walk (mt := mt) (Q := fun r' h' => ab_r none r' ∧ ab_h g h') hx hb hml hown hts hin hN hK hdist hAd hr hlocks (fun pc q hpc => List.all_eq_true.mp hki (pc, q) (ai_lu_mem ki pc q hpc)) hmt (Nat.le_refl _) (by show 50 * d + 50 ≤ 50 * (d + 1); omega) (Nat.le_refl _) (Nat.le_refl _) (fun i q hi as h r h2 hC => ai_sound l hdist hck hmt d i q hi as h r h2 hC) ?_ (fun q hq => hq) fuel2 pe _ [] _ H1 locs1 ls hp hP1 hS1 hL (ac_ent (by simp; omega)).1
  intro r' h' H locs t hQ hP hS ht hW
  obtain ⟨hr', hg⟩ := hQ
  have e1 : r' = none := by
    cases r' with
    | none => rfl
    | some v => exact hr'.elim
  subst e1
  refine ⟨⟨(ac_ad (ac_n ops) h0 f r, h'), rfl, ⟨rfl, fun j q hj => ?_, hg⟩, by rw [ht]; exact hP, ai_D hdist hAd h'⟩, hS.F ht⟩
  rw [hshl]
  show ac_ad (ac_n ops) h0 f r (ac_n ops + 1 + j) = q
  rw [show ac_n ops + 1 + j = (ac_n ops + j) + 1 by omega]
  show (if ac_n ops + j < ac_n ops then f (ac_n ops + j) else r (ac_n ops + j - ac_n ops)) = q
  rw [if_neg (by omega), Nat.add_sub_cancel_left, ← hr0]
  show rs.getD j 0 = q
  simp [List.getD, hj]
