abbrev ai_cl : List vw_C := [(RX0, TX0, 12), (RX1, TX1, 2), (RX2, TX2, 3), (RX3, TX3, 5), (RX4, TX4, 7), (RX5, TX5, 4), (RX6, TX6, 13), (RX7, TX7, 9), (RX8, TX8, 56)]
/-- a method: its name, its code, its locals, its type, its class's number, whether it is static, how many arguments -/
abbrev ai_Mt : Type := MethodName × ByteArray × Nat × Option FieldType × Nat × Bool × Nat
def ai_cv (ad : Nat → Nat) : Value → Value
  | .ref k => .ref (ad k)
  | v => v
def ai_fv (ad : Nat → Nat) (h : ai_H) (k j : Nat) (f : Option Nat) : Value := match f with
  | none => .int (h k j)
  | some q => .ref (ad q)
def ai_cell (cA : Bool → ClassId) (ad : Nat → Nat) (h : ai_H) (k : Nat) (c : (Bool × Nat) ⊕ (Nat × List (Option Nat))) : Nat × va_E := (ad k, match c with
  | .inl (z, n) => .inl (cA z, n, .inl (h k))
  | .inr (ci, fs) => .inr (ci, fs.mapIdx (ai_fv ad h k)))
def ai_ws (cA : Bool → ClassId) (ad : Nat → Nat) (sh : ai_Sh) (h : ai_H) : va_W := sh.mapIdx (ai_cell cA ad h)
def ai_A (ad : Nat → Nat) (sh : ai_Sh) : Nat → Prop := fun q => ∃ k, k < sh.length ∧ ad k = q
def ai_lk (ad : Nat → Nat) (ls : Array Slot) (L : ai_Lc) : Prop := ls.size = L.length ∧ lv_wf ls ∧ ∀ (k : Nat) (v : Value), L[k]? = some (some v) → ls[k]? = some (.val (ai_cv ad v))
def ai_rm (d : Nat) : Room := { frames := d, cells := 0, slots := 0, locals := 50 * d }
/-- the words that stay good behind a call, and those of nest mates -/
def ai_tb : List Cond := lw_tbl.filter goodWord
def ai_isN : Cond → Bool
  | .fieldLinkNest .. => true
  | .methodLinkNest .. => true
  | _ => false
def ai_N (U : State) : Prop := ∀ w ∈ lw_tbl, ai_isN w = true → va_Nw w U
theorem ai_N_warm {s U : State} (hW : s.WarmedH U.vm) (h : ai_N s) : ai_N U := by
  intro w hw hn
  have h1 := h w hw hn
  cases w with
  | fieldLinkNest a i b n d h => exact va_Nw.warmF hW h1
  | methodLinkNest a i x h => exact va_Nw.warmM hW h1
  | _ => cases hn
theorem ai_N_same {u U : State} (e : u.vm = U.vm) (h : ai_N u) : ai_N U := by
  intro w hw hn
  have h1 := h w hw hn
  cases w with
  | fieldLinkNest a i b n d h => exact va_Nw.same rfl e h1
  | methodLinkNest a i x h => exact va_Nw.same rfl e h1
  | _ => cases hn
theorem ai_tb_in {w : Cond} (h : w ∈ lw_tbl) (g : goodWord w = true) : w ∈ ai_tb := List.mem_filter.mpr ⟨h, g⟩
theorem ai_tb_at {w : Cond} {i : Nat} (h : lw_tbl[i]? = some w) (g : goodWord w = true) : w ∈ ai_tb := ai_tb_in (List.mem_of_getElem? h) g
theorem ai_good {Ts ws : List Cond} (h : ∀ w ∈ ws, w ∈ ai_tb) (hin : ∀ w ∈ ai_tb, w ∈ Ts) : GoodIn Ts ws := fun w hw => ⟨hin w (h w hw), good_of_word (List.mem_filter.mp (h w hw)).2⟩
def ai_Pc (D : va_G) (cA : Bool → ClassId) (ad : Nat → Nat) (sh : ai_Sh) (as : List Value) (h : ai_H) : Array Value → State → Prop := va_Pc (as.map (ai_cv ad)) (fun U => va_P D ai_cl (ai_ws cA ad sh h) U.heap ∧ va_K D ai_cl [(cA false, .int), (cA true, .boolean)] U ∧ ai_N U)
def ai_Qc (D : va_G) (cA : Bool → ClassId) (ad : Nat → Nat) (sh : ai_Sh) (r : Option Value) (h : ai_H) : Array Value → State → Outcome → State → Prop := fun _ st oc t => oc = .returned (r.map (ai_cv ad)) ∧ va_P D ai_cl (ai_ws cA ad sh h) t.heap ∧ va_F (ai_A ad sh) st t
/-- what a row of a method's code must be -/
def ai_okb (mt : Nat → Option ai_Mt) (own : String) (bs : ByteArray) (rt : Option FieldType) (pc : Nat) (q : ai_I) : Bool := match q with
  | (i, len, a, b, w, c) => decide (decode bs pc = .ok (i, len)) && (match i with
    | .iconst n => decide (len = 1) && decide (Int32.ofInt n = c)
    | .bipush n => decide (len = 2) && decide ((Int8.ofInt n).toInt32 = c)
    | .sipush n => decide (len = 3) && decide ((Int16.ofInt n).toInt32 = c)
    | .ldc2_w ix => decide (len = 3) && decide (lw_tbl[w]? = some (.constantLong own ix (Int64.ofNat a)))
    | .aload_n k => decide (len = 1) && decide (k.val = a)
    | .iload_n k => decide (len = 1) && decide (k.val = a)
    | .lload_n k => decide (len = 1) && decide (k.val = a)
    | .istore_n k => decide (len = 1) && decide (k.val = a)
    | .aload k => decide (len = 2) && decide (k = a)
    | .iload k => decide (len = 2) && decide (k = a)
    | .istore k => decide (len = 2) && decide (k = a)
    | .iinc k n => decide (len = 3) && (decide (k = a) && decide (Int32.ofInt n = c))
    | .getfield ix => decide (len = 3) && (match ai_cl[a]? with
      | some (_, T, N) => decide (b < N) && (decide (lw_tbl[w]? = some (.fieldLink own ix (T b).1 (T b).2.1 (T b).2.2.1)) || decide (lw_tbl[w]? = some (.fieldLinkNest own ix (T b).1 (T b).2.1 (T b).2.2.1 RX7)))
      | none => false)
    | .putfield ix => decide (len = 3) && (match ai_cl[a]? with
      | some (_, T, N) => decide (b < N) && (decide (lw_tbl[w]? = some (.fieldLink own ix (T b).1 (T b).2.1 (T b).2.2.1)) && (decide ((T b).2.2.2 = false) && decide (parseFieldDescriptor (T b).2.2.1 = some (if c = 0 then .int else .boolean))))
      | none => false)
    | .iaload => decide (len = 1)
    | .baload => decide (len = 1)
    | .iastore => decide (len = 1)
    | .bastore => decide (len = 1)
    | .iadd => decide (len = 1)
    | .isub => decide (len = 1)
    | .imul => decide (len = 1)
    | .iand => decide (len = 1)
    | .ior => decide (len = 1)
    | .ishl => decide (len = 1)
    | .ishr => decide (len = 1)
    | .land => decide (len = 1)
    | .lushr => decide (len = 1)
    | .lshr => decide (len = 1)
    | .l2i => decide (len = 1)
    | .dup => decide (len = 1)
    | .dup2 => decide (len = 1)
    | .if_icmp _ off => decide (len = 3) && decide ((pc : Int) + off = (a : Int))
    | .ifCond _ off => decide (len = 3) && decide ((pc : Int) + off = (a : Int))
    | .goto off => decide (len = 3) && decide ((pc : Int) + off = (a : Int))
    | .tableswitch _ _ _ _ => true
    | .invokevirtual ix => decide (len = 3) && (match mt a with
      | some (y, _, _, _, _, st, na) => decide (st = false) && (decide (na = b) && (decide (lw_tbl[w]? = some (.methodLink own ix y)) || decide (lw_tbl[w]? = some (.methodLinkNest own ix y RX7))))
      | none => false)
    | .invokestatic ix => decide (len = 3) && (if a = 1001 then decide (lw_tbl[w]? = some (.methodLink own ix Lib.Math.min.name)) else if a = 1002 then decide (lw_tbl[w]? = some (.methodLink own ix Lib.Math.max.name)) else if a = 1003 then decide (lw_tbl[w]? = some (.methodLink own ix arraycopyName)) else (match mt a with
      | some (y, _, _, _, _, st, na) => decide (st = true) && (decide (na = b) && ((decide (y.cls = own) && decide (lw_tbl[w]? = some (.methodLink own ix y))) || decide (lw_tbl[w]? = some (.methodLinkNest own ix y RX7))))
      | none => false))
    | .ireturn => decide (len = 1) && decide ((rt = some .int ∧ b = 0) ∨ (rt = some .boolean ∧ b = 1))
    | .return_ => decide (len = 1) && decide (rt = none)
    | _ => false)
def ai_mokP (q : ai_Mt) : Prop := match q with
  | (y, b, n, rt, ci, st, na) => Cond.code y b n rt ∈ lw_tbl ∧ Cond.initialized y.cls ∈ lw_tbl ∧ plainName y.cls = true ∧ y.cls ≠ "java/lang/invoke/MethodHandle" ∧ y.cls ≠ "java/lang/invoke/VarHandle" ∧ n ≤ 30 ∧ (parseMethodDescriptor y.desc).map (fun d => d.parameters.length) = some na ∧ (if st = true then Cond.static y ∈ lw_tbl else Cond.instanceMethod y ∈ lw_tbl ∧ Cond.selects y.cls y y ∈ lw_tbl ∧ ai_cl[ci]?.map (fun q => q.1) = some y.cls)
theorem ai_cls : ∀ (ci : Nat) (q : vw_C), ai_cl[ci]? = some q → ∃ ty0 : Nat → FieldType, (∀ k, k < q.2.2 → parseFieldDescriptor (q.2.1 k).2.2.1 = some (ty0 k)) ∧ (∀ a, a < q.2.2 → ∀ b, b < q.2.2 → a ≠ b → (q.2.1 a).2.1 ≠ (q.2.1 b).2.1) ∧ ∀ w ∈ u_ws q.1 q.2.1 q.2.2, w ∈ lw_tbl ∧ goodWord w = true := by
  intro ci q hq
  match ci, hq with
  | 0, hq => cases hq; exact ⟨tyX0, tyX0_ok, nmX0, by decide +kernel⟩
  | 1, hq => cases hq; exact ⟨tyX1, tyX1_ok, nmX1, by decide +kernel⟩
  | 2, hq => cases hq; exact ⟨tyX2, tyX2_ok, nmX2, by decide +kernel⟩
  | 3, hq => cases hq; exact ⟨tyX3, tyX3_ok, nmX3, by decide +kernel⟩
  | 4, hq => cases hq; exact ⟨tyX4, tyX4_ok, nmX4, by decide +kernel⟩
  | 5, hq => cases hq; exact ⟨tyX5, tyX5_ok, nmX5, by decide +kernel⟩
  | 6, hq => cases hq; exact ⟨tyX6, tyX6_ok, nmX6, by decide +kernel⟩
  | 7, hq => cases hq; exact ⟨tyX7, tyX7_ok, nmX7, by decide +kernel⟩
  | 8, hq => cases hq; exact ⟨tyX8, tyX8_ok, nmX8, by decide +kernel⟩
  | k + 9, hq => simp [ai_cl] at hq
theorem ai_wmin : Cond.static Lib.Math.min.name ∈ lw_tbl ∧ Cond.initialized "java/lang/Math" ∈ lw_tbl ∧ Cond.code Lib.Math.min.name Lib.Math.min.code 2 (some .int) ∈ lw_tbl := by decide +kernel
theorem ai_wmax : Cond.static Lib.Math.max.name ∈ lw_tbl ∧ Cond.initialized "java/lang/Math" ∈ lw_tbl ∧ Cond.code Lib.Math.max.name Lib.Math.max.code 2 (some .int) ∈ lw_tbl := by decide +kernel
theorem ai_wcpy : Cond.static arraycopyName ∈ lw_tbl ∧ Cond.initialized "java/lang/System" ∈ lw_tbl ∧ Cond.native arraycopyName ∈ lw_tbl := by decide +kernel
theorem ai_ws_at {cA : Bool → ClassId} {ad : Nat → Nat} {sh : ai_Sh} {h : ai_H} {k : Nat} {c : (Bool × Nat) ⊕ (Nat × List (Option Nat))} (hk : sh[k]? = some c) : (ai_ws cA ad sh h)[k]? = some (ai_cell cA ad h k c) := by
  simp [ai_ws, List.getElem?_mapIdx, hk]
theorem ai_ws_inv {cA : Bool → ClassId} {ad : Nat → Nat} {sh : ai_Sh} {h : ai_H} {k : Nat} {q : Nat × va_E} (hk : (ai_ws cA ad sh h)[k]? = some q) : k < sh.length ∧ q.1 = ad k := by
  simp only [ai_ws, List.getElem?_mapIdx, Option.map_eq_some_iff] at hk
  obtain ⟨c, h1, h2⟩ := hk
  exact ⟨(List.getElem?_eq_some_iff.mp h1).1, by rw [← h2]; rfl⟩
theorem ai_D {cA : Bool → ClassId} {ad : Nat → Nat} {sh : ai_Sh} {A : Nat → Prop} (hd : ∀ i j, i < sh.length → j < sh.length → ad i = ad j → i = j) (hA : ∀ k, k < sh.length → A (ad k)) (h : ai_H) : va_D A (ai_ws cA ad sh h) := by
  refine ⟨fun i j p q hp hq e => ?_, fun k q hk => ?_⟩
  · obtain ⟨h1, h2⟩ := ai_ws_inv hp
    obtain ⟨h3, h4⟩ := ai_ws_inv hq
    exact hd i j h1 h3 (by rw [← h2, ← h4, e])
  · obtain ⟨h1, h2⟩ := ai_ws_inv hk
    rw [h2]; exact hA k h1
theorem ai_cell_c {cA : Bool → ClassId} {ad : Nat → Nat} {h h2 : ai_H} {j : Nat} (e : h j = h2 j) (c : (Bool × Nat) ⊕ (Nat × List (Option Nat))) : ai_cell cA ad h j c = ai_cell cA ad h2 j c := by
  have e2 : ai_fv ad h j = ai_fv ad h2 j := by
    funext q f
    cases f <;> simp [ai_fv, e]
  cases c with
  | inl x => simp [ai_cell, e]
  | inr x => simp [ai_cell, e2]
theorem ai_set_arr {cA : Bool → ClassId} {ad : Nat → Nat} {sh : ai_Sh} {h : ai_H} {k i n : Nat} {z : Bool} {x : Int32} (hk : sh[k]? = some (.inl (z, n))) : (ai_ws cA ad sh h).set k (ad k, .inl (cA z, n, .inl (upd (h k) i x))) = ai_ws cA ad sh (ai_up h k i x) := by
  apply List.ext_getElem?
  intro j
  have hl : k < sh.length := (List.getElem?_eq_some_iff.mp hk).1
  by_cases hj : j = k
  · subst hj
    rw [List.getElem?_set_self (by simpa [ai_ws] using hl), ai_ws_at hk]
    simp [ai_cell, ai_up]
  · rw [List.getElem?_set_ne (fun q => hj q.symm)]
    simp only [ai_ws, List.getElem?_mapIdx]
    cases sh[j]? with
    | none => rfl
    | some c => exact congrArg some (ai_cell_c (by simp [ai_up, hj]) c)
theorem ai_set_cpy {cA : Bool → ClassId} {ad : Nat → Nat} {sh : ai_Sh} {h : ai_H} {k0 k sp dp m n : Nat} {z : Bool} (hk : sh[k]? = some (.inl (z, n))) : (ai_ws cA ad sh h).set k (ad k, .inl (cA z, n, .inl (va_cpy (h k0) (h k) sp dp m))) = ai_ws cA ad sh (ai_cp h k0 k sp dp m) := by
  apply List.ext_getElem?
  intro j
  have hl : k < sh.length := (List.getElem?_eq_some_iff.mp hk).1
  by_cases hj : j = k
  · subst hj
    rw [List.getElem?_set_self (by simpa [ai_ws] using hl), ai_ws_at hk]
    simp [ai_cell, ai_cp]
  · rw [List.getElem?_set_ne (fun q => hj q.symm)]
    simp only [ai_ws, List.getElem?_mapIdx]
    cases sh[j]? with
    | none => rfl
    | some c => exact congrArg some (ai_cell_c (by simp [ai_cp, hj]) c)
theorem ai_set_obj {cA : Bool → ClassId} {ad : Nat → Nat} {sh : ai_Sh} {h : ai_H} {k b ci : Nat} {fs : List (Option Nat)} {x : Int32} (hk : sh[k]? = some (.inr (ci, fs))) (hf : fs[b]? = some none) : (ai_ws cA ad sh h).set k (ad k, .inr (ci, (fs.mapIdx (ai_fv ad h k)).set b (.int x))) = ai_ws cA ad sh (ai_up h k b x) := by
  apply List.ext_getElem?
  intro j
  have hl : k < sh.length := (List.getElem?_eq_some_iff.mp hk).1
  have hb : b < fs.length := (List.getElem?_eq_some_iff.mp hf).1
  by_cases hj : j = k
  · subst hj
    rw [List.getElem?_set_self (by simpa [ai_ws] using hl), ai_ws_at hk]
    simp only [ai_cell]
    congr 4
    apply List.ext_getElem?
    intro q
    by_cases hq : q = b
    · subst hq
      rw [List.getElem?_set_self (by simpa using hb)]
      simp [List.getElem?_mapIdx, hf, ai_fv, ai_up, upd]
    · rw [List.getElem?_set_ne (fun e => hq e.symm)]
      simp only [List.getElem?_mapIdx]
      cases fs[q]? with
      | none => rfl
      | some f => cases f <;> simp [ai_fv, ai_up, upd, hq]
  · rw [List.getElem?_set_ne (fun q => hj q.symm)]
    simp only [ai_ws, List.getElem?_mapIdx]
    cases sh[j]? with
    | none => rfl
    | some c => exact congrArg some (ai_cell_c (by simp [ai_up, hj]) c)
