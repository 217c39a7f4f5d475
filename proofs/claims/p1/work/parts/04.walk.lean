section AIW
variable {p : Program} {l : Launch} {e : Env} {R : Room} {s : State} {m : MethodId} {args : Array Value} {below : List Frame} {meth : Method} {c : Code} {cells slots : Nat}
variable {sh : ai_Sh} {cA : Bool → ClassId} {ad : Nat → Nat} {D : va_G} {A : Nat → Prop}
/-- behind a call -/
theorem ai_call {H : Heap} {locs : List Loc} {pc : Nat} {ls : Array Slot} {st0 rest : List Value} {r : Option Value} {h2 : ai_H} {a : Array Value} {Q : State → Prop} (hr : va_Run p l e R s m args below meth c H locs cells slots 0 0 (F0 m pc ls st0) rest (ai_Qc D cA ad sh r h2 a) (ai_A ad sh)) (hS : va_S A s.heap H locs) (hA : ∀ q, ai_A ad sh q → A q)
    (kk : ∀ (H1 : Heap) (locs1 : List Loc), va_P D ai_cl (ai_ws cA ad sh h2) H1 → va_S A s.heap H1 locs1 → W p l e R s m args below meth c H1 locs1 cells slots Q (F0 m (pc + 3) ls ((r.map (ai_cv ad)).toList ++ rest))) : W p l e R s m args below meth c H locs cells slots Q (F0 m pc ls st0) := by
  intro T hT X
  obtain ⟨v, st₀, t, T', L, h0, X', hL, e1, e2, ⟨hv, hp, hz, hk⟩, st⟩ := hr T hT X
  cases hv
  rw [h0] at hz hk
  obtain ⟨t2, a1, b1⟩ := kk T'.heap (locs ++ L) (by rw [e1]; exact hp)
    ⟨Nat.le_trans hS.1 (by rw [e1]; exact hz), fun q h1 h2 => by rw [e1, hk q (Nat.lt_of_lt_of_le h1 hS.1) (fun z => h2 (hA q z))]; exact hS.2.1 q h1 h2, fun q hq => by
      rcases List.mem_append.mp hq with h | h
      · exact hS.2.2 q h
      · exact hA _ (hL q h)⟩ T' rfl X'
  exact ⟨t2, st t2 a1, b1⟩
theorem ai_blind (D : va_G) (cA : Bool → ClassId) (ad : Nat → Nat) (sh : ai_Sh) (as : List Value) (h : ai_H) : FrameBlind (ai_Pc D cA ad sh as h) := fun a U g mk q => by
  obtain ⟨q0, q1, q2, q3⟩ := q
  exact ⟨q0, q1, va_K.moved (u := U) (U := U.calling g mk a) (Vm.Alike.refl U.vm) q2, ai_N_same (u := U) (U := U.calling g mk a) rfl q3⟩
theorem ai_set_spec : ∀ (L : ai_Lc) (i : Nat) (v : Value) (L' : ai_Lc), ai_set L i v = some L' → L'.length = L.length ∧ i < L.length ∧ (∀ j, L'[j]? = if j = i then some (some v) else L[j]?) ∧ ∀ (j : Nat) (u : Value), L[j]? = some (some u) → j + 1 = i → u.category = 1
  | [], i, v, L', h => by simp [ai_set] at h
  | x :: L, 0, v, L', h => by
    have e : L' = some v :: L := by cases x with | none => simpa [ai_set] using h.symm | some x => simpa [ai_set] using h.symm
    subst e
    refine ⟨rfl, Nat.succ_pos _, fun j => ?_, fun j u _ hj => by omega⟩
    cases j with
    | zero => rfl
    | succ j => simp
  | x :: L, k + 1, v, L', h => by
    have hx : ∀ u : Value, x = some u → k = 0 → u.category = 1 := by
      intro u hu hk
      subst hu; subst hk
      cases u <;> first | rfl | (simp [ai_set] at h)
    have h2 : ∃ L2, ai_set L k v = some L2 ∧ x :: L2 = L' := by
      cases x with
      | none => simpa [ai_set, Option.map_eq_some_iff] using h
      | some u =>
        cases k with
        | zero => cases u <;> first | (simp [ai_set] at h; done) | simpa [ai_set, Option.map_eq_some_iff] using h
        | succ k => cases u <;> simpa [ai_set, Option.map_eq_some_iff] using h
    obtain ⟨L2, h3, rfl⟩ := h2
    obtain ⟨e1, e2, e3, e4⟩ := ai_set_spec L k v L2 h3
    refine ⟨by simp [e1], by simp; omega, fun j => ?_, fun j u hj hji => ?_⟩
    · cases j with
      | zero => simp
      | succ j => simp [e3 j]
    · cases j with
      | zero =>
        have : x = some u := by simpa using hj
        exact hx u this (by omega)
      | succ j => exact e4 j u (by simpa using hj) (by omega)
/-- the listed locals of a picture -/
def ai_lv (ad : Nat → Nat) (L : ai_Lc) : List (Nat × Value) := (List.range L.length).filterMap fun k => match L[k]? with
  | some (some v) => some (k, ai_cv ad v)
  | _ => none
theorem ai_lv_mem {ad : Nat → Nat} {L : ai_Lc} {k : Nat} {v : Value} (h : L[k]? = some (some v)) : (k, ai_cv ad v) ∈ ai_lv ad L := by
  unfold ai_lv
  refine List.mem_filterMap.mpr ⟨k, List.mem_range.mpr (List.getElem?_eq_some_iff.mp h).1, ?_⟩
  simp [h]
theorem ai_lk_has {ls : Array Slot} {L : ai_Lc} {ad : Nat → Nat} (h : ai_lk ad ls L) : lv_has ls L.length (ai_lv ad L) := by
  refine ⟨h.1, h.2.1, fun q hq => ?_⟩
  obtain ⟨k, -, hk⟩ := List.mem_filterMap.mp hq
  revert hk
  split
  · rename_i v hv
    intro hk
    cases hk
    exact h.2.2 k v hv
  · intro hk
    cases hk
theorem ai_cv_cat (ad : Nat → Nat) (v : Value) : (ai_cv ad v).category = v.category := by cases v <;> rfl
theorem ai_lk_set {ls ls' : Array Slot} {L L' : ai_Lc} {ad : Nat → Nat} {i : Nat} {v : Value} (h : ai_lk ad ls L) (hs : ai_set L i v = some L') (hh : lv_has ls' L.length ((i, ai_cv ad v) :: (ai_lv ad L).filter (fun q => !(q.1 == i) && !(q.1 + 1 == i && q.2.category == 2)))) : ai_lk ad ls' L' := by
  obtain ⟨e1, e2, e3, e4⟩ := ai_set_spec L i v L' hs
  refine ⟨by rw [hh.1, e1], hh.2.1, fun k u hk => ?_⟩
  rw [e3 k] at hk
  by_cases hki : k = i
  · subst hki
    rw [if_pos rfl] at hk
    have ev : v = u := by simpa using hk
    rw [← ev]
    exact hh.2.2 (k, ai_cv ad v) List.mem_cons_self
  · rw [if_neg hki] at hk
    refine hh.2.2 (k, ai_cv ad u) (List.mem_cons_of_mem _ (List.mem_filter.mpr ⟨ai_lv_mem hk, ?_⟩))
    by_cases h1 : k + 1 = i
    · have h2 := e4 k u hk h1
      simp [hki, ai_cv_cat, h2]
    · simp [hki, h1]
theorem ai_lk_ent (ad : Nat → Nat) (as : List Value) (n : Nat) (hn : (ai_ent n as).length = n) : ai_lk ad ((lg_sl (as.map (ai_cv ad)) ++ List.replicate (n - (lg_sl (as.map (ai_cv ad))).length) Slot.unset).toArray) (ai_ent n as) := by
  have e : ∀ as : List Value, lg_sl (as.map (ai_cv ad)) = (ai_fl as).map (fun o => match o with | some v => Slot.val (ai_cv ad v) | none => Slot.second) := by
    intro as
    induction as with
    | nil => rfl
    | cons v vs ih =>
      have ih2 := ih
      simp only [lg_sl, ai_fl, List.map_cons, List.flatMap_cons, List.map_append] at ih2 ⊢
      rw [ih2, ai_cv_cat]
      by_cases hc : v.category = 2 <;> simp [hc]
  have hlen : (lg_sl (as.map (ai_cv ad))).length = (ai_fl as).length := by rw [e, List.length_map]
  have hle : (ai_fl as).length ≤ n := by
    unfold ai_ent at hn
    simp only [List.length_append, List.length_replicate] at hn
    omega
  have hl := lv_entry (as.map (ai_cv ad)) (n := n) (by rw [hlen]; exact hle)
  refine ⟨by rw [hl.1, hn], hl.2.1, fun k v hk => ?_⟩
  have hk1 : k < (ai_fl as).length := by
    rcases Nat.lt_or_ge k (ai_fl as).length with q | q
    · exact q
    · unfold ai_ent at hk
      rw [List.getElem?_append_right q, List.getElem?_replicate] at hk
      split at hk <;> cases hk
  unfold ai_ent at hk
  rw [List.getElem?_append_left hk1] at hk
  rw [List.getElem?_toArray, List.getElem?_append_left (by rw [hlen]; exact hk1), e, List.getElem?_map, hk]
  rfl
end AIW
