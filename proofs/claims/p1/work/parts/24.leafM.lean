/-- a field while it is made: null, a number 0, a cell -/
def ac_tau (ad : Nat → Nat) : Option (Option Nat) → Value
  | none => .null
  | some none => .int 0
  | some (some q) => .ref (ad q)
def ac_sy (nA : Nat) : List (Option (Option Nat)) → List ac_Op → Nat → List (Option (Option Nat))
  | fs, (k, _, _, .inl _) :: ops, i => ac_sy nA (fs.set k (some (some (i + 1)))) ops (i + 1)
  | fs, (k, _, _, .inr (_, _, j)) :: ops, i => ac_sy nA (fs.set k (some (some (if j = 0 then 0 else nA + j)))) ops i
  | fs, [], _ => fs
def ac_arS : List ac_Op → List (Bool × Nat)
  | [] => []
  | (_, _, _, .inl (_, _, _, N, z)) :: ops => (z, N) :: ac_arS ops
  | (_, _, _, .inr _) :: ops => ac_arS ops
theorem ac_sy_ok {nA h0 : Nat} {f r : Nat → Nat} : ∀ (ops : List ac_Op) (fs : List (Option (Option Nat))) (i : Nat), i + ac_n ops = nA → ac_fs (ac_rr h0 r) (fs.map (ac_tau (ac_ad nA h0 f r))) ops ((List.range' i (ac_n ops)).map f) = (ac_sy nA fs ops i).map (ac_tau (ac_ad nA h0 f r))
  | [], fs, i, h => by simp [ac_fs, ac_sy]
  | (k, ix, w, .inl o) :: ops, fs, i, h => by
    have h1 : i + 1 + ac_n ops = nA := by simp only [ac_n] at h; omega
    have ih := ac_sy_ok (f := f) (r := r) (h0 := h0) ops (fs.set k (some (some (i + 1)))) (i + 1) h1
    have e1 : ac_n ((k, ix, w, .inl o) :: ops) = ac_n ops + 1 := rfl
    rw [e1, List.range'_succ, List.map_cons]
    simp only [ac_fs, ac_sy]
    rw [← ih, List.map_set]
    congr 2
    show Value.ref (f i) = Value.ref (if i < nA then f i else r (i - nA))
    rw [if_pos (by omega)]
  | (k, ix, w, .inr (i0, len, j)) :: ops, fs, i, h => by
    have ih := ac_sy_ok (f := f) (r := r) (h0 := h0) ops (fs.set k (some (some (if j = 0 then 0 else nA + j)))) i h
    have e1 : ac_n ((k, ix, w, .inr (i0, len, j)) :: ops) = ac_n ops := rfl
    rw [e1]
    simp only [ac_fs, ac_sy]
    rw [← ih, List.map_set]
    congr 2
    cases j with
    | zero => rfl
    | succ j =>
      rw [if_neg (Nat.succ_ne_zero j)]
      show Value.ref (r j) = Value.ref (if nA + j < nA then f (nA + j) else r (nA + j - nA))
      rw [if_neg (by omega), Nat.add_sub_cancel_left]
theorem ac_ar_ok {cA : Bool → ClassId} {f : Nat → Nat} : ∀ (ops : List ac_Op) (i : Nat), ac_ar cA ops ((List.range' i (ac_n ops)).map f) = (ac_arS ops).mapIdx (fun t x => (f (i + t), .inl (cA x.1, x.2, .inl (fun _ => 0))))
  | [], i => by simp [ac_ar, ac_arS]
  | (k, ix, w, .inl (i0, len, n, N, z)) :: ops, i => by
    have ih := ac_ar_ok (cA := cA) (f := f) ops (i + 1)
    have e1 : ac_n ((k, ix, w, .inl (i0, len, n, N, z)) :: ops) = ac_n ops + 1 := rfl
    rw [e1, List.range'_succ, List.map_cons]
    simp only [ac_ar, ac_arS, List.mapIdx_cons]
    rw [ih]
    congr 2
    funext t x
    rw [show i + 1 + t = i + (t + 1) by omega]
  | (k, ix, w, .inr o) :: ops, i => by
    have ih := ac_ar_ok (cA := cA) (f := f) ops i
    have e1 : ac_n ((k, ix, w, .inr o) :: ops) = ac_n ops := rfl
    rw [e1]
    simp only [ac_ar, ac_arS]
    exact ih
theorem ac_she {cA : Bool → ClassId} {ci : Nat} {df : List Value} {dS : List (Option (Option Nat))} {ops : List ac_Op} {sh : ai_Sh} {shf : List (Option Nat)} (hdf : ∀ ad, dS.map (ac_tau ad) = df) (h1 : ac_sy (ac_n ops) dS ops 0 = shf.map some) (h2 : sh = .inr (ci, shf) :: (ac_arS ops).map .inl) (h0 : Nat) (f r : Nat → Nat) :
    (((h0, .inr (ci, ac_fs (ac_rr h0 r) df ops ((List.range (ac_n ops)).map f))) :: ac_ar cA ops ((List.range (ac_n ops)).map f)) : va_W) = ai_ws cA (ac_ad (ac_n ops) h0 f r) sh (fun _ _ => 0) := by
  rw [List.range_eq_range', ac_ar_ok, ← hdf (ac_ad (ac_n ops) h0 f r), ac_sy_ok ops dS 0 (Nat.zero_add _), h1, h2]
  unfold ai_ws
  rw [List.mapIdx_cons]
  congr 1
  · show (h0, (.inr (ci, _) : va_E)) = (ac_ad (ac_n ops) h0 f r 0, .inr (ci, _))
    congr 3
    apply List.ext_getElem?
    intro i
    rw [List.getElem?_map, List.getElem?_map, List.getElem?_mapIdx]
    cases shf[i]? with
    | none => rfl
    | some o => cases o <;> rfl
  · apply List.ext_getElem?
    intro i
    rw [List.getElem?_mapIdx, List.getElem?_mapIdx, List.getElem?_map]
    cases hz : (ac_arS ops)[i]? with
    | none => rfl
    | some o =>
      obtain ⟨z, N⟩ := o
      have hi : i < ac_n ops := by
        have h3 : i < (ac_arS ops).length := (List.getElem?_eq_some_iff.mp hz).1
        have h4 : ∀ ops : List ac_Op, (ac_arS ops).length = ac_n ops := by
          intro ops
          induction ops with
          | nil => rfl
          | cons o ops ih =>
            obtain ⟨k, ix, w, o⟩ := o
            cases o with
            | inl o => obtain ⟨i0, len, n, N, z⟩ := o; simp only [ac_arS, ac_n, List.length_cons, ih]
            | inr o => simp only [ac_arS, ac_n, ih]
        rw [h4] at h3
        exact h3
      show some (f (0 + i), (.inl (cA z, N, .inl (fun _ => 0)) : va_E)) = some (ac_ad (ac_n ops) h0 f r (i + 1), .inl (cA z, N, .inl (fun _ => 0)))
      rw [show ac_ad (ac_n ops) h0 f r (i + 1) = if i < ac_n ops then f i else r (i - ac_n ops) from rfl, if_pos hi, Nat.zero_add]
def dfM : List Value := [.int 0, .int 0, .null, .null, .null, .null, .null, .null, .null, .null, .null, .null, .null, .int 0, .null, .null, .null, .null, .null, .null, .null, .int 0, .null, .null, .int 0, .null, .null, .int 0, .null, .int 0, .null, .null, .int 0, .int 0, .null, .null, .null, .null, .null, .null, .int 0, .null, .null, .null, .null, .null, .null, .null, .null, .int 0, .int 0, .int 0, .int 0, .null, .int 0, .int 0]
def dsM : List (Option (Option Nat)) := [some none, some none, none, none, none, none, none, none, none, none, none, none, none, some none, none, none, none, none, none, none, none, some none, none, none, some none, none, none, some none, none, some none, none, none, some none, some none, none, none, none, none, none, none, some none, none, none, none, none, none, none, none, none, some none, some none, some none, some none, none, some none, some none]
def sfM : List (Option Nat) := [none, none, some 1, some 2, some 3, some 4, some 5, some 6, some 7, some 8, some 9, some 10, some 11, none, some 12, some 13, some 14, some 15, some 16, some 17, some 18, none, some 19, some 20, none, some 21, some 22, none, some 23, none, some 24, some 25, none, none, some 26, some 27, some 28, some 29, some 30, some 31, none, some 32, some 33, some 34, some 35, some 36, some 37, some 38, some 39, none, none, none, none, some 40, none, none]
theorem sh1_M : ac_sy (ac_n opM) dsM opM 0 = sfM.map some := by decide +kernel
theorem sh2_M : shM = .inr (8, sfM) :: (ac_arS opM).map .inl := by decide +kernel
theorem sh3_M (ad : Nat → Nat) : dsM.map (ac_tau ad) = dfM := rfl
theorem sh4_M : dfM.length = 56 ∧ ac_n opM = 40 ∧ ac_sum opM = 96686 ∧ shM.length = ac_n opM + 1 := by decide +kernel
theorem ct_M (l : Launch) (D : va_G) (cA : Bool → ClassId) : ac_Met l D cA yX8_init cX8_init 2 8 dfM [] shM gM 40 96686 1 0 := by
  have h := ac_made l D cA (y := yX8_init) (bs := cX8_init) (nL := 2) (ci := 8) (T := TX8) (N := 56) (df := dfM) (rs := []) (sh := shM) (ops := opM) (g := gM) (oix := 1) (pe := 337) (fuel := 300) (fuel2 := 1000) (mt := mtM) (ki := kiM) (mci := mciM) (ml := mlM) (cd := cdM) (d := 0) (by decide +kernel) rfl rfl sh4_M.1 (Nat.le_of_ble_eq_true rfl) ad0_M ad1_M aw_M ao_M (ac_she sh3_M sh1_M sh2_M) sh4_M.2.2.2 ruM ak_M ckM mokM
  rw [sh4_M.2.1, sh4_M.2.2.1] at h
  exact h
