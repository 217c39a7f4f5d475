def fA (c : Nat) : Prop := c = 21 ∨ c = 22
def fA0 (j : Nat) : Prop := j = 32 ∨ j = 33
/-- where a part's map stands -/
def mMp (h : ai_H) (ts : Nat → Ty) (m T : Nat) (D : DS) (st : Ty) (tsk : Ty) (p : Nat) : Prop := ∃ r, h 11 p = nI r ∧ mLv m T r ∧ ts r = puT D st tsk
theorem puT_fo {D : DS} {st : Ty} {t : Ty} (h : foT t = 4 ∨ foT t = 5) (hw : ∃ nd, wfT D nd t) : foT (puT D st t) = foT t := by
  obtain ⟨nd, hw⟩ := hw
  unfold wfT at hw
  split at hw
  · simp only [foT] at h
    split at h
    · omega
    · split at h <;> omega
  · simp [foT] at h
  · rfl
  · rfl
  · simp [foT] at h
  · simp [foT] at h
  · simp [foT] at h
  · exact hw.elim
set_option maxHeartbeats 1000000 in
theorem cM_putArgument {d : Nat} (hd : 2 ≤ d) {Z : List Ty} {D : DS} {h : ai_H} {ts : Nat → Ty} {m T nd s i : Nat} {x2 x3 : Int32} {g : Ty} (hI : mInv Z D h ts m T nd) (hi : i < 3) (hs : mLv m T s) (hsc : foT (ts s) = 5) (hraw : rwT (dsP D) (ts s) = false)
    (hg : (x2 = 3 ∧ g = tY) ∨ ∃ w t, w < 3 ∧ x2 = nI w ∧ x3 = nI t ∧ mLv m T t ∧ 10 ≤ t ∧ g = tG w (ts t) ∧ mMp h ts m T D (ts s) (ts t) t) :
    ∃ h', CM d 16 [.ref 0, .int (nI i), .int x2, .int x3, .int (nI s)] h none h' ∧ mEx Z D fA fA0 h ts m T nd h' ts T ∧ mNs h' ts m T i (puT D (ts s) g) ∧ ∀ j, j ≠ i → h' 21 j = h 21 j ∧ h' 22 j = h 22 j := by
  have hT := hI.1.1
  obtain ⟨t0, t1, t2, t3, t4, t5, hrow, hinj⟩ := hT
  suffices hss : ∃ r h', CM d 16 [.ref 0, .int (nI i), .int x2, .int x3, .int (nI s)] h r h' ∧ (r = none ∧ mEx Z D fA fA0 h ts m T nd h' ts T ∧ mNs h' ts m T i (puT D (ts s) g) ∧ ∀ j, j ≠ i → h' 21 j = h 21 j ∧ h' 22 j = h 22 j) by
    obtain ⟨r, h', hc, rfl, q⟩ := hss
    exact ⟨h', hc, q⟩
  refine iM (by omega) rfl ?_
  have u21 : ∀ {H : ai_H} (x : Int32), mEx Z D fA fA0 h ts m T nd H ts T → mEx Z D fA fA0 h ts m T nd (ai_up H 21 i x) ts T := fun x q => mEx.up q x (Or.inr ⟨by omega, Or.inl rfl⟩)
  have u22 : ∀ {H : ai_H} (x : Int32), mEx Z D fA fA0 h ts m T nd H ts T → mEx Z D fA fA0 h ts m T nd (ai_up H 22 i x) ts T := fun x q => mEx.up q x (Or.inr ⟨by omega, Or.inr rfl⟩)
  -- two writes
  have fin : ∀ (H : ai_H) (a b : Int32), mEx Z D fA fA0 h ts m T nd H ts T → (∀ j, j ≠ i → H 21 j = h 21 j ∧ H 22 j = h 22 j) → ((a = 3 ∧ puT D (ts s) g = tY) ∨ ∃ w x, w < 3 ∧ a = nI w ∧ b = nI x ∧ mLv m T x ∧ 10 ≤ x ∧ puT D (ts s) g = tG w (ts x)) → ((none : Option Value) = none ∧ mEx Z D fA fA0 h ts m T nd (ai_up (ai_up H 21 i a) 22 i b) ts T ∧ mNs (ai_up (ai_up H 21 i a) 22 i b) ts m T i (puT D (ts s) g) ∧ ∀ j, j ≠ i → ai_up (ai_up H 21 i a) 22 i b 21 j = h 21 j ∧ ai_up (ai_up H 21 i a) 22 i b 22 j = h 22 j) := by
    intro H a b q1 q2 q3
    have e21 : ai_up (ai_up H 21 i a) 22 i b 21 i = a := by rw [up_k _ _ (by decide), up_s]
    have e22 : ai_up (ai_up H 21 i a) 22 i b 22 i = b := up_s _ _ _ _
    refine ⟨rfl, u22 b (u21 a q1), ?_, fun j hj => ?_⟩
    · rcases q3 with ⟨z1, z2⟩ | ⟨w, x, z1, z2, z3, z4, z5, z6⟩
      · exact Or.inl ⟨by rw [e21, z1], z2⟩
      · exact Or.inr ⟨w, x, z1, by rw [e21, z2], by rw [e22, z3], z4, z5, z6⟩
    · rw [up_k _ _ (by decide), up_i _ hj, up_i _ hj, up_k _ _ (by decide)]; exact q2 j hj
  have base := fin h
  rcases hg with ⟨rfl, rfl⟩ | ⟨w, t, g1, rfl, rfl, g4, g5, rfl, r, g7, g8, g9⟩
  · refine sM_16_0 ⟨inN hi (by decide), fun c => absurd rfl c, fun _ => ?_⟩
    rw [clp (by omega)]
    exact base 3 (-1) (mEx.rf hI) (fun _ _ => ⟨rfl, rfl⟩) (Or.inl ⟨rfl, rfl⟩)
  · have htl := mLv_lt t2 t4 g4
    have hrl := mLv_lt t2 t4 g8
    have w3 : ¬ nI w = 3 := by rw [show (3 : Int32) = nI 3 from rfl, neN (by omega) (by omega)]; omega
    refine sM_16_0 ⟨inN hi (by decide), fun _ => ⟨inN htl (by decide), ?_⟩, fun c => absurd c w3⟩
    rw [clp (by omega), clp (by omega), g7]
    have hwf := mInv_wf hI g4
    -- no VARIABLE: the map
    have plain : foT (ts t) = 4 ∨ foT (ts t) = 5 → puT D (ts s) (tG w (ts t)) = tG w (ts r) → ((none : Option Value) = none ∧ mEx Z D fA fA0 h ts m T nd (ai_up (ai_up h 21 i (nI w)) 22 i (nI r)) ts T ∧ mNs (ai_up (ai_up h 21 i (nI w)) 22 i (nI r)) ts m T i (puT D (ts s) (tG w (ts t))) ∧ ∀ j, j ≠ i → ai_up (ai_up h 21 i (nI w)) 22 i (nI r) 21 j = h 21 j ∧ ai_up (ai_up h 21 i (nI w)) 22 i (nI r) 22 j = h 22 j) := by
      intro hf hp
      refine base (nI w) (nI r) (mEx.rf hI) (fun _ _ => ⟨rfl, rfl⟩) (Or.inr ⟨w, r, g1, rfl, rfl, g8, ?_, hp⟩)
      exact mLv_fo hI.1.1 g8 (by rw [g9, puT_fo hf ⟨nd, hwf⟩]; omega)
    rcases (hrow t g4).1 with ⟨v1, v2, v3⟩ | ⟨v0, e, p, v1, v2, v3, v4, v5, v6⟩ | ⟨v0, e2, v1, v2, -⟩ | ⟨v0, d2, n2, gg, o2, v1, v2, -⟩
    · omega
    · -- a VARIABLE
      have hA : mEx Z D fA fA0 h ts m T nd (ai_up (ai_up h 21 i (nI w)) 22 i (nI r)) ts T := u22 _ (u21 _ (mEx.rf hI))
      have hAj : ∀ j, j ≠ i → ai_up (ai_up h 21 i (nI w)) 22 i (nI r) 21 j = h 21 j ∧ ai_up (ai_up h 21 i (nI w)) 22 i (nI r) 22 j = h 22 j := fun j hj => by rw [up_k _ _ (by decide), up_i _ hj, up_i _ hj, up_k _ _ (by decide)]; exact ⟨rfl, rfl⟩
      obtain ⟨r1, h1, c1, c2⟩ := cM_isTold (d := d - 1) (by omega) hA.1 g4 v1 hs hsc hraw
      refine ⟨fun c => absurd v2 c, fun _ => ⟨r1, h1, c1, ?_⟩⟩
      rcases c2 with ⟨rfl, rfl, c3⟩ | ⟨rfl, ww, aa, gg, c3, c4, c5⟩
      · refine ⟨fun _ => ?_, fun c => absurd rfl c⟩
        have hpv : puT D (ts s) (ts t) = ts t := by rw [v1]; simp only [tV, puT, c3]
        have hrt : r = t := hinj r t g8 g4 (by rw [g9, hpv])
        refine base (nI w) (nI r) (mEx.rf hI) (fun _ _ => ⟨rfl, rfl⟩) (Or.inr ⟨w, r, g1, rfl, rfl, g8, by omega, ?_⟩)
        rw [hrt, v1]; simp only [tV, tG, puT, c3]
      · have hB : mEx Z D fA fA0 h ts m T nd h1 ts T := by
          rw [c4]
          exact mEx.up (mEx.up hA ww (Or.inl ⟨rfl, by omega, by omega, by omega, Or.inl rfl⟩)) aa (Or.inl ⟨rfl, by omega, by omega, by omega, Or.inr rfl⟩)
        have hBj : ∀ j, j ≠ i → h1 21 j = h 21 j ∧ h1 22 j = h 22 j := fun j hj => by
          rw [c4, up_k (k := 0) (c := 21) _ _ (by decide), up_k (k := 0) (c := 21) _ _ (by decide), up_k (k := 0) (c := 22) _ _ (by decide), up_k (k := 0) (c := 22) _ _ (by decide)]; exact hAj j hj
        have e32 : h1 0 32 = ww := by rw [c4, up_i _ (by decide), up_s]
        have e33 : h1 0 33 = aa := by rw [c4, up_s]
        have hpu : puT D (ts s) (tG w (ts t)) = tolT w gg := by rw [v1]; simp only [tV, tG, puT, c3]
        rw [e32, e33]
        refine ⟨fun c => absurd c (by decide), fun _ => ⟨fun c => ?_, fun c => ⟨fun c2 => ?_, fun c2 => ⟨fun c3 => ?_, fun c3 => ?_⟩⟩⟩⟩
        · -- EXACT: as it tells
          have hw0 : w = 0 := by rw [show (0 : Int32) = nI 0 from rfl, neN (by omega) (by omega)] at c; exact c
          have ht : tolT w gg = gg := by rw [hw0]; rfl
          rw [up_s]
          rcases c5 with ⟨u1, u2, u3⟩ | ⟨w0, a0, u1, u2, u3, u4, u5, u6⟩
          · exact ⟨fun c => absurd u1 c, fun _ => fin h1 _ _ hB hBj (Or.inl ⟨u1, by rw [hpu, ht, u3]⟩)⟩
          · refine ⟨fun _ => fin h1 _ _ hB hBj (Or.inr ⟨w0, a0, u1, u2, u3, u4, u5, by rw [hpu, ht, u6]⟩), fun c => ?_⟩
            exfalso
            rw [u2, show (3 : Int32) = nI 3 from rfl, neN (by omega) (by omega)] at c; omega
        · rcases c5 with ⟨u1, u2, u3⟩ | ⟨w0, a0, u1, u2, u3, u4, u5, u6⟩
          · rw [u1] at c2; exact absurd c2 (by decide)
          · have hw0 : ¬ w = 0 := fun q => c (by rw [q]; rfl)
            have hu0 : w0 = 0 := by rw [u2, show (0 : Int32) = nI 0 from rfl, neN (by omega) (by omega)] at c2; exact c2
            have ht : tolT w gg = tG w (ts a0) := by rw [u6]; simp only [tolT, if_neg hw0, tG, hu0, true_or, if_true]
            rw [up_s]
            exact ⟨fun _ => fin h1 _ _ hB hBj (Or.inr ⟨w, a0, g1, rfl, u3, u4, u5, by rw [hpu, ht]⟩), fun c => absurd c w3⟩
        · have hw0 : ¬ w = 0 := fun q => c (by rw [q]; rfl)
          rw [up_s]
          refine ⟨fun c => absurd rfl c, fun _ => fin h1 _ _ hB hBj (Or.inl ⟨rfl, ?_⟩)⟩
          rw [hpu]
          rcases c5 with ⟨u1, u2, u3⟩ | ⟨w0, a0, u1, u2, u3, u4, u5, u6⟩
          · rw [u3]; simp only [tolT, if_neg hw0, tY]
          · rw [u6]
            simp only [tolT, if_neg hw0, tG]
            rw [if_neg]
            rintro (q | q)
            · rw [u2, q] at c2; exact c2 rfl
            · rw [u2, q] at c3; exact c3 rfl
        · have hw0 : ¬ w = 0 := fun q => c (by rw [q]; rfl)
          rcases c5 with ⟨u1, u2, u3⟩ | ⟨w0, a0, u1, u2, u3, u4, u5, u6⟩
          · rw [u1] at c3; exact absurd c3.symm w3
          · have huw : w0 = w := by rw [u2, neN (by omega) (by omega)] at c3; exact c3
            have ht : tolT w gg = tG w (ts a0) := by rw [u6]; simp only [tolT, if_neg hw0, tG, huw, or_true, if_true]
            rw [up_s]
            exact ⟨fun _ => fin h1 _ _ hB hBj (Or.inr ⟨w, a0, g1, rfl, u3, u4, u5, by rw [hpu, ht]⟩), fun c => absurd c w3⟩
    · refine ⟨fun _ => plain (Or.inl (by rw [v1]; rfl)) (by rw [g9, v1]; rfl), fun c => ?_⟩
      rw [v2] at c; exact absurd c (by decide)
    · refine ⟨fun _ => plain (Or.inr (by rw [v1]; rfl)) (by rw [g9, v1]; rfl), fun c => ?_⟩
      rw [v2] at c; exact absurd c (by decide)
