/-! rows on bits, shifts and unsigned numbers, to paste: each family out of a closed proof of our own, whole with what it rests on; each by itself clean at Lean in its own claim (generation 39, form 5). Take a family whole -/
/-! ===== Int32 by its bits: bt x i ===== -/
def bt (x : Int32) (i : Nat) : Bool := x.toBitVec.getLsbD i
theorem b_ext {x y : Int32} (h : ∀ i, i < 32 → bt x i = bt y i) : x = y := Int32.toBitVec_inj.mp (BitVec.eq_of_getLsbD_eq (fun i hi => h i hi))
theorem b_or (x y : Int32) (i : Nat) : bt (x ||| y) i = (bt x i || bt y i) := by unfold bt; rw [Int32.toBitVec_or, BitVec.getLsbD_or]
theorem b_and (x y : Int32) (i : Nat) : bt (x &&& y) i = (bt x i && bt y i) := by unfold bt; rw [Int32.toBitVec_and, BitVec.getLsbD_and]
theorem b_xor (x y : Int32) (i : Nat) : bt (x ^^^ y) i = (bt x i ^^ bt y i) := by unfold bt; rw [Int32.toBitVec_xor, BitVec.getLsbD_xor]
theorem b_big {x : Int32} {i : Nat} (h : 32 ≤ i) : bt x i = false := BitVec.getLsbD_of_ge _ _ h
theorem b_255 (i : Nat) : bt 255 i = decide (i < 8) := by
  rcases Nat.lt_or_ge i 32 with h | h
  · exact (by decide +kernel : ∀ i, i < 32 → bt 255 i = decide (i < 8)) i h
  · rw [b_big h, decide_eq_false (by omega)]
theorem b_65535 (i : Nat) : bt 65535 i = decide (i < 16) := by
  rcases Nat.lt_or_ge i 32 with h | h
  · exact (by decide +kernel : ∀ i, i < 32 → bt 65535 i = decide (i < 16)) i h
  · rw [b_big h, decide_eq_false (by omega)]
theorem b_m1 : ∀ i, i < 32 → bt (-1) i = true := by decide +kernel
theorem b_0 (i : Nat) : bt 0 i = false := BitVec.getLsbD_zero
theorem s_l : ∀ n, n < 32 → ((nI n &&& 31).toBitVec.smod 32).toNat = n := by decide +kernel
theorem s_u : ∀ n, n < 32 → (((nI n).toUInt32 &&& Int32.toUInt32 31).toBitVec % 32).toNat = n := by decide +kernel
theorem b_shl (n : Nat) (hn : n < 32) (x : Int32) {i : Nat} (hi : i < 32) : bt (x <<< (nI n &&& 31)) i = (decide (n ≤ i) && bt x (i - n)) := by
  unfold bt
  rw [Int32.toBitVec_shiftLeft]
  show (x.toBitVec <<< ((nI n &&& 31).toBitVec.smod 32).toNat).getLsbD i = _
  rw [s_l n hn, BitVec.getLsbD_shiftLeft]
  rcases Nat.lt_or_ge i n with h | h
  · simp [h, Nat.not_le.mpr h]
  · simp [hi, h, Nat.not_lt.mpr h]
theorem b_ushr (n : Nat) (hn : n < 32) (x : Int32) (i : Nat) : bt ((x.toUInt32 >>> ((nI n).toUInt32 &&& Int32.toUInt32 31)).toInt32) i = bt x (n + i) := by
  show (x.toUInt32 >>> ((nI n).toUInt32 &&& Int32.toUInt32 31)).toBitVec.getLsbD i = x.toUInt32.toBitVec.getLsbD (n + i)
  rw [UInt32.toBitVec_shiftRight]
  show (x.toUInt32.toBitVec >>> (((nI n).toUInt32 &&& Int32.toUInt32 31).toBitVec % 32).toNat).getLsbD i = _
  rw [s_u n hn, BitVec.getLsbD_ushiftRight]
theorem b_sshr (n : Nat) (hn : n < 32) (x : Int32) {i : Nat} (hi : i < 32) : bt (x >>> (nI n &&& 31)) i = if n + i < 32 then bt x (n + i) else bt x 31 := by
  unfold bt
  rw [Int32.toBitVec_shiftRight]
  show (x.toBitVec.sshiftRight ((nI n &&& 31).toBitVec.smod 32).toNat).getLsbD i = _
  rw [s_l n hn, BitVec.getLsbD_sshiftRight, BitVec.msb_eq_getLsbD_last]
  simp [hi]
theorem bt_1 : ∀ i, i < 32 → bt 1 i = decide (i = 0) := by decide +kernel
theorem bt_tst (x : Int32) {j : Nat} (hj : j < 32) : ((x >>> (nI j &&& 31)) &&& 1 = 1) ↔ bt x j = true := by
  have h0 : bt (x >>> (nI j &&& 31)) 0 = bt x j := by
    rw [b_sshr j hj x (by omega)]
    rw [if_pos (by omega), Nat.add_zero]
  constructor
  · intro h
    have := congrArg (fun z => bt z 0) h
    simp only [b_and, h0] at this
    rw [bt_1 0 (by omega)] at this
    simpa using this
  · intro h
    apply b_ext
    intro i hi
    rw [b_and, bt_1 i hi]
    by_cases e : i = 0
    · subst e; rw [h0, h]; rfl
    · simp [e]
theorem bt_set (x : Int32) {j i : Nat} (hj : j < 32) (hi : i < 32) : bt (x ||| ((1 : Int32) <<< (nI j &&& 31))) i = (bt x i || decide (i = j)) := by
  rw [b_or, b_shl j hj 1 hi]
  congr 1
  by_cases e : i = j
  · subst e; simp [bt_1]
  · by_cases z : j ≤ i
    · rw [bt_1 _ (by omega)]; simp [e, z]; omega
    · simp [z, e]
theorem bt_one {j i : Nat} (hj : j < 32) (hi : i < 32) : bt ((1 : Int32) <<< (nI j &&& 31)) i = decide (i = j) := by
  rw [b_shl j hj 1 hi]
  by_cases e : i = j
  · subst e; simp [bt_1]
  · by_cases z : j ≤ i
    · rw [bt_1 _ (by omega)]; simp [e, z]; omega
    · simp [z, e]
theorem rch_fuel {D : DS} {nd : Nat} (hdw : dWf D nd) : ∀ (n n' e t : Nat), e < nd → e ≤ n → e ≤ n' → rch D n e t = rch D n' e t
  | 0, 0, _, _, _, _, _ => rfl
  | 0, n' + 1, e, t, he, h1, _ => by
    have : e = 0 := by omega
    subst this
    simp only [rch]
    have : (dsR D 0).any (fun P => rch D n' (dcl P) t) = false := by
      rw [List.any_eq_false]
      intro P hP
      have := ((hdw.2.2.2.1 0 he).2.2.1 P hP).2.1
      omega
    rw [this, Bool.or_false]
  | n + 1, 0, e, t, he, _, h2 => by
    have : e = 0 := by omega
    subst this
    simp only [rch]
    have : (dsR D 0).any (fun P => rch D n (dcl P) t) = false := by
      rw [List.any_eq_false]
      intro P hP
      have := ((hdw.2.2.2.1 0 he).2.2.1 P hP).2.1
      omega
    rw [this, Bool.or_false]
  | n + 1, n' + 1, e, t, he, h1, h2 => by
    simp only [rch]
    congr 1
    apply Bool.eq_iff_iff.mpr
    rw [List.any_eq_true, List.any_eq_true]
    constructor
    · rintro ⟨P, hP, q⟩
      have hlt := ((hdw.2.2.2.1 e he).2.2.1 P hP).2.1
      exact ⟨P, hP, by rw [← rch_fuel hdw n n' (dcl P) t (by omega) (by omega) (by omega)]; exact q⟩
    · rintro ⟨P, hP, q⟩
      have hlt := ((hdw.2.2.2.1 e he).2.2.1 P hP).2.1
      exact ⟨P, hP, by rw [rch_fuel hdw n n' (dcl P) t (by omega) (by omega) (by omega)]; exact q⟩
theorem rch_iff {D : DS} {nd e t : Nat} (hdw : dWf D nd) (he : e < nd) : rch D 12 e t = true ↔ e = t ∨ ∃ P ∈ dsR D e, rch D 12 (dcl P) t = true := by
  have h12 := hdw.2.1
  rw [rch_fuel hdw 12 13 e t he (by omega) (by omega)]
  simp only [rch, Bool.or_eq_true, beq_iff_eq, List.any_eq_true]
theorem rch_le {D : DS} {nd : Nat} (hdw : dWf D nd) : ∀ (n e t : Nat), e ≤ n → e < nd → rch D 12 e t = true → t ≤ e := by
  intro n
  induction n with
  | zero =>
    intro e t h1 h2 h3
    rcases (rch_iff hdw h2).mp h3 with q | ⟨P, hP, q⟩
    · omega
    · have := ((hdw.2.2.2.1 e h2).2.2.1 P hP).2.1; omega
  | succ n ih =>
    intro e t h1 h2 h3
    rcases (rch_iff hdw h2).mp h3 with q | ⟨P, hP, q⟩
    · omega
    · have := ((hdw.2.2.2.1 e h2).2.2.1 P hP).2.1
      have := ih (dcl P) t (by omega) (by omega) q; omega
theorem rch_tr {D : DS} {nd : Nat} (hdw : dWf D nd) : ∀ (n e f t : Nat), e ≤ n → e < nd → rch D 12 e f = true → rch D 12 f t = true → rch D 12 e t = true := by
  intro n
  induction n with
  | zero =>
    intro e f t h1 h2 h3 h4
    rcases (rch_iff hdw h2).mp h3 with q | ⟨P, hP, q⟩
    · rw [q]; exact h4
    · have := ((hdw.2.2.2.1 e h2).2.2.1 P hP).2.1; omega
  | succ n ih =>
    intro e f t h1 h2 h3 h4
    rcases (rch_iff hdw h2).mp h3 with q | ⟨P, hP, q⟩
    · rw [q]; exact h4
    · have := ((hdw.2.2.2.1 e h2).2.2.1 P hP).2.1
      exact (rch_iff hdw h2).mpr (Or.inr ⟨P, hP, ih (dcl P) f t (by omega) (by omega) q h4⟩)
theorem mRow_dcl {h : ai_H} {ts : Nat → Ty} {m T nd k : Nat} (hT : mTab h ts m T nd) (hk : mLv m T k) (hf : foT (ts k) = 5) : h 2 k = nI (dcl (ts k)) ∧ dcl (ts k) < nd := by
  rcases (hT.2.2.2.2.2.2.1 k hk).1 with ⟨w1, w2, w3⟩ | ⟨w0, d2, p2, w1, -⟩ | ⟨w0, e2, w1, -⟩ | ⟨w0, d2, n2, g2, o2, w1, w2, w3, w4, -⟩
  · rw [w2] at hf; simp only [tP, foT] at hf; split at hf
    · omega
    · split at hf <;> omega
  · rw [w1] at hf; simp [tV, foT] at hf
  · rw [w1] at hf; simp [tA, foT] at hf
  · have : dcl (ts k) = d2 := by rw [w1]; rfl
    rw [this]; exact ⟨w3, w4⟩
theorem flt_fo {d : Nat} {t : Ty} (h : fltT d t) : foT t = 5 := by
  obtain ⟨e, o, a, b, c, rfl, -⟩ := h
  rfl
set_option maxHeartbeats 1000000 in
/-- comesTo(from, to) -/
theorem cM_comesTo {d : Nat} (hd : 1 ≤ d) {Z : List Ty} {D : DS} {h : ai_H} {ts : Nat → Ty} {m T nd e t : Nat} (hI : mInv Z D h ts m T nd) (he : e < nd) (ht : t < nd) : CM d 19 [.ref 0, .int (nI e), .int (nI t)] h (some (.int (if rch D 12 e t = true then 1 else 0))) h := by
  obtain ⟨⟨hTab, hT1, -, -⟩, ⟨-, hdec⟩, hdw, hwfn, hwfz, h10⟩ := hI
  obtain ⟨t0, t1, t2, t3, t4, t5, hrow, hinj⟩ := id hTab
  refine iMe hd rfl (sM_19_0 ?_)
  have L : ∀ (f dd : Nat) (x3 : Int32) (o5 : Option Value), dd ≤ f → dd < nd → (∀ j, j < 12 → bt x3 j = true → rch D 12 e j = true) → bt x3 e = true → (∀ j, dd < j → j < nd → bt x3 j = true → ∀ P ∈ dsR D j, bt x3 (dcl P) = true) → RM (d - 1) 19 (fun r h2 => r = some (.int (if rch D 12 e t = true then 1 else 0)) ∧ h2 = h) 7 [some (.ref 0), some (.int (nI e)), some (.int (nI t)), some (.int x3), some (.int (nI dd)), o5] [] h := by
    intro f
    induction f with
    | zero =>
      intro dd x3 o5 a1 a2 a3 a4 a5
      have hle : nI dd ≤ nI t := by rw [leN (by omega) (by omega)]; omega
      have key : rch D 12 e t = true → bt x3 t = true := by
        intro q
        have cl : ∀ (n j : Nat), j ≤ n → j < nd → bt x3 j = true → rch D 12 j t = true → bt x3 t = true := by
          intro n
          induction n with
          | zero =>
            intro j b1 b2 b3 b4
            have := rch_le hdw j j t (Nat.le_refl _) b2 b4
            rw [show t = j by omega]; exact b3
          | succ n ih =>
            intro j b1 b2 b3 b4
            rcases (rch_iff hdw b2).mp b4 with z | ⟨P, hP, z⟩
            · rw [← z]; exact b3
            · have hlt := ((hdw.2.2.2.1 j b2).2.2.1 P hP).2.1
              have := rch_le hdw (dcl P) (dcl P) t (Nat.le_refl _) (by omega) z
              exact ih (dcl P) (by omega) (by omega) (a5 j (by omega) b2 b3 P hP) z
        exact cl e e (Nat.le_refl _) he a4 q
      refine sM_19_7 ⟨fun _ => ⟨fun c => ⟨?_, rfl⟩, fun c => ⟨?_, rfl⟩⟩, fun c => absurd hle c⟩
      · rw [bt_tst x3 (by omega)] at c
        rw [if_neg (fun q => c (key q))]
      · rw [bt_tst x3 (by omega)] at c
        rw [if_pos (a3 t (by omega) c)]
    | succ f ih =>
      intro dd x3 o5 a1 a2 a3 a4 a5
      rcases Nat.lt_or_ge t dd with htd | htd
      · -- the PARENTS of dd
        have hnle : ¬ nI dd ≤ nI t := by rw [leN (by omega) (by omega)]; omega
        refine sM_19_7 ⟨fun c => absurd c hnle, fun _ => ?_⟩
        obtain ⟨-, -, -, ⟨p1, p2⟩, -⟩ := hdec dd a2
        obtain ⟨-, -, hpar, hpl, -⟩ := hdw.2.2.2.1 dd a2
        have hm1 : nI dd + (-1) = nI (dd - 1) := by
          obtain ⟨q, rfl⟩ : ∃ q, dd = q + 1 := ⟨dd - 1, by omega⟩
          rw [pk_m1]; rfl
        have L2 : ∀ (f2 i : Nat) (x3 : Int32), (dsR D dd).length - i ≤ f2 → i ≤ (dsR D dd).length → (∀ j, j < 12 → bt x3 j = true → rch D 12 e j = true) → bt x3 e = true → (∀ j, dd < j → j < nd → bt x3 j = true → ∀ P ∈ dsR D j, bt x3 (dcl P) = true) → (bt x3 dd = true → ∀ j P, j < i → (dsR D dd)[j]? = some P → bt x3 (dcl P) = true) → RM (d - 1) 19 (fun r h2 => r = some (.int (if rch D 12 e t = true then 1 else 0)) ∧ h2 = h) 16 [some (.ref 0), some (.int (nI e)), some (.int (nI t)), some (.int x3), some (.int (nI dd)), some (.int (nI i))] [] h := by
          intro f2
          induction f2 with
          | zero =>
            intro i x3 b1 b2 b3 b4 b5 b6
            have hi : i = (dsR D dd).length := by omega
            refine sM_19_16 ⟨inN (by omega) (by decide), fun _ => ?_, fun c => absurd ?_ c⟩
            · rw [hm1]
              refine ih (dd - 1) x3 _ (by omega) (by omega) b3 b4 (fun j z1 z2 z3 P hP => ?_)
              rcases Nat.lt_or_ge dd j with y | y
              · exact b5 j y z2 z3 P hP
              · have : j = dd := by omega
                subst this
                obtain ⟨q, hq, hq2⟩ := List.mem_iff_getElem.mp hP
                exact b6 z3 q P (by omega) (by rw [List.getElem?_eq_getElem hq, hq2])
            · rw [clp (by omega), p1, hi]; exact Int32.le_refl _
          | succ f2 ih2 =>
            intro i x3 b1 b2 b3 b4 b5 b6
            rcases Nat.lt_or_ge i (dsR D dd).length with hin | hin
            · refine sM_19_16 ⟨inN (by omega) (by decide), fun c => ?_, fun _ => ⟨fun c => ?_, fun c => ?_⟩⟩
              · rw [clp (by omega), p1, leN (by omega) (by omega)] at c; omega
              · rw [bt_tst x3 (by omega)] at c
                rw [hm1]
                refine ih (dd - 1) x3 _ (by omega) (by omega) b3 b4 (fun j z1 z2 z3 P hP => ?_)
                rcases Nat.lt_or_ge dd j with y | y
                · exact b5 j y z2 z3 P hP
                · have : j = dd := by omega
                  subst this
                  exact absurd z3 c
              · rw [bt_tst x3 (by omega)] at c
                obtain ⟨kp, q1, q2, q3⟩ := p2 i _ (List.getElem?_eq_getElem hin)
                have hP := hpar _ (List.getElem_mem hin)
                have hlv : mLv m T kp := Or.inl q1
                have hkl := mLv_lt t2 t4 hlv
                obtain ⟨r2, r3⟩ := mRow_dcl hTab hlv (by rw [q3]; exact flt_fo hP.1)
                rw [q3] at r2 r3
                rw [mul3, clp (by omega), q2, clp (by omega), r2, nI_1]
                refine ⟨inN (by omega) (by decide), inN hkl (by decide), ?_⟩
                have hset : ∀ j, j < 32 → bt (x3 ||| ((1 : Int32) <<< (nI (dcl (dsR D dd)[i]) &&& 31))) j = (bt x3 j || decide (j = dcl (dsR D dd)[i])) := fun j hj => bt_set x3 (by omega) hj
                have mono : ∀ j, j < 32 → bt x3 j = true → bt (x3 ||| ((1 : Int32) <<< (nI (dcl (dsR D dd)[i]) &&& 31))) j = true := fun j hj z => by rw [hset j hj, z]; rfl
                refine ih2 (i + 1) _ (by omega) (by omega) (fun j z1 z2 => ?_) (mono e (by omega) b4) (fun j z1 z2 z3 P hP => ?_) (fun z0 j P z1 z2 => ?_)
                · rw [hset j (by omega), Bool.or_eq_true, decide_eq_true_eq] at z2
                  rcases z2 with z2 | z2
                  · exact b3 j z1 z2
                  · have h1 := b3 dd (by omega) c
                    rw [z2]
                    exact rch_tr hdw e e dd _ (Nat.le_refl _) he h1 ((rch_iff hdw a2).mpr (Or.inr ⟨_, List.getElem_mem hin, (rch_iff hdw (by omega)).mpr (Or.inl rfl)⟩))
                · rw [hset j (by omega), Bool.or_eq_true, decide_eq_true_eq] at z3
                  rcases z3 with z3 | z3
                  · have hlt := ((hdw.2.2.2.1 j z2).2.2.1 P hP).2.1
                    exact mono _ (by omega) (b5 j z1 z2 z3 P hP)
                  · have := hP; omega
                · have hPm := List.mem_of_getElem? z2
                  have hlt := (hpar P hPm).2.1
                  rcases Nat.lt_or_ge j i with y | y
                  · exact mono _ (by omega) (b6 c j P y z2)
                  · have : j = i := by omega
                    subst this
                    rw [List.getElem?_eq_getElem hin] at z2
                    rw [hset _ (by omega), Option.some.inj z2, decide_eq_true rfl, Bool.or_true]
            · exact ih2 i x3 (by omega) b2 b3 b4 b5 b6
        exact L2 _ 0 x3 (Nat.le_refl _) (by omega) a3 a4 a5 (fun _ j P q => by omega)
      · have hle : nI dd ≤ nI t := by rw [leN (by omega) (by omega)]; omega
        have key : rch D 12 e t = true → bt x3 t = true := by
          intro q
          have cl : ∀ (n j : Nat), j ≤ n → j < nd → bt x3 j = true → rch D 12 j t = true → bt x3 t = true := by
            intro n
            induction n with
            | zero =>
              intro j b1 b2 b3 b4
              have := rch_le hdw j j t (Nat.le_refl _) b2 b4
              rw [show t = j by omega]; exact b3
            | succ n ih =>
              intro j b1 b2 b3 b4
              rcases (rch_iff hdw b2).mp b4 with z | ⟨P, hP, z⟩
              · rw [← z]; exact b3
              · have hlt := ((hdw.2.2.2.1 j b2).2.2.1 P hP).2.1
                have := rch_le hdw (dcl P) (dcl P) t (Nat.le_refl _) (by omega) z
                exact ih (dcl P) (by omega) (by omega) (a5 j (by omega) b2 b3 P hP) z
          exact cl e e (Nat.le_refl _) he a4 q
        refine sM_19_7 ⟨fun _ => ⟨fun c => ⟨?_, rfl⟩, fun c => ⟨?_, rfl⟩⟩, fun c => absurd hle c⟩
        · rw [bt_tst x3 (by omega)] at c
          rw [if_neg (fun q => c (key q))]
        · rw [bt_tst x3 (by omega)] at c
          rw [if_pos (a3 t (by omega) c)]
  refine L e e _ none (Nat.le_refl _) he (fun j z1 z2 => ?_) ?_ (fun j z1 z2 z3 P hP => ?_)
  · rw [bt_one (by omega) (by omega), decide_eq_true_eq] at z2
    exact (rch_iff hdw he).mpr (Or.inl z2.symm)
  · rw [bt_one (by omega) (by omega), decide_eq_true_eq]
  · rw [bt_one (by omega) (by omega), decide_eq_true_eq] at z3; omega
