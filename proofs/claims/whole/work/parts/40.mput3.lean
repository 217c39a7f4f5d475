def fQ (c : Nat) : Prop := (1 ≤ c ∧ c ≤ 9) ∨ c = 11 ∨ c = 21 ∨ c = 22 ∨ c = 25
theorem puT_N (D : DS) (st : Ty) : puT D st tN = tN := rfl
theorem puT_Y (D : DS) (st : Ty) : puT D st tY = tY := rfl
theorem puT_C (D : DS) (st : Ty) (d : Nat) (o a b c : Ty) : puT D st (tC d o a b c) = tC d (puT D st o) (puT D st a) (puT D st b) (puT D st c) := rfl
set_option maxHeartbeats 2000000 in
theorem cM_putPart {d : Nat} (hd : 6 ≤ d) {Z : List Ty} {D : DS} {h : ai_H} {ts : Nat → Ty} {m T nd s k : Nat} (hI : mInv Z D h ts m T nd) (hk : mLv m T k) (hs : mLv m T s) (hsc : foT (ts s) = 5) (hraw : rwT (dsP D) (ts s) = false) (hZb : ∀ e, e < nd → brT (dsO D) 12 e ∈ Z)
    (hZp : foT (ts k) = 4 ∨ foT (ts k) = 5 → puT D (ts s) (ts k) ∈ Z) (hmp : ∀ p, p < 6256 → 10 ≤ k → mPr h k p → mMp h ts m T D (ts s) (ts p) p) :
    ∃ h', CM d 18 [.ref 0, .int (nI k), .int (nI s)] h none h' ∧ ∃ ts' T', mEx Z D fQ fP0 h ts m T nd h' ts' T' ∧ mMp h' ts' m T' D (ts s) (ts k) k ∧ ∀ j, j ≠ k → h' 11 j = h 11 j := by
  have hI0 := hI
  obtain ⟨⟨⟨t0, t1, t2, t3, t4, t5, hrow, hinj⟩, hT1, -, -⟩, ⟨-, hdec⟩, hdw, hwfn, hwfz, h10⟩ := hI
  have hkl := mLv_lt t2 t4 hk
  suffices hss : ∃ r h', CM d 18 [.ref 0, .int (nI k), .int (nI s)] h r h' ∧ (r = none ∧ ∃ ts' T', mEx Z D fQ fP0 h ts m T nd h' ts' T' ∧ mMp h' ts' m T' D (ts s) (ts k) k ∧ ∀ j, j ≠ k → h' 11 j = h 11 j) by
    obtain ⟨r, h', hc, rfl, q⟩ := hss
    exact ⟨h', hc, q⟩
  refine iM (by omega) rfl ?_
  -- the row's map, last of all
  have fin : ∀ (H : ai_H) (tsH : Nat → Ty) (TH r : Nat), mEx Z D fQ fP0 h ts m T nd H tsH TH → (∀ j, H 11 j = h 11 j) → mLv m TH r → tsH r = puT D (ts s) (ts k) → ((none : Option Value) = none ∧ ∃ ts' T', mEx Z D fQ fP0 h ts m T nd (ai_up H 11 k (nI r)) ts' T' ∧ mMp (ai_up H 11 k (nI r)) ts' m T' D (ts s) (ts k) k ∧ ∀ j, j ≠ k → ai_up H 11 k (nI r) 11 j = h 11 j) := by
    intro H tsH TH r q1 q2 q3 q4
    exact ⟨rfl, tsH, TH, mEx.up q1 (nI r) (Or.inr ⟨by omega, Or.inr (Or.inl rfl)⟩), ⟨r, up_s _ _ _ _, q3, q4⟩, fun j hj => by rw [up_i _ hj, q2]⟩
  have e10 : ∀ j, j < 10 → (fun c => c) j = j := fun _ _ => rfl
  refine sM_18_0 ⟨inN hkl (by decide), ?_⟩
  rw [clp (by omega)]
  rcases (hrow k hk).1 with ⟨w1, w2, w3⟩ | ⟨w0, e, p, w1, w2, w3, w4, w5, w6⟩ | ⟨w0, e2, w1, w2, w3, w4, w5⟩ | ⟨w0, d2, n2, g2, o2, w1, w2, w3, w4, w5, w6, w7, w8, w9⟩
  · have nf : ∀ c : Nat, 3 ≤ c → c ≤ 5 → ¬ h 1 k = nI c := by
      intro c c1 c2
      rw [w3, neN (by split <;> omega) (by omega)]; split <;> omega
    refine ⟨fun _ => ⟨fun _ => ⟨fun _ => ?_, fun c => absurd c (nf 5 (by omega) (by omega))⟩, fun c => absurd c (nf 4 (by omega) (by omega))⟩, fun c => absurd c (nf 3 (by omega) (by omega))⟩
    exact fin h ts T k (mEx.rf hI0) (fun _ => rfl) hk (by rw [w2]; rfl)
  · obtain ⟨r, h1, c1, ts1, T1, c2, c3, c4⟩ := cM_putVariable (d := d - 1) (by omega) hI0 hk w1 hs hsc hraw hZb
    refine ⟨fun c => absurd w2 c, fun _ => ⟨_, h1, c1, ?_⟩⟩
    refine fin h1 ts1 T1 r (c2.wk (fun c q => ?_) (fun _ q => q)) (fun j => c2.2.2.2.1 11 j (by decide) (by unfold fE; omega)) c3 (by rw [c4, w1])
    unfold fE at q; unfold fQ; omega
  · have hel := mLv_lt t2 t4 w5
    obtain ⟨r0, q1, q2, q3⟩ := hmp e2 hel w0 (Or.inl ⟨w2, w3⟩)
    have hput : puT D (ts s) (ts k) = tA (ts r0) := by rw [w1, q3]; rfl
    obtain ⟨r, h1, c1, ⟨ts1, T1, c2, c3, c4⟩, c5⟩ := cM_arrayOf (d := d - 1) (by omega) hI0 q2 (by rw [← hput]; exact hZp (Or.inl (by rw [w1]; rfl)))
    rw [w2, w3]
    refine ⟨fun _ => ⟨fun c => absurd rfl c, fun _ => ⟨inN hel (by decide), ?_⟩⟩, fun c => absurd c (by decide)⟩
    rw [clp (by omega), q1]
    refine ⟨_, h1, c1, fin h1 ts1 T1 r (c2.wk (fun c q => ?_) (fun c q => Or.inl q)) (fun j => c2.2.2.2.1 11 j (by decide) (by unfold fT; omega)) c3 (by rw [c4, hput])⟩
    unfold fT at q; unfold fQ; omega
  · -- a CLASS TYPE: its ARGUMENTS, then type()
    have L : ∀ (f i : Nat) (o4 : Option Value) (H : ai_H), n2 - i ≤ f → i ≤ n2 → mEx Z D fA fA0 h ts m T nd H ts T → (∀ j, j < i → mNs H ts m T j (puT D (ts s) (g2 j))) → RM (d - 1) 18 (fun r h' => r = none ∧ ∃ ts' T', mEx Z D fQ fP0 h ts m T nd h' ts' T' ∧ mMp h' ts' m T' D (ts s) (ts k) k ∧ ∀ j, j ≠ k → h' 11 j = h 11 j) 71 [some (.ref 0), some (.int (nI k)), some (.int (nI s)), some (.int (nI i)), o4] [] H := by
      intro f
      induction f with
      | zero =>
        intro i o4 H a1 a2 a3 a4
        have hin : i = n2 := by omega
        subst hin
        -- the row in H is the row in h
        have eq1 : ∀ c j, 1 ≤ c → c ≤ 11 → H c j = h c j := fun c j z1 z2 => a3.2.2.2.1 c j (by omega) (by unfold fA; omega)
        refine sM_18_71 ⟨inN hkl (by decide), fun _ => ?_, fun c => absurd ?_ c⟩
        · rw [clp (by omega), eq1 5 _ (by omega) (by omega), eq1 6 _ (by omega) (by omega), eq1 2 _ (by omega) (by omega), w3, w5]
          have hB : mEx Z D fQ fP0 h ts m T nd (ai_up H 0 24 (nI i)) ts T := mEx.up (a3.wk (fun c q => by unfold fA at q; unfold fQ; omega) (fun c q => by unfold fA0 at q; unfold fP0; omega)) _ (Or.inl ⟨rfl, by omega, by omega, by omega, Or.inr (Or.inl rfl)⟩)
          have h11 : ∀ j, ai_up H 0 24 (nI i) 11 j = h 11 j := fun j => by rw [up_k _ _ (by decide), eq1 11 j (by omega) (by omega)]
          have hNw : mNw (ai_up H 0 24 (nI i)) ts m T i (fun j => puT D (ts s) (g2 j)) := by
            refine ⟨up_s _ _ _ _, w6, fun j hj => ?_, fun j hj => by show puT D (ts s) (g2 j) = tN; rw [w9 j hj]; rfl⟩
            have := a4 j hj
            rcases this with ⟨z1, z2⟩ | ⟨w, x, z1, z2, z3, z4, z5, z6⟩
            · exact Or.inl ⟨by rw [up_k _ _ (by decide), z1], z2⟩
            · exact Or.inr ⟨w, x, z1, by rw [up_k _ _ (by decide), z2], by rw [up_k _ _ (by decide), z3], z4, z5, z6⟩
          have hput : ∀ ot, puT D (ts s) o2 = ot → puT D (ts s) (ts k) = tC d2 ot (puT D (ts s) (g2 0)) (puT D (ts s) (g2 1)) (puT D (ts s) (g2 2)) := fun ot e => by rw [w1, puT_C, e]
          have mk : ∀ (x5 : Int32) (ot : Ty), ((x5 = -1 ∧ ot = tN) ∨ ∃ o, x5 = nI o ∧ mLv m T o ∧ 10 ≤ o ∧ ot = ts o ∧ foT (ts o) = 5) → puT D (ts s) o2 = ot → ∃ (r1 : Int32) (h1 : ai_H), CM (d - 1) 5 [.ref 0, .int 5, .int (nI d2), .int (-1), .int (-1), .int x5] (ai_up H 0 24 (nI i)) (some (.int r1)) h1 ∧ ((none : Option Value) = none ∧ ∃ ts' T', mEx Z D fQ fP0 h ts m T nd (ai_up h1 11 k r1) ts' T' ∧ mMp (ai_up h1 11 k r1) ts' m T' D (ts s) (ts k) k ∧ ∀ j, j ≠ k → ai_up h1 11 k r1 11 j = h 11 j) := by
            intro x5 ot hx5 hot
            obtain ⟨r, h1, c1, ⟨ts1, T1, c2, c3, c4⟩, c5⟩ := cM_typeR (d := d - 1) (x2 := nI d2) (x3 := -1) (x4 := -1) (x5 := x5) (t := puT D (ts s) (ts k)) (by omega) hB.1 (Or.inr (Or.inr ⟨rfl, d2, i, fun j => puT D (ts s) (g2 j), ot, rfl, w4, hNw, hx5, hput ot hot⟩)) (hZp (Or.inr (by rw [w1]; rfl)))
            refine ⟨_, h1, c1, fin h1 ts1 T1 r (hB.tr c2 (fun c q => by unfold fT at q; unfold fQ; omega) (fun c q => Or.inl q)) (fun j => by rw [c2.2.2.2.1 11 j (by decide) (by unfold fT; omega), h11]) c3 c4⟩
          rcases w7 with ⟨u1, u2⟩ | ⟨o, u1, u2, u3, u4, u5, u6⟩
          · rw [u1]
            exact ⟨fun c => absurd c (by decide), fun _ => mk (-1) tN (Or.inl ⟨rfl, rfl⟩) (by rw [u2]; rfl)⟩
          · have hlo := mLv_lt t2 t4 u3
            obtain ⟨r0, q1, q2, q3⟩ := hmp o hlo w0 (Or.inr ⟨w2, Or.inl u1⟩)
            rw [u1]
            refine ⟨fun _ => ⟨inN hlo (by decide), ?_⟩, fun c => absurd (nI_pos' (by omega)) c⟩
            rw [clp (by omega), eq1 11 _ (by omega) (by omega), q1]
            have hfo : foT (ts r0) = 5 := by rw [q3, puT_fo (Or.inr u6) ⟨nd, mInv_wf hI0 u3⟩]; exact u6
            exact mk (nI r0) (ts r0) (Or.inr ⟨r0, rfl, q2, mLv_fo hI0.1.1 q2 (by omega), rfl, hfo⟩) (by rw [u5, q3])
        · rw [clp (by omega), eq1 6 _ (by omega) (by omega), w5]; exact Int32.le_refl _
      | succ f ih =>
        intro i o4 H a1 a2 a3 a4
        rcases Nat.lt_or_ge i n2 with hin | hin
        · have eq1 : ∀ c j, 1 ≤ c → c ≤ 11 → H c j = h c j := fun c j z1 z2 => a3.2.2.2.1 c j (by omega) (by unfold fA; omega)
          refine sM_18_71 ⟨inN hkl (by decide), fun c => ?_, fun _ => ?_⟩
          · rw [clp (by omega), eq1 6 _ (by omega) (by omega), w5, leN (by omega) (by omega)] at c; omega
          · rw [mul3, clp (by omega), eq1 8 _ (by omega) (by omega), eq1 9 _ (by omega) (by omega), nI_1]
            have hg : (h 8 (3 * k + i) = 3 ∧ g2 i = tY) ∨ ∃ w t, w < 3 ∧ h 8 (3 * k + i) = nI w ∧ h 9 (3 * k + i) = nI t ∧ mLv m T t ∧ 10 ≤ t ∧ g2 i = tG w (ts t) ∧ mMp H ts m T D (ts s) (ts t) t := by
              rcases w8 i hin with ⟨u1, u2, u3⟩ | ⟨w, a, u1, u2, u3, u4, u5, u6, u7⟩
              · exact Or.inl ⟨u1, u3⟩
              · have hla := mLv_lt t2 t4 u5
                obtain ⟨r0, q1, q2, q3⟩ := hmp a hla w0 (Or.inr ⟨w2, Or.inr ⟨n2, i, w5, w6, hin, by rw [u2, show (3 : Int32) = nI 3 from rfl, neN (by omega) (by omega)]; omega, u3⟩⟩)
                exact Or.inr ⟨w, a, u1, u2, u3, u5, u6, u7, r0, by rw [eq1 11 _ (by omega) (by omega), q1], q2, q3⟩
            obtain ⟨h1, c1, c2, c3, c4⟩ := cM_putArgument (d := d - 1) (i := i) (by omega) a3.1 (by omega) hs hsc hraw hg
            refine ⟨inN (by omega) (by decide), h1, c1, ?_⟩
            refine ih (i + 1) _ h1 (by omega) (by omega) (a3.tr c2 (fun _ q => q) (fun _ q => q)) (fun j hj => ?_)
            rcases Nat.lt_or_ge j i with z | z
            · obtain ⟨y1, y2⟩ := c4 j (by omega)
              rcases a4 j z with ⟨z1, z2⟩ | ⟨w, x, z1, z2, z3, z4, z5, z6⟩
              · exact Or.inl ⟨by rw [y1, z1], z2⟩
              · exact Or.inr ⟨w, x, z1, by rw [y1, z2], by rw [y2, z3], z4, z5, z6⟩
            · have : j = i := by omega
              rw [this]; exact c3
        · exact ih i o4 H (by omega) a2 a3 a4
    rw [w2]
    exact ⟨fun _ => ⟨fun _ => ⟨fun c => absurd rfl c, fun _ => L n2 0 none h (by omega) (by omega) (mEx.rf hI0) (fun j hj => by omega)⟩, fun c => absurd c (by decide)⟩, fun c => absurd c (by decide)⟩
/-- the row behind a row -/
def mHi (m k : Nat) : Nat := if k = m - 1 then 256 else k + 1
theorem cM_hiN {d : Nat} (hd : 1 ≤ d) {h : ai_H} {m k : Nat} (h0 : h 0 0 = nI m) (hm : 11 ≤ m) (hm2 : m ≤ 200) (hk : k < 6256) : CM d 9 [.ref 0, .int (nI k)] h (some (.int (nI (mHi m k)))) h := by
  have := cM_higher hd h (nI k)
  rw [h0, show (1 : Int32) = nI 1 from rfl, pk_sub (by omega)] at this
  unfold mHi
  by_cases e : k = m - 1
  · rw [if_pos ((neN (by omega) (by omega)).mpr e)] at this
    rw [if_pos e]; exact this
  · rw [if_neg (fun q => e ((neN (by omega) (by omega)).mp q)), nI_add] at this
    rw [if_neg e]; exact this
def fI (c : Nat) : Prop := (1 ≤ c ∧ c ≤ 11) ∨ c = 21 ∨ c = 22 ∨ c = 25
set_option maxHeartbeats 1000000 in
theorem cM_putIn {d : Nat} (hd : 7 ≤ d) {Z : List Ty} {D : DS} {h : ai_H} {ts : Nat → Ty} {m T nd s x : Nat} (hI : mInv Z D h ts m T nd) (hx : mLv m T x) (hs : mLv m T s) (hsc : foT (ts s) = 5) (hZb : ∀ e, e < nd → brT (dsO D) 12 e ∈ Z)
    (hZe : rwT (dsP D) (ts s) = true → ∀ n b j, ts x = nA n b → 1 ≤ j → j ≤ n → nA j (erT D b) ∈ Z) (hZp : rwT (dsP D) (ts s) = false → ∀ u, subT (ts x) u → foT u = 4 ∨ foT u = 5 → puT D (ts s) u ∈ Z) :
    ∃ k h', CM d 17 [.ref 0, .int (nI x), .int (nI s)] h (some (.int (nI k))) h' ∧ mRes Z D fI fP0 h ts m T nd (PU D (ts s) (ts x)) k h' := by
  have hI0 := hI
  obtain ⟨⟨⟨t0, t1, t2, t3, t4, t5, hrow, hinj⟩, hT1, -, -⟩, ⟨-, hdec⟩, hdw, hwfn, hwfz, h10⟩ := hI
  have hxl := mLv_lt t2 t4 hx
  have hsl := mLv_lt t2 t4 hs
  have craw := cM_isRaw (d := d - 1) (by omega) hI0 hs
  by_cases hraw : rwT (dsP D) (ts s) = true
  · rw [if_pos hraw] at craw
    obtain ⟨k, h1, c1, ts1, T1, c2, c3, c4⟩ := cM_erasedOf (d := d - 1) (by omega) hI0 hx hZb (hZe hraw)
    refine ⟨k, h1, iMe (by omega) rfl (sM_17_0 ⟨_, h, craw, fun c => absurd c (by decide), fun _ => ⟨_, h1, c1, rfl, rfl⟩⟩), ts1, T1, c2.wk (fun c q => by unfold fE at q; unfold fI; omega) (fun c q => by unfold fB0 at q; unfold fP0; omega), c3, ?_⟩
    rw [c4]; unfold PU; rw [if_pos hraw]
  · have hrf : rwT (dsP D) (ts s) = false := by simpa using hraw
    rw [if_neg hraw] at craw
    have hPU : PU D (ts s) (ts x) = puT D (ts s) (ts x) := by unfold PU; rw [if_neg hraw]
    obtain ⟨h1, c1, c2, c3⟩ := cM_reach (d := d - 1) (by omega) hI0.1.1 hT1 hx
    suffices hss : ∃ r h', CM d 17 [.ref 0, .int (nI x), .int (nI s)] h r h' ∧ ∃ k, r = some (.int (nI k)) ∧ mRes Z D fI fP0 h ts m T nd (PU D (ts s) (ts x)) k h' by
      obtain ⟨r, h', hc, k, rfl, q⟩ := hss
      exact ⟨k, h', hc, q⟩
    refine iM (by omega) rfl (sM_17_0 ⟨_, h, craw, fun _ => ⟨h1, c1, ?_⟩, fun c => absurd rfl c⟩)
    -- the state behind reach()
    have hx1 : mEx Z D fI fP0 h ts m T nd h1 ts T := by
      refine ⟨mInv_out hI0 (mTb_eq (c2 0 0 (by decide)) (c2 0 1 (by decide)) (fun c j _ q => c2 c j (by omega)) hI0.1) ⟨fun c j q1 q2 => c2 c j (by unfold fD at q2; omega), fun j _ => c2 0 j (by decide)⟩ (fun _ _ => rfl), Nat.le_refl _, fun _ _ => rfl, ⟨fun c j q1 q2 => c2 c j (by unfold fI at q2; omega), fun j _ => c2 0 j (by decide)⟩⟩
    have L : ∀ (f k : Nat) (H : ai_H) (tsH : Nat → Ty) (TH : Nat), 6257 - k ≤ f → k ≤ mHi m x → (k < m ∨ 256 ≤ k) → mEx Z D fI fP0 h ts m T nd H tsH TH → (∀ j, mLv m T j → H 10 j = h1 10 j) → (∀ j, mLv m T j → j < k → j ≤ x → h1 10 j = 1 → mMp H tsH m TH D (ts s) (ts j) j) → RM (d - 1) 17 (fun r h' => ∃ k, r = some (.int (nI k)) ∧ mRes Z D fI fP0 h ts m T nd (PU D (ts s) (ts x)) k h') 21 [some (.ref 0), some (.int (nI x)), some (.int (nI s)), some (.int (nI k))] [] H := by
      intro f
      induction f with
      | zero =>
        intro k H tsH TH a1 a2 a3
        exfalso
        unfold mHi at a2
        split at a2 <;> omega
      | succ f ih =>
        intro k H tsH TH a1 a2 a3 a4 a5 a6
        have b0 : H 0 0 = nI m := a4.1.1.1.1
        have mark := c3
        have hhi : mHi m x ≤ 6256 := by unfold mHi; split <;> omega
        refine sM_17_21 ⟨_, H, cM_hiN (by omega) b0 t1 t2 hxl, fun c => ?_, fun c => ?_⟩
        · rw [neN (by omega) (by omega)] at c
          have hxk : x < k := by
            rw [c]; unfold mHi; split <;> omega
          have hm1 : h1 10 x = 1 := by
            rcases mark x hx with ⟨z, -⟩ | ⟨-, z⟩
            · exact z
            · exact absurd (subT_rf _) z
          obtain ⟨r, q1, q2, q3⟩ := a6 x hx hxk (Nat.le_refl _) hm1
          refine ⟨inN hxl (by decide), ?_⟩
          rw [clp (by omega), q1]
          exact ⟨r, rfl, tsH, TH, a4, q2, by rw [q3, hPU]⟩
        · rw [neN (by omega) (by omega)] at c
          have hkx : k ≤ x := by
            unfold mHi at a2 c
            split at a2
            · rename_i e
              rw [if_pos e] at c
              rcases a3 with q | q <;> omega
            · rename_i e
              rw [if_neg e] at c
              omega
          have hkl : k < 6256 := by omega
          have hklv : mLv m T k := by
            rcases a3 with q | q
            · exact Or.inl q
            · rcases hx with z | z
              · omega
              · exact Or.inr ⟨q, by omega⟩
          have hhk : mHi m k ≤ mHi m x ∧ (mHi m k < m ∨ 256 ≤ mHi m k) ∧ k < mHi m k ∧ ∀ j, mLv m T j → j < mHi m k → j < k ∨ j = k := by
            unfold mHi
            split
            · rename_i e
              refine ⟨?_, Or.inr (by omega), by omega, fun j hj q => ?_⟩
              · split
                · omega
                · rcases hx with z | z <;> omega
              · rcases hj with z | z <;> omega
            · rename_i e
              refine ⟨?_, ?_, by omega, fun j _ q => by omega⟩
              · split <;> omega
              · rcases a3 with q | q
                · exact Or.inl (by omega)
                · exact Or.inr (by omega)
          obtain ⟨g1, g2, g3, g4⟩ := hhk
          have hts : ∀ a, mLv m T a → tsH a = ts a := a4.2.2.1
          have m10 : H 10 k = h1 10 k := a5 k hklv
          refine ⟨inN hkl (by decide), fun z0 => ⟨_, H, cM_hiN (by omega) b0 t1 t2 hkl, ?_⟩, fun z1 => ?_⟩
          · rw [clp (by omega), m10] at z0
            refine ih (mHi m k) H tsH TH (by omega) g1 g2 a4 a5 (fun j hj q q2 e => ?_)
            rcases g4 j hj q with y | y
            · exact a6 j hj y q2 e
            · rw [y, z0] at e; exact absurd e (by decide)
          · rw [clp (by omega), m10] at z1
            have hm1 : h1 10 k = 1 ∧ subT (ts x) (ts k) := by
              rcases mark k hklv with z | z
              · exact z
              · exact absurd z.1 z1
            have hklv' := lv_mono a4.2.1 hklv
            have eqk := hts k hklv
            have eqs := hts s hs
            obtain ⟨h2, p1, ts2, T2, p2, p3, p4⟩ := cM_putPart (d := d - 1) (s := s) (k := k) (by omega) a4.1 hklv' (lv_mono a4.2.1 hs) (by rw [eqs]; exact hsc) (by rw [eqs]; exact hrf) hZb (fun q => by rw [eqs, eqk]; rw [eqk] at q; exact hZp hrf _ hm1.2 q) (fun p hp9 hk10 hpr => by
              obtain ⟨y1, y2, y3⟩ := mPr_ok a4.1.1.1 hklv' hk10 hp9 hpr
              -- a part of an old row is an old row
              have hplv : mLv m T p := by
                rcases y1 with z | z
                · exact Or.inl z
                · exact Or.inr ⟨z.1, by rcases hklv with w | w <;> omega⟩
              rw [eqk, hts p hplv] at y3
              have hsp := subT_tr hm1.2 y3
              have hmp : h1 10 p = 1 := by
                rcases mark p hplv with z | z
                · exact z.1
                · exact absurd hsp z.2
              obtain ⟨r, q1, q2, q3⟩ := a6 p hplv y2 (by omega) hmp
              exact ⟨r, q1, q2, by rw [eqs, hts p hplv]; exact q3⟩)
            have hex : mEx Z D fI fP0 h ts m T nd h2 ts2 T2 := a4.tr p2 (fun c q => by unfold fQ at q; unfold fI; omega) (fun _ q => q)
            refine ⟨h2, p1, _, h2, cM_hiN (by omega) hex.1.1.1.1 t1 t2 hkl, ?_⟩
            refine ih (mHi m k) h2 ts2 T2 (by omega) g1 g2 hex (fun j hj => ?_) (fun j hj q q2 e => ?_)
            · rw [p2.2.2.2.1 10 j (by decide) (by unfold fQ; omega)]
              exact a5 j hj
            · rcases g4 j hj q with y | y
              · obtain ⟨r, q3, q4, q5⟩ := a6 j hj y q2 e
                exact ⟨r, by rw [p4 j (by omega), q3], lv_mono p2.2.1 q4, by rw [p2.2.2.1 r q4, q5]⟩
              · subst y
                obtain ⟨r, q3, q4, q5⟩ := p3
                exact ⟨r, q3, q4, by rw [q5, eqs, eqk]⟩
    exact L 6257 0 h1 ts T (by omega) (Nat.zero_le _) (Or.inl (by omega)) hx1 (fun _ _ => rfl) (fun j _ q => by omega)
