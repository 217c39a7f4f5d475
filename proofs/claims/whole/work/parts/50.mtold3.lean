theorem szT_sub {t u : Ty} (h : subT t u) : szT u ≤ szT t := by
  induction t, u using subT.induct with
  | case1 u t ih =>
    simp only [subT] at h
    rcases h with rfl | h
    · exact Nat.le_refl _
    · have := ih h; simp only [szT]; omega
  | case2 u d o a b c ih1 ih2 ih3 ih4 =>
    simp only [subT] at h
    rcases h with rfl | h | h | h | h
    · exact Nat.le_refl _
    · have := ih1 h; simp only [szT]; omega
    · have := ih2 h; simp only [szT]; omega
    · have := ih3 h; simp only [szT]; omega
    · have := ih4 h; simp only [szT]; omega
  | case3 u w t ih =>
    simp only [subT] at h
    rcases h with rfl | h
    · exact Nat.le_refl _
    · have := ih h; simp only [szT]; omega
  | case4 t u n1 n2 n3 =>
    unfold subT at h
    split at h
    · exact absurd rfl (n1 _)
    · exact absurd rfl (n2 _ _ _ _ _)
    · exact absurd rfl (n3 _ _)
    · rw [h]; exact Nat.le_refl _
/-- every VARIABLE is a NODE -/
def mVs (D : DS) (ts : Nat → Ty) (m nd : Nat) : Prop := ∀ e p, e < nd → p < dsP D e → ∃ a, a < m ∧ ts a = tV e p
theorem wk45 {Z : List Ty} {D : DS} {h : ai_H} {ts : Nat → Ty} {m T nd k : Nat} (hI : mInv Z D h ts m T nd) (hV : mVs D ts m nd) (h1 : 256 ≤ k) (h2 : k < T) : foT (ts k) = 4 ∨ foT (ts k) = 5 := by
  have hlv : mLv m T k := Or.inr ⟨h1, h2⟩
  have hw := mInv_wf hI hlv
  obtain ⟨t0, t1, t2, t3, t4, t5, hrow, hinj⟩ := hI.1.1
  rcases (hrow k hlv).1 with ⟨w1, w2, w3⟩ | ⟨w0, e, p, w1, -⟩ | ⟨w0, e2, w1, -⟩ | ⟨w0, d2, n2, g2, o2, w1, -⟩
  · omega
  · rw [w1] at hw
    simp only [tV, wfT] at hw
    obtain ⟨a, a1, a2⟩ := hV e p hw.1 hw.2
    have := hinj a k (Or.inl a1) hlv (by rw [a2, w1])
    omega
  · rw [w1]; exact Or.inl rfl
  · rw [w1]; exact Or.inr rfl
theorem ty45_of {h : ai_H} {ts : Nat → Ty} {m T nd k : Nat} (hT : mTab h ts m T nd) (hk : mLv m T k) (hf : foT (ts k) = 4 ∨ foT (ts k) = 5) : ty45 (ts k) := by
  obtain ⟨t0, t1, t2, t3, t4, t5, hrow, hinj⟩ := hT
  rcases (hrow k hk).1 with ⟨v1, v2, v3⟩ | ⟨v0, e, pp, v1, -⟩ | ⟨v0, e2, v1, -⟩ | ⟨v0, d2, n2, g2, o2, v1, -⟩
  · rw [v2] at hf
    simp only [tP, foT] at hf
    split at hf
    · omega
    · split at hf <;> omega
  · rw [v1] at hf; simp [tV, foT] at hf
  · rw [v1]; exact Or.inl ⟨_, rfl⟩
  · rw [v1]; exact Or.inr ⟨_, _, _, _, _, rfl⟩
/-- the table again, with the NODES alone -/
theorem mInv_back {Z : List Ty} {D : DS} {h h' : ai_H} {ts tn : Nat → Ty} {m n T nd : Nat} (hI : mInv Z D h ts m T nd) (hT : mTab h' tn n 256 nd) (h1 : h' 0 1 = 256) (hmn : m ≤ n) (hts : ∀ a, a < m → tn a = ts a) (hwf : ∀ a, a < n → wfT D nd (tn a)) (e13 : h' 0 13 = h 0 13) (e : ∀ c j, 12 ≤ c → c ≤ 18 → h' c j = h c j) : mInv [] D h' tn n 256 nd := by
  obtain ⟨a1, ⟨b1, b2⟩, a3, a4, a5, a6⟩ := hI
  have hm : 11 ≤ m := a1.1.2.1
  have el : ∀ c at_ cnt l, 12 ≤ c → c ≤ 18 → mLs h ts m c at_ cnt l → mLs h' tn n c at_ cnt l := by
    intro c at_ cnt l q1 q2 ⟨b1, b2⟩
    refine ⟨b1, fun i t hi => ?_⟩
    obtain ⟨k, c1, c2, c3⟩ := b2 i t hi
    exact ⟨k, by omega, by rw [e c _ q1 q2, c2], by rw [hts k c1, c3]⟩
  refine ⟨⟨hT, h1, fun a q1 q2 => by omega, by decide⟩, ⟨by rw [e13, b1], fun d hd => ?_⟩, a3, hwf, fun z hz => (by simp at hz), by rw [hts 10 (by omega)]; exact a6⟩
  obtain ⟨c1, c2, c3, c4, c5⟩ := b2 d hd
  refine ⟨by rw [e 12 _ (by omega) (by omega), c1], by rw [e 13 _ (by omega) (by omega), c2], ?_, ?_, fun p hp => ?_⟩
  · rw [e 14 _ (by omega) (by omega)]; exact c3
  · rw [e 15 _ (by omega) (by omega)]; exact el 16 _ _ _ (by omega) (by omega) c4
  · rw [e 17 _ (by omega) (by omega)]; exact el 18 _ _ _ (by omega) (by omega) (c5 p hp)
/-- the rows of work below k that stand in the tree t -/
noncomputable def wkL (ts : Nat → Ty) (t : Ty) (n : Nat) : List Nat := @List.filter Nat (fun a => @decide (subT t (ts (256 + a))) (Classical.propDecidable _)) (List.range n)
theorem wkL_suc (ts : Nat → Ty) (t : Ty) (n : Nat) : (subT t (ts (256 + n)) → (wkL ts t (n + 1)).length = (wkL ts t n).length + 1) ∧ (¬ subT t (ts (256 + n)) → (wkL ts t (n + 1)).length = (wkL ts t n).length) := by
  refine ⟨fun q => ?_, fun q => ?_⟩
  · unfold wkL
    rw [List.range_succ, List.filter_append, List.length_append]
    simp [q]
  · unfold wkL
    rw [List.range_succ, List.filter_append, List.length_append]
    simp [q]
theorem wkL_le (ts : Nat → Ty) (t : Ty) (n : Nat) : (wkL ts t n).length ≤ n := by
  unfold wkL
  have := List.length_filter_le (fun a => @decide (subT t (ts (256 + a))) (Classical.propDecidable _)) (List.range n)
  rw [List.length_range] at this
  exact this
/-- so many NODES more are wanted -/
theorem kp_cnt {Z : List Ty} {D : DS} {h : ai_H} {ts : Nat → Ty} {m T nd x : Nat} (hI : mInv Z D h ts m T nd) (hV : mVs D ts m nd) (h1 : 256 ≤ x) (h2 : x < T) : (kpT (ts x) (nl ts m)).length = m + (wkL ts (ts x) (x + 1 - 256)).length := by
  have hT := hI.1.1
  have hTn := mTab_nodes hT
  obtain ⟨t0, t1, t2, t3, t4, t5, hrow, hinj⟩ := id hT
  obtain ⟨⟨W, k1⟩, k2, k3, k4⟩ := kpT_all _ (ts x) (nl ts m) (Nat.le_refl _)
  have hnd := k4 (nl_nodup hT)
  have hcl := k3 (nl_cl hTn)
  have hlx : mLv m T x := Or.inr ⟨h1, h2⟩
  rw [k1] at hnd
  obtain ⟨-, hW, hdis⟩ := List.nodup_append.mp hnd
  have hL : (nl ts m).length = m := nl_len _ _
  have mem : ∀ a, a ∈ wkL ts (ts x) (x + 1 - 256) ↔ a < x + 1 - 256 ∧ subT (ts x) (ts (256 + a)) := by
    intro a
    unfold wkL
    rw [List.mem_filter, List.mem_range]
    simp
  have hnw : ((wkL ts (ts x) (x + 1 - 256)).map fun a => ts (256 + a)).Nodup := by
    refine nodup_map ?_ (fun a b ha hb e => ?_)
    · unfold wkL
      exact List.Pairwise.filter _ List.nodup_range
    · have q1 := ((mem a).mp ha).1
      have q2 := ((mem b).mp hb).1
      have := hinj (256 + a) (256 + b) (Or.inr ⟨by omega, by omega⟩) (Or.inr ⟨by omega, by omega⟩) e
      omega
  have le1 := nodup_le W ((wkL ts (ts x) (x + 1 - 256)).map fun a => ts (256 + a)) hW (fun u hu => by
    have hin : u ∈ kpT (ts x) (nl ts m) := by rw [k1]; exact List.mem_append.mpr (Or.inr hu)
    rcases k2 u hin with q | ⟨q1, q2⟩
    · exact absurd rfl (hdis u q u hu)
    · obtain ⟨j, j1, j2, j3⟩ := sub_row hT x x u (Nat.le_refl _) hlx q1 (by have := ty45_fo q2; omega)
      have hj : 256 ≤ j := by
        rcases Nat.lt_or_ge j 256 with z | z
        · have hjm : j < m := by rcases j1 with y | y <;> omega
          exact absurd rfl (hdis u (nl_mem.mpr ⟨j, hjm, j3⟩) u hu)
        · exact z
      exact List.mem_map.mpr ⟨j - 256, (mem _).mpr ⟨by omega, by rw [show 256 + (j - 256) = j by omega, j3]; exact q1⟩, by rw [show 256 + (j - 256) = j by omega, j3]⟩)
  have le2 := nodup_le ((wkL ts (ts x) (x + 1 - 256)).map fun a => ts (256 + a)) W hnw (fun u hu => by
    obtain ⟨a, ha, rfl⟩ := List.mem_map.mp hu
    obtain ⟨q1, q2⟩ := (mem a).mp ha
    have hla : mLv m T (256 + a) := Or.inr ⟨by omega, by omega⟩
    have hin := hcl.2 (ts (256 + a)) q2 (ty45_of hT hla (wk45 hI hV (by omega) (by omega)))
    rw [k1] at hin
    rcases List.mem_append.mp hin with z | z
    · obtain ⟨j, j1, j2⟩ := nl_mem.mp z
      have := hinj j (256 + a) (Or.inl j1) hla j2
      omega
    · exact z)
  rw [List.length_map] at le1 le2
  rw [k1, List.length_append, hL]
  omega
/-- what told() answers -/
def tlR (Z : List Ty) (D : DS) (h : ai_H) (ts : Nat → Ty) (m nd : Nat) (t : Ty) (r : Int32) (h' : ai_H) : Prop := mFr fS fS0 h h' ∧
  ((r = -5 ∧ mInv [] D h' ts m 256 nd ∧ t ∉ nl ts m ∧ (200 < (kpT t (nl ts m)).length ∨ 60 < szT t)) ∨
   (∃ (j : Nat) (tn : Nat → Ty) (n : Nat), r = nI j ∧ j < n ∧ tn j = t ∧ mInv [] D h' tn n 256 nd ∧ m ≤ n ∧ (∀ a, a < m → tn a = ts a) ∧ nl tn n = kpT t (nl ts m) ∧ (t ∈ nl ts m ∨ szT t ≤ 60)))
theorem mTab_eq0 {h H : ai_H} {ts : Nat → Ty} {m T nd : Nat} (e0 : H 0 0 = h 0 0) (e : ∀ c j, 1 ≤ c → c ≤ 9 → H c j = h c j) (hT : mTab h ts m T nd) : mTab H ts m T nd := by
  obtain ⟨t0, t1, t2, t3, t4, t5, hrow, hinj⟩ := hT
  exact ⟨by rw [e0, t0], t1, t2, t3, t4, t5, fun k hk => ⟨mRow_ext (hrow k hk).1 (Nat.le_refl _) (fun c q0 q => e c k q0 (by omega)) (fun i _ => ⟨e 8 _ (by omega) (by omega), e 9 _ (by omega) (by omega)⟩) (fun _ _ => rfl) rfl (fun _ q => q), by rw [e 7 k (by omega) (by omega)]; exact (hrow k hk).2⟩, hinj⟩
set_option maxHeartbeats 1000000 in
theorem cM_told {d : Nat} (hd : 3 ≤ d) {Z : List Ty} {D : DS} {h : ai_H} {ts : Nat → Ty} {m T nd x : Nat} (hI : mInv Z D h ts m T nd) (hV : mVs D ts m nd) (hx : mLv m T x) (hsz : szT (ts x) < 1000000) :
    ∃ r h', CM d 29 [.ref 0, .int (nI x)] h (some (.int r)) h' ∧ tlR Z D h ts m nd (ts x) r h' := by
  have hT := hI.1.1
  have hT1 := hI.1.2.1
  obtain ⟨t0, t1, t2, t3, t4, t5, hrow, hinj⟩ := id hT
  have hxl := mLv_lt t2 t4 hx
  suffices hss : ∃ r h', CM d 29 [.ref 0, .int (nI x)] h r h' ∧ ∃ v, r = some (.int v) ∧ tlR Z D h ts m nd (ts x) v h' by
    obtain ⟨r, h', q, v, rfl, q2⟩ := hss
    exact ⟨v, h', q, q2⟩
  refine iM (by omega) rfl ?_
  -- without a NODE more
  have same : ∀ H : ai_H, (∀ c j, c ≠ 10 → c ≠ 11 → H c j = h c j) → mInv [] D (ai_up H 0 1 256) ts m 256 nd ∧ mFr fS fS0 h (ai_up H 0 1 256) := by
    intro H e
    refine ⟨mInv_back hI (mTab_nodes (mTab_eq0 (by rw [up_i _ (by decide), e 0 0 (by decide) (by decide)]) (fun c j q1 q2 => by rw [up_k _ _ (by omega), e c j (by omega) (by omega)]) hT)) (up_s _ _ _ _) (Nat.le_refl _) (fun _ _ => rfl) (fun a q => mInv_wf hI (Or.inl q)) (by rw [up_i _ (by decide), e 0 13 (by decide) (by decide)]) (fun c j q1 q2 => by rw [up_k _ _ (by omega), e c j (by omega) (by omega)]), ⟨fun c j q1 q2 => ?_, fun j q => ?_⟩⟩
    · rw [up_k _ _ q1, e c j (by unfold fS at q2; omega) (by unfold fS at q2; omega)]
    · rw [up_i _ (by unfold fS0 at q; omega), e 0 j (by decide) (by decide)]
  have hx0 := hx
  rcases hx with hxm | ⟨hx1, hx2⟩
  · -- a NODE
    have hin : ts x ∈ nl ts m := nl_mem.mpr ⟨x, hxm, rfl⟩
    obtain ⟨q1, q2⟩ := same h (fun _ _ _ _ => rfl)
    refine sM_29_0 ⟨fun c => ?_, fun _ => ⟨nI x, rfl, q2, Or.inr ⟨x, ts, m, rfl, hxm, rfl, q1, Nat.le_refl _, fun _ _ => rfl, (ty_in (mRow_fo hT (Or.inl hxm)).2.1 (Or.inr hin)).symm, Or.inl hin⟩⟩⟩
    rw [show (256 : Int32) = nI 256 from rfl, leN (by omega) (by omega)] at c; omega
  · have hout : ts x ∉ nl ts m := by
      intro q
      obtain ⟨j, j1, j2⟩ := nl_mem.mp q
      have := hinj j x (Or.inl j1) hx0 j2
      omega
    have hcnt := kp_cnt hI hV hx1 hx2
    obtain ⟨h1, r1, r2, r3⟩ := cM_reach (d := d - 1) (by omega) hT hT1 hx0
    refine sM_29_0 ⟨fun _ => ⟨h1, r1, ?_⟩, fun c => absurd ?_ c⟩
    · have L : ∀ (f k : Nat) (H : ai_H), x + 1 - k ≤ f → 256 ≤ k → k ≤ x + 1 → (∀ c j, c ≠ 11 → H c j = h1 c j) → (∀ j, 256 ≤ j → j < k → H 11 j = -1) → RM (d - 1) 29 (fun r h' => ∃ v, r = some (.int v) ∧ tlR Z D h ts m nd (ts x) v h') 27 [some (.ref 0), some (.int (nI x)), some (.int (nI (wkL ts (ts x) (k - 256)).length)), some (.int (nI k)), none, none] [] H := by
        intro f
        induction f with
        | zero =>
          intro k H a1 a2 a3 a4 a5
          have hk : k = x + 1 := by omega
          subst hk
          have hwl := wkL_le ts (ts x) (x + 1 - 256)
          have eH : ∀ c j, c ≠ 10 → c ≠ 11 → H c j = h c j := fun c j q1 q2 => by rw [a4 c j q2, r2 c j q1]
          obtain ⟨q1, q2⟩ := same H eH
          have e00 : H 0 0 = nI m := by rw [eH 0 0 (by decide) (by decide), t0]
          have e7 : H 7 x = nI (szT (ts x)) := by rw [eH 7 x (by decide) (by decide), (hrow x hx0).2]
          refine sM_29_27 ⟨fun _ => ?_, fun c => absurd ?_ c⟩
          · rw [e00, nI_add, show (200 : Int32) = nI 200 from rfl, ltN (by omega) (by omega), show (60 : Int32) = nI 60 from rfl, clp (by omega), e7, leN hsz (by omega)]
            refine ⟨fun c => ⟨-5, rfl, q2, Or.inl ⟨rfl, q1, hout, Or.inl (by omega)⟩⟩, fun c => ⟨inN hxl (by decide), fun c2 => ?_, fun c2 => ⟨-5, rfl, q2, Or.inl ⟨rfl, q1, hout, Or.inr (by omega)⟩⟩⟩⟩
            have z0 : Int32.toNatClampNeg 0 = 0 := by decide
            rw [z0]
            have hTn := mTab_nodes hT
            have eC : ∀ c j, c < 30 → ai_up (ai_up H 30 0 (nI x)) 31 0 0 c j = H c j := fun c j q => by rw [up_k _ _ (by omega), up_k _ _ (by omega)]
            have hcp : cpI h ts m T nd x (ai_up (ai_up H 30 0 (nI x)) 31 0 0) ts m := by
              refine ⟨mTab_eq0 (by rw [eC 0 0 (by omega), eH 0 0 (by decide) (by decide)]) (fun c j q1 q2 => by rw [eC c j (by omega), eH c j (by omega) (by omega)]) hTn, Nat.le_refl _, fun _ _ => rfl, fun k k1 k2 => ⟨fun c q1 q2 => by rw [eC c k (by omega), eH c k (by omega) (by omega)], fun i hi => ⟨by rw [eC 8 _ (by omega), eH 8 _ (by omega) (by omega)], by rw [eC 9 _ (by omega), eH 9 _ (by omega) (by omega)]⟩⟩, fun k k1 k2 => Or.inl ⟨by rw [eC 11 k (by omega)]; exact a5 k k1 (by omega), fun j hj e => ?_⟩⟩
              have := hinj j k (Or.inl hj) (Or.inr ⟨k1, by omega⟩) e
              omega
            refine cM_toldL (d := d - 1) (by omega) (hB := h) (h0 := h) (ts := ts) (m := m) (T := T) (nd := nd) hT hx2 (fun k k1 k2 => wk45 hI hV k1 k2) x x 0 _ ts m none none (Nat.le_refl _) hx1 (Nat.le_refl _) hcp ⟨fun c j q1 q2 => ?_, fun j q => ?_⟩ (by rw [up_k _ _ (by decide), up_s]) (up_s _ _ _ _) (by rw [eC 11 x (by omega)]; exact a5 x hx1 (by omega)) (by omega) (by omega) ?_
            · unfold fS at q2
              rw [up_k _ _ (by omega), up_k _ _ (by omega), eH c j (by omega) (by omega)]
            · rw [up_k _ _ (by decide), up_k _ _ (by decide), eH 0 j (by decide) (by decide)]
            · intro H2 tn n o4 o5 y1 y2 y3 y4
              refine sM_29_111 ⟨fun _ => ⟨inN hxl (by decide), ?_⟩, fun c => absurd (by decide) c⟩
              rw [clp (by omega)]
              have hinx : ts x ∈ nl tn n := by
                rw [y3]
                exact (((kpT_all _ (ts x) (nl ts m) (Nat.le_refl _)).2.2.1 (nl_cl hTn)).2) (ts x) (subT_rf _) (ty45_of hT hx0 (wk45 hI hV hx1 hx2))
              obtain ⟨i, i1, i2⟩ := nl_mem.mp hinx
              have hj : ∃ j, H2 11 x = nI j ∧ j < n ∧ tn j = ts x := by
                rcases y1.2.2.2.2 x hx1 (Nat.le_refl _) with ⟨-, z2⟩ | z
                · exact absurd i2 (z2 i i1)
                · exact z
              obtain ⟨j, j1, j2, j3⟩ := hj
              rw [j1]
              refine ⟨nI j, rfl, y2.tr ⟨fun c j q1 q2 => by rw [up_k _ _ q1], fun j q => up_i _ (by unfold fS0 at q; omega)⟩, Or.inr ⟨j, tn, n, rfl, j2, j3, ?_, y1.2.1, y1.2.2.1, y3, Or.inr c2⟩⟩
              refine mInv_back hI (mTab_eq0 (by rw [up_i _ (by decide)]) (fun c j q1 q2 => by rw [up_k _ _ (by omega)]) y1.1) (up_s _ _ _ _) y1.2.1 y1.2.2.1 (fun a ha => ?_) (by rw [up_i _ (by decide), y2.2 13 (by unfold fS0; omega)]) (fun c j q1 q2 => by rw [up_k _ _ (by omega), y2.1 c j (by omega) (by unfold fS; omega)])
              have hma : tn a ∈ kpT (ts x) (nl ts m) := by rw [← y3]; exact nl_mem.mpr ⟨a, ha, rfl⟩
              rcases (kpT_all _ (ts x) (nl ts m) (Nat.le_refl _)).2.1 _ hma with q | ⟨q1, q2⟩
              · obtain ⟨b, b1, b2⟩ := nl_mem.mp q
                rw [← b2]; exact mInv_wf hI (Or.inl b1)
              · obtain ⟨b, b1, b2, b3⟩ := sub_row hT x x _ (Nat.le_refl _) hx0 q1 (by have := ty45_fo q2; omega)
                rw [← b3]; exact mInv_wf hI b1
          · rw [ltN (by omega) (by omega)]; omega
        | succ f ih =>
          intro k H a1 a2 a3 a4 a5
          rcases Nat.lt_or_ge x k with hkx | hkx
          · exact ih k H (by omega) a2 a3 a4 a5
          · have hkT : k < T := by omega
            obtain ⟨s1, s2⟩ := wkL_suc ts (ts x) (k - 256)
            rw [show 256 + (k - 256) = k by omega, show k - 256 + 1 = k + 1 - 256 by omega] at s1 s2
            have go := ih (k + 1) (ai_up H 11 k (-1)) (by omega) (by omega) (by omega) (fun c j q => by rw [up_k _ _ q]; exact a4 c j q) (fun j q1 q2 => by
              by_cases e : j = k
              · rw [e, up_s]
              · rw [up_i _ e]; exact a5 j q1 (by omega))
            refine sM_29_27 ⟨fun c => ?_, fun _ => ⟨inN (by omega) (by decide), ?_⟩⟩
            · rw [ltN (by omega) (by omega)] at c; omega
            · rw [clp (by omega), a4 10 k (by decide), nI_1]
              refine ⟨fun c => ?_, fun c => ?_⟩
              · rcases r3 k (Or.inr ⟨a2, hkT⟩) with ⟨z, -⟩ | ⟨-, z⟩
                · rw [z] at c; exact absurd c (by decide)
                · rw [s2 z] at go
                  rw [Int32.add_zero]; exact go
              · rcases r3 k (Or.inr ⟨a2, hkT⟩) with ⟨-, z⟩ | ⟨z, -⟩
                · rw [s1 z] at go
                  rw [nI_1]; exact go
                · exact absurd z c
      exact L (x + 1 - 256) 256 h1 (by omega) (by omega) (by omega) (fun _ _ _ => rfl) (fun j q1 q2 => by omega)
    · rw [show (256 : Int32) = nI 256 from rfl, leN (by omega) (by omega)]; omega
