theorem nI_m1 (k : Nat) : (nI (k + 1) + (-1) : Int32) = nI k := by
  rw [← Int32.sub_eq_add_neg]
  exact nI_pred k
def nl (tn : Nat → Ty) (n : Nat) : List Ty := (List.range n).map tn
theorem nl_mem {tn : Nat → Ty} {n : Nat} {u : Ty} : u ∈ nl tn n ↔ ∃ j, j < n ∧ tn j = u := by simp [nl]
theorem nl_len (tn : Nat → Ty) (n : Nat) : (nl tn n).length = n := by simp [nl]
theorem nl_suc (tn : Nat → Ty) (n : Nat) : nl tn (n + 1) = nl tn n ++ [tn n] := by simp [nl, List.range_succ]
theorem nl_cg {f g : Nat → Ty} {n : Nat} (h : ∀ j, j < n → f j = g j) : nl f n = nl g n := by
  unfold nl
  apply List.map_congr_left
  intro a ha
  exact h a (List.mem_range.mp ha)
theorem nodup_map : ∀ {l : List Nat} {f : Nat → Ty}, l.Nodup → (∀ a b, a ∈ l → b ∈ l → f a = f b → a = b) → (l.map f).Nodup
  | [], _, _, _ => List.nodup_nil
  | x :: l, f, h, hi => by
    rw [List.map_cons]
    obtain ⟨h1, h2⟩ := List.nodup_cons.mp h
    refine List.nodup_cons.mpr ⟨fun hx => ?_, nodup_map h2 (fun a b ha hb => hi a b (List.mem_cons_of_mem _ ha) (List.mem_cons_of_mem _ hb))⟩
    obtain ⟨a, ha, e⟩ := List.mem_map.mp hx
    have := hi a x (List.mem_cons_of_mem _ ha) List.mem_cons_self e
    exact h1 (this ▸ ha)
theorem nl_nodup {h : ai_H} {tn : Nat → Ty} {n T nd : Nat} (hT : mTab h tn n T nd) : (nl tn n).Nodup := by
  obtain ⟨t0, t1, t2, t3, t4, t5, hrow, hinj⟩ := hT
  exact nodup_map List.nodup_range (fun a b ha hb e => hinj a b (Or.inl (List.mem_range.mp ha)) (Or.inl (List.mem_range.mp hb)) e)
theorem ty45_fo {u : Ty} (h : ty45 u) : foT u = 4 ∨ foT u = 5 := by
  rcases h with ⟨t, rfl⟩ | ⟨d, o, a, b, c, rfl⟩
  · exact Or.inl rfl
  · exact Or.inr rfl
theorem nl_cl {h : ai_H} {tn : Nat → Ty} {n nd : Nat} (hT : mTab h tn n 256 nd) : clN (nl tn n) := by
  intro v hv u h1 h2
  obtain ⟨j, hj, rfl⟩ := nl_mem.mp hv
  obtain ⟨i, a1, a2, a3⟩ := sub_row hT j j u (Nat.le_refl _) (Or.inl hj) h1 (by have := ty45_fo h2; omega)
  exact nl_mem.mpr ⟨i, by rcases a1 with q | q <;> omega, a3⟩
/-- only the NODES of a table -/
theorem mTab_nodes {h : ai_H} {ts : Nat → Ty} {m T nd : Nat} (hT : mTab h ts m T nd) : mTab h ts m 256 nd := by
  obtain ⟨t0, t1, t2, t3, t4, t5, hrow, hinj⟩ := hT
  have lv : ∀ a, mLv m 256 a → a < m := fun a q => by rcases q with q | q <;> omega
  refine ⟨t0, t1, t2, by omega, by omega, t5, fun k hk => ⟨?_, (hrow k (Or.inl (lv k hk))).2⟩, fun k j hk hj => hinj k j (Or.inl (lv k hk)) (Or.inl (lv j hj))⟩
  have hkm := lv k hk
  have nar : ∀ a, a < k → mLv m T a → mLv m 256 a := fun a q _ => Or.inl (by omega)
  rcases (hrow k (Or.inl hkm)).1 with w | w | ⟨w0, e2, w1, w2, w3, w4, w5⟩ | ⟨w0, d2, n2, g2, o2, w1, w2, w3, w4, w5, w6, w7, w8, w9⟩
  · exact Or.inl w
  · exact Or.inr (Or.inl w)
  · exact Or.inr (Or.inr (Or.inl ⟨w0, e2, w1, w2, w3, w4, nar _ w4 w5⟩))
  · refine Or.inr (Or.inr (Or.inr ⟨w0, d2, n2, g2, o2, w1, w2, w3, w4, w5, w6, ?_, fun i hi => ?_, w9⟩))
    · rcases w7 with q | ⟨o, u1, u2, u3, u4, u5, u6⟩
      · exact Or.inl q
      · exact Or.inr ⟨o, u1, u2, nar _ u2 u3, u4, u5, u6⟩
    · rcases w8 i hi with q | ⟨w, a, u1, u2, u3, u4, u5, u6, u7⟩
      · exact Or.inl q
      · exact Or.inr ⟨w, a, u1, u2, u3, u4, nar _ u4 u5, u6, u7⟩
theorem ty_in {t : Ty} {N : List Ty} (hf : foT t ≤ 5) (h : foT t ≤ 3 ∨ t ∈ N) : kpT t N = N := by
  unfold kpT
  split
  · rename_i t'
    rcases h with h | h
    · simp [foT] at h
    · rw [if_pos h]
  · rename_i d o a b c
    rcases h with h | h
    · simp [foT] at h
    · rw [if_pos h]
  · simp [foT] at hf
  · rfl
/-- what told() may change -/
def fS (c : Nat) : Prop := (1 ≤ c ∧ c ≤ 11) ∨ c = 21 ∨ c = 22 ∨ c = 30 ∨ c = 31
def fS0 (j : Nat) : Prop := j = 0 ∨ j = 1 ∨ j = 24
set_option maxHeartbeats 2000000 in
theorem cM_toldL {d : Nat} (hd : 2 ≤ d) {hB h0 : ai_H} {ts : Nat → Ty} {m T nd x : Nat} {x2 : Int32} {Q : Option Value → ai_H → Prop} (hT : mTab hB ts m T nd) (hxT : x < T) (hwf : ∀ k, 256 ≤ k → k < T → foT (ts k) = 4 ∨ foT (ts k) = 5) :
    ∀ (f k dp : Nat) (H : ai_H) (tn : Nat → Ty) (n : Nat) (o4 o5 : Option Value), k ≤ f → 256 ≤ k → k ≤ x → cpI hB ts m T nd x H tn n → mFr fS fS0 h0 H → H 30 dp = nI k → H 31 dp = 0 → H 11 k = -1 → dp + szT (ts k) ≤ 100 → (kpT (ts k) (nl tn n)).length ≤ 200 →
      (∀ (H' : ai_H) (tn' : Nat → Ty) (n' : Nat) (o4 o5 : Option Value), cpI hB ts m T nd x H' tn' n' → mFr fS fS0 h0 H' → nl tn' n' = kpT (ts k) (nl tn n) → (∀ j, j < dp → H' 30 j = H 30 j ∧ H' 31 j = H 31 j) → RM d 29 Q 111 [some (.ref 0), some (.int (nI x)), some (.int x2), some (.int (nI dp + (-1))), o4, o5] [] H') →
      RM d 29 Q 111 [some (.ref 0), some (.int (nI x)), some (.int x2), some (.int (nI dp)), o4, o5] [] H := by
  obtain ⟨t0, t1, t2, t3, t4, t5, hrow, hinj⟩ := id hT
  intro f
  induction f with
  | zero => intro k dp H tn n o4 o5 a1 a2; omega
  | succ f IH =>
    intro k dp H tn n o4 o5 a1 a2 a3 a4 a5 a6 a7 a8 a9 a10 a11
    have hlv : mLv m T k := Or.inr ⟨a2, by omega⟩
    have hkl := mLv_lt t2 t4 hlv
    obtain ⟨S, g, s1, s2, s3, s4⟩ := cM_part (d := d) (by omega) hT hlv (hwf k a2 (by omega))
    have hnew : ts k ∉ nl tn n := by
      intro q
      obtain ⟨j, j1, j2⟩ := nl_mem.mp q
      rcases a4.2.2.2.2 k a2 a3 with ⟨-, z⟩ | ⟨i, z1, z2, -⟩
      · exact z j j1 j2
      · rw [a8] at z1; exact absurd z1 (n1N' (by have := a4.1.2.2.1; omega))
    have hN : kpT (ts k) (nl tn n) = kpF g S (nl tn n) ++ [ts k] := by rw [s3, if_neg hnew]
    have hnd : (kpF g S (nl tn n) ++ [ts k]).Nodup := by
      rw [← hN]
      exact (kpT_all _ (ts k) (nl tn n) (Nat.le_refl _)).2.2.2 (nl_nodup a4.1)
    have hkS : ts k ∉ kpF g S (nl tn n) := fun q => (List.nodup_append.mp hnd).2.2 _ q _ (List.mem_singleton.mpr rfl) rfl
    have hlen : (kpF g S (nl tn n)).length < 200 := by
      rw [hN, List.length_append] at a10
      simp at a10; omega
    -- stage by stage
    have L : ∀ (r i : Nat) (H1 : ai_H) (tn1 : Nat → Ty) (n1 : Nat) (o4 o5 : Option Value), S - i ≤ r → i ≤ S → cpI hB ts m T nd x H1 tn1 n1 → mFr fS fS0 h0 H1 → nl tn1 n1 = kpF g i (nl tn n) → H1 30 dp = nI k → H1 31 dp = nI i → (∀ j, j < dp → H1 30 j = H 30 j ∧ H1 31 j = H 31 j) → RM d 29 Q 111 [some (.ref 0), some (.int (nI x)), some (.int x2), some (.int (nI dp)), o4, o5] [] H1 := by
      intro r
      induction r with
      | zero =>
        intro i H1 tn1 n1 o4 o5 b1 b2 b3 b4 b5 b6 b7 b8
        have hi : i = S := by omega
        subst hi
        have hn1 : n1 < 200 := by rw [← b5, nl_len] at hlen; exact hlen
        have h11 : H1 11 k = -1 := by
          rcases b3.2.2.2.2 k a2 a3 with ⟨z, -⟩ | ⟨j, z1, z2, z3⟩
          · exact z
          · exfalso
            apply hkS
            rw [← b5]
            exact nl_mem.mpr ⟨j, z2, z3⟩
        obtain ⟨rw7, rw8⟩ := b3.2.2.2.1 k a2 (by omega)
        have hp := (s4 H1 rw7 rw8).1
        have b3' := cpI_up (c := 31) (i := dp) (v := nI i + 1) b3 (Or.inr (by omega))
        obtain ⟨H2, y1, y2, y3⟩ := cM_copy (d := d) hd hT b3' a2 a3 hxT (hwf k a2 (by omega)) (by rw [up_k _ _ (by decide)]; exact h11) hn1 (fun p p1 p2 p3 => by
          obtain ⟨q1, q2, q3⟩ := mPr_ok hT hlv (by omega) p1 p2
          rw [up_k _ _ (by decide)]
          intro hm1
          have hpx : p < T := by rcases q1 with z | z <;> omega
          have hin : ts p ∈ kpT (ts k) (nl tn n) := (((kpT_all _ (ts k) (nl tn n) (Nat.le_refl _)).2.2.1 (nl_cl a4.1)).2) (ts p) q3 (by
            have hfp := hwf p p3 hpx
            rcases (hrow p q1).1 with ⟨v1, v2, v3⟩ | ⟨v0, e, pp, v1, -⟩ | ⟨v0, e2, v1, -⟩ | ⟨v0, d2, n2, g2, o2, v1, -⟩
            · omega
            · rw [v1] at hfp; simp [tV, foT] at hfp
            · rw [v1]; exact Or.inl ⟨_, rfl⟩
            · rw [v1]; exact Or.inr ⟨_, _, _, _, _, rfl⟩)
          rw [hN] at hin
          rcases List.mem_append.mp hin with z | z
          · rw [← b5] at z
            obtain ⟨j, j1, j2⟩ := nl_mem.mp z
            rcases b3.2.2.2.2 p p3 (by omega) with ⟨-, z2⟩ | ⟨j2, z1, z2, -⟩
            · exact z2 j j1 j2
            · rw [hm1] at z1; exact absurd z1 (n1N' (by omega))
          · have := hinj p k q1 hlv (List.mem_singleton.mp z)
            omega)
        refine sM_29_111 ⟨fun c => absurd c (gt0N (by omega)), fun _ => ⟨inN (N := 400) (by omega) (by decide), ?_⟩⟩
        rw [clp (by omega), b6, clp (by omega), h11, b7]
        refine ⟨inN hkl (by decide), fun c => absurd rfl c, fun _ => ⟨_, _, hp, fun _ => ⟨fun c => absurd rfl c, fun _ => ⟨fun c => absurd h11 c, fun _ => ⟨H2, by rw [b7]; exact y1, ?_⟩⟩⟩, fun c => absurd (by decide) c⟩⟩
        refine a11 H2 _ _ _ _ y2 ?_ ?_ (fun j hj => ?_)
        · refine b4.tr (mFr.tr (h1 := ai_up H1 31 dp (nI i + 1)) ⟨fun c j q1 q2 => by rw [up_k _ _ (by unfold fS at q2; omega)], fun j q => by rw [up_k _ _ (by decide)]⟩ (y3.wk (fun c q => ?_) (fun c q => ?_)))
          · unfold fC at q; unfold fS; omega
          · unfold fC0 at q; unfold fS0; omega
        · rw [nl_suc, upT_s, hN, ← b5]
          congr 1
          exact nl_cg (fun j hj => upT_n _ (by omega))
        · have e : ∀ c, (c = 30 ∨ c = 31) → H2 c j = H1 c j := fun c q => by
            rw [y3.1 c j (by omega) (by unfold fC; omega), up_e, if_neg (by omega)]
          rw [e 30 (Or.inl rfl), e 31 (Or.inr rfl)]
          exact b8 j hj
      | succ r ih =>
        intro i H1 tn1 n1 o4 o5 b1 b2 b3 b4 b5 b6 b7 b8
        rcases Nat.lt_or_ge i S with hiS | hiS
        · have h11 : H1 11 k = -1 := by
            rcases b3.2.2.2.2 k a2 a3 with ⟨z, -⟩ | ⟨j, z1, z2, z3⟩
            · exact z
            · exfalso
              apply hkS
              have : ts k ∈ kpF g i (nl tn n) := by rw [← b5]; exact nl_mem.mpr ⟨j, z2, z3⟩
              have := kpF_up (S - i) i this
              rwa [show i + (S - i) = S by omega] at this
          have hsub : (kpF g (i + 1) (nl tn n)).length < 200 := by
            have := kpF_len (g := g) (N := nl tn n) (S - (i + 1)) (i + 1)
            rw [show i + 1 + (S - (i + 1)) = S by omega] at this
            omega
          have hn1 : n1 ≤ 200 := b3.1.2.2.1
          obtain ⟨rw7, rw8⟩ := b3.2.2.2.1 k a2 (by omega)
          have b3' := cpI_up (c := 31) (i := dp) (v := nI (i + 1)) b3 (Or.inr (by omega))
          have b4' : mFr fS fS0 h0 (ai_up H1 31 dp (nI (i + 1))) := b4.tr ⟨fun c j q1 q2 => by rw [up_k _ _ (by unfold fS at q2; omega)], fun j q => by rw [up_k _ _ (by decide)]⟩
          -- nothing to be done
          have stay : ∀ (o4 o5 : Option Value), kpF g (i + 1) (nl tn n) = kpF g i (nl tn n) → RM d 29 Q 111 [some (.ref 0), some (.int (nI x)), some (.int x2), some (.int (nI dp)), o4, o5] [] (ai_up H1 31 dp (nI (i + 1))) := by
            intro o4 o5 e
            refine ih (i + 1) _ tn1 n1 o4 o5 (by omega) (by omega) b3' b4' (by rw [e, b5]) (by rw [up_k _ _ (by decide)]; exact b6) (up_s _ _ _ _) (fun j hj => ?_)
            rw [up_k _ _ (by decide), up_i _ (by omega)]
            exact b8 j hj
          refine sM_29_111 ⟨fun c => absurd c (gt0N (by omega)), fun _ => ⟨inN (N := 400) (by omega) (by decide), ?_⟩⟩
          rw [clp (by omega), b6, clp (by omega), h11, b7]
          refine ⟨inN hkl (by decide), fun c => absurd rfl c, fun _ => ?_⟩
          rcases (s4 H1 rw7 rw8).2 i hiS with ⟨c1, c2⟩ | ⟨p, c1, c2, c3, c4, c5, c6⟩
          · refine ⟨_, _, c1, fun _ => ⟨fun _ => ?_, fun c => absurd c (by decide)⟩, fun c => absurd (by decide) c⟩
            rw [b7, nI_1]
            exact stay _ _ (c2 _)
          · have hpl := mLv_lt t2 t4 c2
            have hfp := (mRow_fo hT c2).2.1
            have hp2 : ¬ nI p = -2 := by
              intro q
              have h1 := congrArg Int32.toInt q
              rw [nI_toInt (by omega)] at h1
              have h2 : (-2 : Int32).toInt = -2 := by decide
              omega
            refine ⟨_, _, c1, ?_⟩
            rw [show (256 : Int32) = nI 256 from rfl, ltN (by omega) (by omega), clp (by omega), b7, nI_1]
            refine ⟨fun c => ⟨fun _ => stay _ _ ?_, fun c => absurd c hp2⟩, fun c => ⟨inN hpl (by decide), fun z => ⟨fun _ => stay _ _ ?_, fun c => absurd c hp2⟩, fun z => ⟨?_, ?_⟩⟩⟩
            · show kpT (g i) _ = _
              rw [c4]
              refine ty_in hfp (Or.inr ?_)
              rw [← b5]
              have hpm : p < m := by rcases c2 with q | q <;> omega
              exact nl_mem.mpr ⟨p, by have := b3.2.1; omega, b3.2.2.1 p hpm⟩
            · show kpT (g i) _ = _
              rw [c4]
              refine ty_in hfp (Or.inr ?_)
              rw [← b5]
              rcases b3.2.2.2.2 p (by omega) (by omega) with ⟨z1, -⟩ | ⟨j, z1, z2, z3⟩
              · exact absurd z1 z
              · exact nl_mem.mpr ⟨j, z2, z3⟩
            · rw [nI_1]
              exact inN (N := 400) (by omega) (by decide)
            · rw [nI_1, clp (by omega)]
              have hst : ∀ j, j ≤ dp → ai_up (ai_up (ai_up H1 31 dp (nI (i + 1))) 30 (dp + 1) (nI p)) 31 (dp + 1) 0 30 j = H1 30 j ∧ ai_up (ai_up (ai_up H1 31 dp (nI (i + 1))) 30 (dp + 1) (nI p)) 31 (dp + 1) 0 31 j = (if j = dp then nI (i + 1) else H1 31 j) := by
                intro j hj
                refine ⟨by rw [up_k _ _ (by decide), up_i _ (by omega), up_k _ _ (by decide)], ?_⟩
                rw [up_i _ (by omega), up_k _ _ (by decide), up_e]
                simp
              refine IH p (dp + 1) _ tn1 n1 _ _ (by omega) (by omega) (by omega) (cpI_up (cpI_up b3' (Or.inr (by omega))) (Or.inr (by omega))) ?_ ?_ (up_s _ _ _ _) ?_ (by omega) ?_ ?_
              · refine b4'.tr ⟨fun c j q1 q2 => ?_, fun j q => ?_⟩
                · rw [up_k _ _ (by unfold fS at q2; omega), up_k _ _ (by unfold fS at q2; omega)]
                · rw [up_k _ _ (by decide), up_k _ _ (by decide)]
              · rw [up_k _ _ (by decide), up_s]
              · rw [up_k _ _ (by decide), up_k _ _ (by decide), up_k _ _ (by decide)]; exact z
              · rw [b5, ← c4]
                exact Nat.le_of_lt hsub
              · intro H2 tn2 n2 o4 o5 y1 y2 y3 y4
                rw [show (nI (dp + 1) + (-1) : Int32) = nI dp from nI_m1 dp]
                refine ih (i + 1) H2 tn2 n2 o4 o5 (by omega) (by omega) y1 y2 (by rw [y3, b5, ← c4]; rfl) ?_ ?_ (fun j hj => ?_)
                · rw [(y4 dp (by omega)).1, (hst dp (by omega)).1, b6]
                · rw [(y4 dp (by omega)).2, (hst dp (by omega)).2, if_pos rfl]
                · rw [(y4 j (by omega)).1, (y4 j (by omega)).2, (hst j (by omega)).1, (hst j (by omega)).2, if_neg (by omega)]
                  exact b8 j hj
        · exact ih i H1 tn1 n1 o4 o5 (by omega) b2 b3 b4 b5 b6 b7 b8
    exact L S 0 H tn n o4 o5 (by omega) (by omega) a4 a5 rfl a6 a7 (fun j _ => ⟨rfl, rfl⟩)
