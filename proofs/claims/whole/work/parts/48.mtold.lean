theorem szT_A (t : Ty) : szT (tA t) = 1 + szT t := rfl
theorem szT_C (d : Nat) (o a b c : Ty) : szT (tC d o a b c) = 1 + szT o + szT a + szT b + szT c := rfl
theorem szT_G (w : Nat) (t : Ty) : szT (tG w t) = szT t := rfl
theorem kpT_N (N : List Ty) : kpT tN N = N := rfl
theorem kpT_Y (N : List Ty) : kpT tY N = N := rfl
theorem kpT_P (k : Nat) (N : List Ty) : kpT (tP k) N = N := rfl
theorem kpT_V (e p : Nat) (N : List Ty) : kpT (tV e p) N = N := rfl
noncomputable def kpF (g : Nat → Ty) : Nat → List Ty → List Ty
  | 0, N => N
  | i + 1, N => kpT (g i) (kpF g i N)
theorem kpT_ap (t : Ty) (N : List Ty) : ∃ W, kpT t N = N ++ W := (kpT_all _ t N (Nat.le_refl _)).1
theorem kpF_up {g : Nat → Ty} {N : List Ty} {u : Ty} : ∀ (n i : Nat), u ∈ kpF g i N → u ∈ kpF g (i + n) N
  | 0, _, h => h
  | n + 1, i, h => by
    obtain ⟨W, e⟩ := kpT_ap (g (i + n)) (kpF g (i + n) N)
    show u ∈ kpT (g (i + n)) (kpF g (i + n) N)
    rw [e]
    exact List.mem_append.mpr (Or.inl (kpF_up n i h))
theorem kpF_len {g : Nat → Ty} {N : List Ty} : ∀ (n i : Nat), (kpF g i N).length ≤ (kpF g (i + n) N).length
  | 0, _ => Nat.le_refl _
  | n + 1, i => by
    obtain ⟨W, e⟩ := kpT_ap (g (i + n)) (kpF g (i + n) N)
    show _ ≤ (kpT (g (i + n)) (kpF g (i + n) N)).length
    rw [e, List.length_append]
    have := kpF_len (g := g) (N := N) n i
    omega
/-- part(k, i): the parts of a row, one after the other -/
theorem cM_part {d : Nat} (hd : 1 ≤ d) {hB : ai_H} {ts : Nat → Ty} {m T nd k : Nat} (hT : mTab hB ts m T nd) (hk : mLv m T k) (hf : foT (ts k) = 4 ∨ foT (ts k) = 5) :
    ∃ (S : Nat) (g : Nat → Ty), 1 ≤ S ∧ S ≤ 4 ∧ (∀ N, kpT (ts k) N = @ite _ (ts k ∈ N) (Classical.propDecidable _) N (kpF g S N ++ [ts k])) ∧
      ∀ H : ai_H, (∀ c, 1 ≤ c → c ≤ 7 → H c k = hB c k) → (∀ i, i < 3 → H 8 (3 * k + i) = hB 8 (3 * k + i) ∧ H 9 (3 * k + i) = hB 9 (3 * k + i)) →
        CM d 28 [.ref 0, .int (nI k), .int (nI S)] H (some (.int (-2))) H ∧ ∀ i, i < S → (CM d 28 [.ref 0, .int (nI k), .int (nI i)] H (some (.int (-1))) H ∧ ∀ N, kpT (g i) N = N) ∨
          ∃ p, CM d 28 [.ref 0, .int (nI k), .int (nI i)] H (some (.int (nI p))) H ∧ mLv m T p ∧ p < k ∧ (∀ N, kpT (g i) N = kpT (ts p) N) ∧ szT (ts p) < szT (ts k) ∧ subT (ts k) (ts p) := by
  obtain ⟨t0, t1, t2, t3, t4, t5, hrow, hinj⟩ := id hT
  have hkl := mLv_lt t2 t4 hk
  rcases (hrow k hk).1 with ⟨w1, w2, w3⟩ | ⟨w0, e, p, w1, w2, w3, w4, w5, w6⟩ | ⟨w0, e2, w1, w2, w3, w4, w5⟩ | ⟨w0, d2, n2, g2, o2, w1, w2, w3, w4, w5, w6, w7, w8, w9⟩
  · rw [w2] at hf
    simp only [tP, foT] at hf
    split at hf
    · omega
    · split at hf <;> omega
  · rw [w1] at hf; simp [tV, foT] at hf
  · refine ⟨1, fun _ => ts e2, by omega, by omega, fun N => by rw [w1]; exact kpT_A _ _, fun H e1 e8 => ?_⟩
    have f1 : H 1 k = 4 := by rw [e1 1 (by omega) (by omega), w2]
    have f4 : H 4 k = nI e2 := by rw [e1 4 (by omega) (by omega), w3]
    refine ⟨iMe hd rfl (sM_28_0 ?_), fun i hi => Or.inr ⟨e2, iMe hd rfl (sM_28_0 ?_), w5, w4, fun N => rfl, by rw [w1, szT_A]; omega, by rw [w1]; exact subT_A.mpr (Or.inr (subT_rf _))⟩⟩
    · rw [clp (by omega), f1]
      exact ⟨inN hkl (by decide), fun c => absurd rfl c, fun _ => ⟨fun _ => ⟨rfl, rfl⟩, fun c => absurd c (by decide)⟩⟩
    · have : i = 0 := by omega
      subst this
      rw [clp (by omega), f1, f4]
      exact ⟨inN hkl (by decide), fun c => absurd rfl c, fun _ => ⟨fun c => absurd rfl c, fun _ => ⟨rfl, rfl⟩⟩⟩
  · have hg : ∀ i, i ≤ n2 → szT (if i = 0 then o2 else g2 (i - 1)) < szT (ts k) := by
      intro i hi
      rw [w1, szT_C]
      by_cases h0 : i = 0
      · rw [if_pos h0]; omega
      · rw [if_neg h0]
        have : i - 1 = 0 ∨ i - 1 = 1 ∨ i - 1 = 2 := by omega
        rcases this with q | q | q <;> rw [q] <;> omega
    refine ⟨n2 + 1, fun i => if i = 0 then o2 else g2 (i - 1), by omega, by omega, fun N => ?_, fun H e1 e8 => ?_⟩
    · have hl : kpF (fun i => if i = 0 then o2 else g2 (i - 1)) (n2 + 1) N = kpT (g2 2) (kpT (g2 1) (kpT (g2 0) (kpT o2 N))) := by
        have : n2 = 0 ∨ n2 = 1 ∨ n2 = 2 ∨ n2 = 3 := by omega
        rcases this with q | q | q | q
        · subst q; rw [w9 0 (by omega), w9 1 (by omega), w9 2 (by omega), kpT_N, kpT_N, kpT_N]; rfl
        · subst q; rw [w9 1 (by omega), w9 2 (by omega), kpT_N, kpT_N]; rfl
        · subst q; rw [w9 2 (by omega), kpT_N]; rfl
        · subst q; rfl
      rw [hl, w1]
      exact kpT_C _ _ _ _ _ _
    · have f1 : H 1 k = 5 := by rw [e1 1 (by omega) (by omega), w2]
      have f6 : H 6 k = nI n2 := by rw [e1 6 (by omega) (by omega), w5]
      refine ⟨iMe hd rfl (sM_28_0 ?_), fun i hi => ?_⟩
      · rw [clp (by omega), f1, f6, leN (by omega) (by omega)]
        exact ⟨inN hkl (by decide), fun _ => ⟨fun c => absurd rfl c, fun _ => ⟨fun c => by omega, fun _ => ⟨rfl, rfl⟩⟩⟩, fun c => absurd c (by decide)⟩
      · have run : ∀ r : Int32, (i = 0 → r = H 5 k) → (0 < i → H 8 (3 * k + (i - 1)) = 3 → r = -1) → (0 < i → ¬ H 8 (3 * k + (i - 1)) = 3 → r = H 9 (3 * k + (i - 1))) → CM d 28 [.ref 0, .int (nI k), .int (nI i)] H (some (.int r)) H := by
          intro r r0 r1 r2
          refine iMe hd rfl (sM_28_0 ?_)
          rw [clp (by omega), f1, f6, leN (by omega) (by omega), show (0 : Int32) = nI 0 from rfl, neN (by omega) (by omega)]
          refine ⟨inN hkl (by decide), fun _ => ⟨fun c => absurd rfl c, fun _ => ⟨fun _ => ⟨fun c => ?_, fun c => ⟨by rw [r0 c], rfl⟩⟩, fun c => by omega⟩⟩, fun c => absurd c (by decide)⟩
          have ei : (3 * nI k + nI i - 1 : Int32) = nI (3 * k + (i - 1)) := by
            rw [mul3, show (1 : Int32) = nI 1 from rfl, pk_sub (by omega)]
            congr 1; omega
          rw [ei, clp (by omega)]
          exact ⟨inN (by omega) (by decide), fun c2 => ⟨by rw [r2 (by omega) c2], rfl⟩, fun c2 => ⟨by rw [r1 (by omega) c2], rfl⟩⟩
        by_cases h0 : i = 0
        · subst h0
          have f5 : H 5 k = hB 5 k := e1 5 (by omega) (by omega)
          rcases w7 with ⟨u1, u2⟩ | ⟨o, u1, u2, u3, u4, u5, u6⟩
          · exact Or.inl ⟨run _ (fun _ => by rw [f5, u1]) (fun c => by omega) (fun c => by omega), fun N => by dsimp only; rw [if_pos rfl, u2]; rfl⟩
          · refine Or.inr ⟨o, run _ (fun _ => by rw [f5, u1]) (fun c => by omega) (fun c => by omega), u3, u2, fun N => by dsimp only; rw [if_pos rfl, u5], ?_, by rw [w1, u5]; exact subT_C.mpr (Or.inr (Or.inl (subT_rf _)))⟩
            have := hg 0 (by omega)
            rw [if_pos rfl, u5] at this
            exact this
        · obtain ⟨f8, f9⟩ := e8 (i - 1) (by omega)
          rcases w8 (i - 1) (by omega) with ⟨u1, u2, u3⟩ | ⟨w, a, u1, u2, u3, u4, u5, u6, u7⟩
          · exact Or.inl ⟨run _ (fun c => absurd c h0) (fun _ _ => rfl) (fun _ c => absurd (f8.trans u1) c), fun N => by dsimp only; rw [if_neg h0, u3]; rfl⟩
          · have n3 : ¬ H 8 (3 * k + (i - 1)) = 3 := by rw [f8, u2, show (3 : Int32) = nI 3 from rfl, neN (by omega) (by omega)]; omega
            refine Or.inr ⟨a, run _ (fun c => absurd c h0) (fun _ c => absurd c n3) (fun _ _ => by rw [f9, u3]), u5, u4, fun N => by dsimp only; rw [if_neg h0, u7]; rfl, ?_, ?_⟩
            · have := hg i (by omega)
              rw [if_neg h0, u7, szT_G] at this
              exact this
            · have hs : subT (g2 (i - 1)) (ts a) := by rw [u7]; exact subT_G.mpr (Or.inr (subT_rf _))
              rw [w1, subT_C]
              have : i - 1 = 0 ∨ i - 1 = 1 ∨ i - 1 = 2 := by omega
              rcases this with q | q | q <;> rw [q] at hs
              · exact Or.inr (Or.inr (Or.inl hs))
              · exact Or.inr (Or.inr (Or.inr (Or.inl hs)))
              · exact Or.inr (Or.inr (Or.inr (Or.inr hs)))
