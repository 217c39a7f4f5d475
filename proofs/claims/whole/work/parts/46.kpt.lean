theorem nodup_le : ∀ (l1 l2 : List Ty), l1.Nodup → (∀ x ∈ l1, x ∈ l2) → l1.length ≤ l2.length
  | [], _, _, _ => Nat.zero_le _
  | x :: l1, l2, h1, h2 => by
    obtain ⟨a, b, e⟩ := List.append_of_mem (h2 x List.mem_cons_self)
    have hx := (List.nodup_cons.mp h1)
    have := nodup_le l1 (a ++ b) hx.2 (fun y hy => by
      have hm := h2 y (List.mem_cons_of_mem _ hy)
      rw [e] at hm
      rcases List.mem_append.mp hm with q | q
      · exact List.mem_append.mpr (Or.inl q)
      · rcases List.mem_cons.mp q with q | q
        · rw [q] at hy; exact absurd hy hx.1
        · exact List.mem_append.mpr (Or.inr q))
    rw [e]
    simp only [List.length_append, List.length_cons] at this ⊢
    omega
def ty45 (u : Ty) : Prop := (∃ t, u = .length t) ∨ ∃ d o a b c, u = .add d (.mul o (.div a (.rem b c)))
/-- with a TYPE stand its parts -/
def clN (N : List Ty) : Prop := ∀ v ∈ N, ∀ u, subT v u → ty45 u → u ∈ N
theorem kpT_A (t : Ty) (N : List Ty) : kpT (tA t) N = @ite _ (tA t ∈ N) (Classical.propDecidable _) N (kpT t N ++ [tA t]) := rfl
theorem kpT_C (d : Nat) (o a b c : Ty) (N : List Ty) : kpT (tC d o a b c) N = @ite _ (tC d o a b c ∈ N) (Classical.propDecidable _) N (kpT c (kpT b (kpT a (kpT o N))) ++ [tC d o a b c]) := rfl
theorem kpT_G (w : Nat) (t : Ty) (N : List Ty) : kpT (tG w t) N = kpT t N := rfl
/-- all that is told of kpT at once: by the size of the tree -/
theorem kpT_all : ∀ (n : Nat) (t : Ty) (N : List Ty), SizeOf.sizeOf t ≤ n → (∃ W, kpT t N = N ++ W) ∧ (∀ u ∈ kpT t N, u ∈ N ∨ (subT t u ∧ ty45 u)) ∧ (clN N → clN (kpT t N) ∧ ∀ u, subT t u → ty45 u → u ∈ kpT t N) ∧ (N.Nodup → (kpT t N).Nodup) := by
  have sz : ∀ {t u : Ty}, subT t u → SizeOf.sizeOf u ≤ SizeOf.sizeOf t := by
    intro t u h
    induction t, u using subT.induct with
    | case1 u t ih =>
      simp only [subT] at h
      rcases h with rfl | h
      · exact Nat.le_refl _
      · have := ih h; simp only [Term.length.sizeOf_spec]; omega
    | case2 u d o a b c ih1 ih2 ih3 ih4 =>
      simp only [subT] at h
      simp only [Term.add.sizeOf_spec, Term.mul.sizeOf_spec, Term.div.sizeOf_spec, Term.rem.sizeOf_spec]
      rcases h with rfl | h | h | h | h
      · simp only [Term.add.sizeOf_spec, Term.mul.sizeOf_spec, Term.div.sizeOf_spec, Term.rem.sizeOf_spec]; omega
      · have := ih1 h; omega
      · have := ih2 h; omega
      · have := ih3 h; omega
      · have := ih4 h; omega
    | case3 u w t ih =>
      simp only [subT] at h
      rcases h with rfl | h
      · exact Nat.le_refl _
      · have := ih h; simp only [Term.elem.sizeOf_spec]; omega
    | case4 t u n1 n2 n3 =>
      unfold subT at h
      split at h
      · exact absurd rfl (n1 _)
      · exact absurd rfl (n2 _ _ _ _ _)
      · exact absurd rfl (n3 _ _)
      · rw [h]; exact Nat.le_refl _
  intro n
  induction n with
  | zero =>
    intro t N h
    cases t <;> simp at h
  | succ n ih =>
    intro t N h
    by_cases hA : ∃ t', t = Term.length t'
    · -- an ARRAY
      obtain ⟨t', rfl⟩ := hA
      rw [show kpT (Term.length t') N = @ite _ (Term.length t' ∈ N) (Classical.propDecidable _) N (kpT t' N ++ [Term.length t']) from rfl]
      have hsz : SizeOf.sizeOf t' ≤ n := by simp only [Term.length.sizeOf_spec] at h; omega
      obtain ⟨⟨W, i1⟩, i2, i3, i4⟩ := ih t' N hsz
      by_cases hm : Term.length t' ∈ N
      · rw [if_pos hm]
        exact ⟨⟨[], by simp⟩, fun u hu => Or.inl hu, fun hc => ⟨hc, fun u h1 h2 => hc _ hm u h1 h2⟩, fun q => q⟩
      · rw [if_neg hm]
        refine ⟨⟨W ++ [Term.length t'], by rw [i1, List.append_assoc]⟩, fun u hu => ?_, fun hc => ?_, fun hn => ?_⟩
        · rcases List.mem_append.mp hu with q | q
          · rcases i2 u q with y | ⟨y1, y2⟩
            · exact Or.inl y
            · exact Or.inr ⟨by simp only [subT]; exact Or.inr y1, y2⟩
          · rw [List.mem_singleton.mp q]
            exact Or.inr ⟨subT_rf _, Or.inl ⟨_, rfl⟩⟩
        · obtain ⟨c1, c2⟩ := i3 hc
          have all : ∀ u, subT (Term.length t') u → ty45 u → u ∈ kpT t' N ++ [Term.length t'] := by
            intro u h1 h2
            simp only [subT] at h1
            rcases h1 with h1 | h1
            · rw [h1]; exact List.mem_append.mpr (Or.inr (List.mem_singleton.mpr rfl))
            · exact List.mem_append.mpr (Or.inl (c2 u h1 h2))
          refine ⟨fun v hv u h1 h2 => ?_, all⟩
          rcases List.mem_append.mp hv with q | q
          · exact List.mem_append.mpr (Or.inl (c1 v q u h1 h2))
          · rw [List.mem_singleton.mp q] at h1; exact all u h1 h2
        · refine List.nodup_append.mpr ⟨i4 hn, by simp, fun x hx y hy => ?_⟩
          rw [List.mem_singleton.mp hy]
          intro e
          subst e
          rcases i2 _ hx with q | ⟨q, -⟩
          · exact hm q
          · have := sz q
            simp only [Term.length.sizeOf_spec] at this
            omega
    by_cases hC : ∃ d o a b c, t = Term.add d (.mul o (.div a (.rem b c)))
    · -- a CLASS TYPE
      obtain ⟨d, o, a, b, c, rfl⟩ := hC
      rw [show kpT (Term.add d (.mul o (.div a (.rem b c)))) N = @ite _ (Term.add d (.mul o (.div a (.rem b c))) ∈ N) (Classical.propDecidable _) N (kpT c (kpT b (kpT a (kpT o N))) ++ [Term.add d (.mul o (.div a (.rem b c)))]) from rfl]
      have hsz : SizeOf.sizeOf o ≤ n ∧ SizeOf.sizeOf a ≤ n ∧ SizeOf.sizeOf b ≤ n ∧ SizeOf.sizeOf c ≤ n ∧ SizeOf.sizeOf o < SizeOf.sizeOf (Term.add d (.mul o (.div a (.rem b c)))) ∧ SizeOf.sizeOf a < SizeOf.sizeOf (Term.add d (.mul o (.div a (.rem b c)))) ∧ SizeOf.sizeOf b < SizeOf.sizeOf (Term.add d (.mul o (.div a (.rem b c)))) ∧ SizeOf.sizeOf c < SizeOf.sizeOf (Term.add d (.mul o (.div a (.rem b c)))) := by
        simp only [Term.add.sizeOf_spec, Term.mul.sizeOf_spec, Term.div.sizeOf_spec, Term.rem.sizeOf_spec] at h ⊢
        omega
      obtain ⟨⟨W1, i1⟩, i2, i3, i4⟩ := ih o N hsz.1
      obtain ⟨⟨W2, j1⟩, j2, j3, j4⟩ := ih a (kpT o N) hsz.2.1
      obtain ⟨⟨W3, k1⟩, k2, k3, k4⟩ := ih b (kpT a (kpT o N)) hsz.2.2.1
      obtain ⟨⟨W4, l1⟩, l2, l3, l4⟩ := ih c (kpT b (kpT a (kpT o N))) hsz.2.2.2.1
      by_cases hm : Term.add d (.mul o (.div a (.rem b c))) ∈ N
      · rw [if_pos hm]
        exact ⟨⟨[], by simp⟩, fun u hu => Or.inl hu, fun hc => ⟨hc, fun u h1 h2 => hc _ hm u h1 h2⟩, fun q => q⟩
      · rw [if_neg hm]
        have mem : ∀ u ∈ kpT c (kpT b (kpT a (kpT o N))), u ∈ N ∨ (ty45 u ∧ (subT o u ∨ subT a u ∨ subT b u ∨ subT c u)) := by
          intro u hu
          rcases l2 u hu with q | ⟨q1, q2⟩
          · rcases k2 u q with q | ⟨q1, q2⟩
            · rcases j2 u q with q | ⟨q1, q2⟩
              · rcases i2 u q with q | ⟨q1, q2⟩
                · exact Or.inl q
                · exact Or.inr ⟨q2, Or.inl q1⟩
              · exact Or.inr ⟨q2, Or.inr (Or.inl q1)⟩
            · exact Or.inr ⟨q2, Or.inr (Or.inr (Or.inl q1))⟩
          · exact Or.inr ⟨q2, Or.inr (Or.inr (Or.inr q1))⟩
        refine ⟨⟨W1 ++ (W2 ++ (W3 ++ (W4 ++ [Term.add d (.mul o (.div a (.rem b c)))]))), by rw [l1, k1, j1, i1]; simp only [List.append_assoc]⟩, fun u hu => ?_, fun hc => ?_, fun hn => ?_⟩
        · rcases List.mem_append.mp hu with q | q
          · rcases mem u q with y | ⟨y1, y2⟩
            · exact Or.inl y
            · exact Or.inr ⟨by simp only [subT]; exact Or.inr y2, y1⟩
          · rw [List.mem_singleton.mp q]
            exact Or.inr ⟨subT_rf _, Or.inr ⟨_, _, _, _, _, rfl⟩⟩
        · obtain ⟨c1, c2⟩ := i3 hc
          obtain ⟨d1, d2⟩ := j3 c1
          obtain ⟨e1, e2⟩ := k3 d1
          obtain ⟨f1, f2⟩ := l3 e1
          have up1 : ∀ u, u ∈ kpT o N → u ∈ kpT c (kpT b (kpT a (kpT o N))) := fun u q => by rw [l1, k1, j1]; simp [q]
          have up2 : ∀ u, u ∈ kpT a (kpT o N) → u ∈ kpT c (kpT b (kpT a (kpT o N))) := fun u q => by rw [l1, k1]; simp [q]
          have up3 : ∀ u, u ∈ kpT b (kpT a (kpT o N)) → u ∈ kpT c (kpT b (kpT a (kpT o N))) := fun u q => by rw [l1]; simp [q]
          have all : ∀ u, subT (Term.add d (.mul o (.div a (.rem b c)))) u → ty45 u → u ∈ kpT c (kpT b (kpT a (kpT o N))) ++ [Term.add d (.mul o (.div a (.rem b c)))] := by
            intro u h1 h2
            simp only [subT] at h1
            rcases h1 with h1 | h1 | h1 | h1 | h1
            · rw [h1]; exact List.mem_append.mpr (Or.inr (List.mem_singleton.mpr rfl))
            · exact List.mem_append.mpr (Or.inl (up1 u (c2 u h1 h2)))
            · exact List.mem_append.mpr (Or.inl (up2 u (d2 u h1 h2)))
            · exact List.mem_append.mpr (Or.inl (up3 u (e2 u h1 h2)))
            · exact List.mem_append.mpr (Or.inl (f2 u h1 h2))
          refine ⟨fun v hv u h1 h2 => ?_, all⟩
          rcases List.mem_append.mp hv with q | q
          · exact List.mem_append.mpr (Or.inl (f1 v q u h1 h2))
          · rw [List.mem_singleton.mp q] at h1; exact all u h1 h2
        · refine List.nodup_append.mpr ⟨l4 (k4 (j4 (i4 hn))), by simp, fun x hx y hy => ?_⟩
          rw [List.mem_singleton.mp hy]
          intro e
          subst e
          rcases mem _ hx with q | ⟨-, q⟩
          · exact hm q
          · rcases q with q | q | q | q <;> (have := sz q; omega)
    by_cases hE : ∃ w t', t = Term.elem w t'
    · -- an ARGUMENT
      obtain ⟨w, t', rfl⟩ := hE
      rw [show kpT (Term.elem w t') N = kpT t' N from rfl]
      have hsz : SizeOf.sizeOf t' ≤ n := by simp only [Term.elem.sizeOf_spec] at h; omega
      obtain ⟨i1, i2, i3, i4⟩ := ih t' N hsz
      refine ⟨i1, fun u hu => ?_, fun hc => ⟨(i3 hc).1, fun u h1 h2 => ?_⟩, i4⟩
      · rcases i2 u hu with y | ⟨y1, y2⟩
        · exact Or.inl y
        · exact Or.inr ⟨by simp only [subT]; exact Or.inr y1, y2⟩
      · simp only [subT] at h1
        rcases h1 with h1 | h1
        · rw [h1] at h2; rcases h2 with ⟨_, h2⟩ | ⟨_, _, _, _, _, h2⟩ <;> cases h2
        · exact (i3 hc).2 u h1 h2
    have n1 : ∀ t', t = Term.length t' → False := fun t' q => hA ⟨t', q⟩
    have n2 : ∀ d o a b c, t = Term.add d (.mul o (.div a (.rem b c))) → False := fun d o a b c q => hC ⟨d, o, a, b, c, q⟩
    have n3 : ∀ w t', t = Term.elem w t' → False := fun w t' q => hE ⟨w, t', q⟩
    have hk : kpT t N = N := by
      unfold kpT
      split
      · exact (n1 _ rfl).elim
      · exact (n2 _ _ _ _ _ rfl).elim
      · exact (n3 _ _ rfl).elim
      · rfl
    rw [hk]
    refine ⟨⟨[], by simp⟩, fun u hu => Or.inl hu, fun hc => ⟨hc, fun u h1 h2 => ?_⟩, fun q => q⟩
    exfalso
    unfold subT at h1
    split at h1
    · exact n1 _ rfl
    · exact n2 _ _ _ _ _ rfl
    · exact n3 _ _ rfl
    · rw [h1] at h2
      rcases h2 with ⟨_, h2⟩ | ⟨_, _, _, _, _, h2⟩
      · exact n1 _ h2
      · exact n2 _ _ _ _ _ h2
