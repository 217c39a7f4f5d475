def ai_lu : List (Nat × ai_I) → Nat → Option ai_I
  | [], _ => none
  | (k, q) :: t, pc => bif Nat.beq k pc then some q else ai_lu t pc
theorem ai_lu_mem : ∀ (t : List (Nat × ai_I)) (pc : Nat) (q : ai_I), ai_lu t pc = some q → (pc, q) ∈ t
  | [], _, _, h => by cases h
  | (k, q0) :: t, pc, q, h => by
    unfold ai_lu at h
    cases hb : Nat.beq k pc with
    | true =>
      rw [hb] at h
      have e : q0 = q := by simpa using h
      have e2 : k = pc := Nat.eq_of_beq_eq_true hb
      rw [e, e2]
      exact List.mem_cons_self
    | false =>
      rw [hb] at h
      exact List.mem_cons_of_mem _ (ai_lu_mem t pc q (by simpa using h))
/-- all rows of all methods are as they must be -/
def ai_all (mt : Nat → Option ai_Mt) : List ai_Mt → List (List (Nat × ai_I)) → Prop
  | [], [] => True
  | q :: qs, t :: ts => (t.all (fun e => ai_okb mt q.1.cls q.2.1 q.2.2.2.1 e.1 e.2) = true) ∧ ai_all mt qs ts
  | _, _ => False
theorem ai_all_at {mt : Nat → Option ai_Mt} : ∀ (qs : List ai_Mt) (ts : List (List (Nat × ai_I))), ai_all mt qs ts → ∀ i q, qs[i]? = some q → ∀ pc r, ai_lu (ts.getD i []) pc = some r → ai_okb mt q.1.cls q.2.1 q.2.2.2.1 pc r = true
  | [], _, _, i, q, h, _, _, _ => by simp at h
  | q0 :: qs, [], h, i, q, _, _, _, _ => by simp [ai_all] at h
  | q0 :: qs, t :: ts, h, 0, q, hq, pc, r, hl => by
    cases hq
    exact List.all_eq_true.mp h.1 (pc, r) (ai_lu_mem t pc r hl)
  | q0 :: qs, t :: ts, h, i + 1, q, hq, pc, r, hl => ai_all_at qs ts h.2 i q (by simpa using hq) pc r (by simpa using hl)
section AIX
variable {sh : ai_Sh} {mci : Nat → Nat} {cl : Nat → List Value → ai_H → Option Value → ai_H → Prop} {cd : Nat → Option ai_I} {Q : Option Value → ai_H → Prop}
set_option maxHeartbeats 1000000 in
theorem ai_P_ex : ∀ (n pc : Nat) (L : ai_Lc) (S : List Value) (h : ai_H), ai_P sh mci cl cd Q n pc L S h → ∃ r h2, Q r h2 ∧ ai_P sh mci cl cd (fun r' h' => r' = r ∧ h' = h2) n pc L S h := by
  intro n
  induction n with
  | zero => intro pc L S h hp; exact (show False from hp).elim
  | succ n ih =>
    intro pc L S h hp
    cases hcd : cd pc with
    | none => simp only [ai_P, hcd] at hp
    | some q =>
      obtain ⟨i, len, a, b, w, cc⟩ := q
      simp only [ai_P, hcd] at hp ⊢
      cases i
      all_goals (try exact (show False from hp).elim)
      all_goals dsimp only at hp ⊢
      case iconst v => exact ih _ _ _ _ hp
      case bipush v => exact ih _ _ _ _ hp
      case sipush v => exact ih _ _ _ _ hp
      case ldc2_w v => exact ih _ _ _ _ hp
      case goto v => exact ih _ _ _ _ hp
      case aload_n k => split at hp <;> first | exact hp.elim | exact ih _ _ _ _ hp
      case aload k => split at hp <;> first | exact hp.elim | exact ih _ _ _ _ hp
      case iload_n k => split at hp <;> first | exact hp.elim | exact ih _ _ _ _ hp
      case iload k => split at hp <;> first | exact hp.elim | exact ih _ _ _ _ hp
      case lload_n k => split at hp <;> first | exact hp.elim | exact ih _ _ _ _ hp
      case istore_n k => split at hp <;> first | exact hp.elim | (obtain ⟨L', e, hp⟩ := hp; obtain ⟨r, h2, q, z⟩ := ih _ _ _ _ hp; exact ⟨r, h2, q, L', e, z⟩)
      case istore k => split at hp <;> first | exact hp.elim | (obtain ⟨L', e, hp⟩ := hp; obtain ⟨r, h2, q, z⟩ := ih _ _ _ _ hp; exact ⟨r, h2, q, L', e, z⟩)
      case iinc k v => split at hp <;> first | exact hp.elim | (obtain ⟨L', e, hp⟩ := hp; obtain ⟨r, h2, q, z⟩ := ih _ _ _ _ hp; exact ⟨r, h2, q, L', e, z⟩)
      case iadd => split at hp <;> first | exact hp.elim | exact ih _ _ _ _ hp
      case isub => split at hp <;> first | exact hp.elim | exact ih _ _ _ _ hp
      case imul => split at hp <;> first | exact hp.elim | exact ih _ _ _ _ hp
      case iand => split at hp <;> first | exact hp.elim | exact ih _ _ _ _ hp
      case ior => split at hp <;> first | exact hp.elim | exact ih _ _ _ _ hp
      case ishl => split at hp <;> first | exact hp.elim | exact ih _ _ _ _ hp
      case ishr => split at hp <;> first | exact hp.elim | exact ih _ _ _ _ hp
      case land => split at hp <;> first | exact hp.elim | exact ih _ _ _ _ hp
      case lushr => split at hp <;> first | exact hp.elim | exact ih _ _ _ _ hp
      case lshr => split at hp <;> first | exact hp.elim | exact ih _ _ _ _ hp
      case l2i => split at hp <;> first | exact hp.elim | exact ih _ _ _ _ hp
      case dup => split at hp <;> first | exact hp.elim | (obtain ⟨r, h2, q, z⟩ := ih _ _ _ _ hp.2; exact ⟨r, h2, q, hp.1, z⟩)
      case dup2 => split at hp <;> first | exact hp.elim | (obtain ⟨r, h2, q, z⟩ := ih _ _ _ _ hp.2.2; exact ⟨r, h2, q, hp.1, hp.2.1, z⟩)
      case getfield ix =>
        split at hp
        · rename_i k S'
          cases hs : sh[k]? with
          | none => rw [hs] at hp; exact hp.elim
          | some c =>
            rw [hs] at hp
            cases c with
            | inl _ => exact hp.elim
            | inr q =>
              obtain ⟨ci, fs⟩ := q
              obtain ⟨e, hp⟩ := hp
              cases hf : fs[b]? with
              | none => rw [hf] at hp; exact hp.elim
              | some o =>
                rw [hf] at hp
                cases o with
                | none => obtain ⟨r, h2, q, z⟩ := ih _ _ _ _ hp; exact ⟨r, h2, q, by dsimp only; rw [hf]; exact ⟨e, z⟩⟩
                | some k2 => obtain ⟨r, h2, q, z⟩ := ih _ _ _ _ hp; exact ⟨r, h2, q, by dsimp only; rw [hf]; exact ⟨e, z⟩⟩
        · exact hp.elim
      case putfield ix => split at hp <;> first | exact hp.elim | (obtain ⟨e1, e2, hp⟩ := hp; obtain ⟨r, h2, q, z⟩ := ih _ _ _ _ hp; exact ⟨r, h2, q, e1, e2, z⟩)
      case iaload => split at hp <;> first | exact hp.elim | (obtain ⟨N, e1, e2, hp⟩ := hp; obtain ⟨r, h2, q, z⟩ := ih _ _ _ _ hp; exact ⟨r, h2, q, N, e1, e2, z⟩)
      case baload => split at hp <;> first | exact hp.elim | (obtain ⟨N, e1, e2, hp⟩ := hp; obtain ⟨r, h2, q, z⟩ := ih _ _ _ _ hp; exact ⟨r, h2, q, N, e1, e2, z⟩)
      case iastore => split at hp <;> first | exact hp.elim | (obtain ⟨N, e1, e2, hp⟩ := hp; obtain ⟨r, h2, q, z⟩ := ih _ _ _ _ hp; exact ⟨r, h2, q, N, e1, e2, z⟩)
      case bastore => split at hp <;> first | exact hp.elim | (obtain ⟨N, e1, e2, e3, hp⟩ := hp; obtain ⟨r, h2, q, z⟩ := ih _ _ _ _ hp; exact ⟨r, h2, q, N, e1, e2, e3, z⟩)
      case if_icmp k off =>
        split at hp
        · rcases hp with ⟨e, hp⟩ | ⟨e, hp⟩
          · obtain ⟨r, h2, q, z⟩ := ih _ _ _ _ hp; exact ⟨r, h2, q, Or.inl ⟨e, z⟩⟩
          · obtain ⟨r, h2, q, z⟩ := ih _ _ _ _ hp; exact ⟨r, h2, q, Or.inr ⟨e, z⟩⟩
        · exact hp.elim
      case ifCond k off =>
        split at hp
        · rcases hp with ⟨e, hp⟩ | ⟨e, hp⟩
          · obtain ⟨r, h2, q, z⟩ := ih _ _ _ _ hp; exact ⟨r, h2, q, Or.inl ⟨e, z⟩⟩
          · obtain ⟨r, h2, q, z⟩ := ih _ _ _ _ hp; exact ⟨r, h2, q, Or.inr ⟨e, z⟩⟩
        · exact hp.elim
      case tableswitch df lo hi offs =>
        split at hp
        · rcases hp with ⟨h1, t, h2, hp⟩ | ⟨h1, h2, off, t, h3, h4, hp⟩
          · obtain ⟨r, h2', q, z⟩ := ih _ _ _ _ hp; exact ⟨r, h2', q, Or.inl ⟨h1, t, h2, z⟩⟩
          · obtain ⟨r, h2', q, z⟩ := ih _ _ _ _ hp; exact ⟨r, h2', q, Or.inr ⟨h1, h2, off, t, h3, h4, z⟩⟩
        · exact hp.elim
      case invokevirtual ix =>
        obtain ⟨As, k, rest, fs, v, h2, e1, e2, e3, e4, e5, hp⟩ := hp
        obtain ⟨r, h2', q, z⟩ := ih _ _ _ _ hp
        exact ⟨r, h2', q, As, k, rest, fs, v, h2, e1, e2, e3, e4, e5, z⟩
      case invokestatic ix =>
        by_cases h1 : a = 1001
        · simp only [if_pos h1] at hp ⊢
          split at hp <;> first | exact hp.elim | (obtain ⟨r, h2, q, z⟩ := ih _ _ _ _ hp.2; exact ⟨r, h2, q, hp.1, z⟩)
        · by_cases h2 : a = 1002
          · simp only [if_neg h1, if_pos h2] at hp ⊢
            split at hp <;> first | exact hp.elim | (obtain ⟨r, h2, q, z⟩ := ih _ _ _ _ hp.2; exact ⟨r, h2, q, hp.1, z⟩)
          · by_cases h3 : a = 1003
            · simp only [if_neg h1, if_neg h2, if_pos h3] at hp ⊢
              split at hp <;> first | exact hp.elim | (obtain ⟨N0, N1, e0, e1, c1, c2, c3, c4, c5, c6, hp⟩ := hp; obtain ⟨r, h2, q, z⟩ := ih _ _ _ _ hp; exact ⟨r, h2, q, N0, N1, e0, e1, c1, c2, c3, c4, c5, c6, z⟩)
            · simp only [if_neg h1, if_neg h2, if_neg h3] at hp ⊢
              obtain ⟨As, rest, v, h2, e1, e2, e4, e5, hp⟩ := hp
              obtain ⟨r, h2', q, z⟩ := ih _ _ _ _ hp
              exact ⟨r, h2', q, As, rest, v, h2, e1, e2, e4, e5, z⟩
      case ireturn => split at hp <;> first | exact hp.elim | exact ⟨_, _, hp.2, hp.1, rfl, rfl⟩
      case return_ => split at hp <;> first | exact hp.elim | exact ⟨_, _, hp, rfl, rfl⟩
end AIX
/-- a run that ends with Q is a call's answer -/
theorem ai_intro {sh : ai_Sh} {mci ml : Nat → Nat} {cd : Nat → Nat → Option ai_I} {d i : Nat} {as : List Value} {h : ai_H} {Q : Option Value → ai_H → Prop} (hl : (ai_ent (ml i) as).length = ml i) (hR : ai_R sh mci (ai_C sh mci ml cd d) (cd i) Q 0 (ai_ent (ml i) as) [] h) : ∃ r h2, ai_C sh mci ml cd (d + 1) i as h r h2 ∧ Q r h2 := by
  obtain ⟨n, hp⟩ := hR
  obtain ⟨r, h2, hq, z⟩ := ai_P_ex n _ _ _ _ hp
  exact ⟨r, h2, ⟨hl, n, z⟩, hq⟩
