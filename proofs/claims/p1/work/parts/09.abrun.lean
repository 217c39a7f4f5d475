theorem ab_bif {c : Bool} {x : Option ab_R} {y : ab_R} (h : (bif c then x else none) = some y) : c = true ∧ x = some y := by
  cases c with
  | true => exact ⟨rfl, h⟩
  | false => cases h
set_option maxHeartbeats 4000000 in
set_option maxRecDepth 20000 in
theorem ab_sound {sh : ai_Sh} {mci : Nat → Nat} {ce : Nat → List ab_V → ab_G → Option ab_R} {cd : Nat → Option ai_I} {cl : Nat → List Value → ai_H → Option Value → ai_H → Prop}
    (hce : ∀ a As G r G2, ce a As G = some (r, G2) → ∀ vs h, ab_s As vs → ab_h G h → ∃ v h2, cl a vs h v h2 ∧ ab_r r v ∧ ab_h G2 h2) (r : Option (Nat × Nat)) (G2 : ab_G) :
    ∀ (n pc : Nat) (A : ab_L) (B : List ab_V) (G : ab_G), ab_e sh mci ce cd n pc A B G = some (r, G2) → ∀ (L : ai_Lc) (S : List Value) (h : ai_H), ab_l A L → ab_s B S → ab_h G h → ai_P sh mci cl cd (fun r' h' => ab_r r r' ∧ ab_h G2 h') n pc L S h := by
  intro n
  induction n with
  | zero => intro pc A B G he; cases he
  | succ n ih =>
    intro pc A B G he L S h hL hS hG
    cases hcd : cd pc with
    | none => simp [ab_e, hcd] at he
    | some q =>
      obtain ⟨i, len, a, b, w, c⟩ := q
      simp only [ab_e, hcd] at he
      simp only [ai_P, hcd]
      cases i
      all_goals (try exact absurd (show (none : Option ab_R) = some (r, G2) from he) (fun z => by cases z))
      all_goals dsimp only at he ⊢
      all_goals (try simp only [ab_n_eq, ab_f_eq] at he)
      case iconst v => exact ih _ _ _ _ he _ _ _ hL ⟨ab_in_c c, hS⟩ hG
      case bipush v => exact ih _ _ _ _ he _ _ _ hL ⟨ab_in_c c, hS⟩ hG
      case sipush v => exact ih _ _ _ _ he _ _ _ hL ⟨ab_in_c c, hS⟩ hG
      case ldc2_w v => exact ih _ _ _ _ he _ _ _ hL ⟨trivial, hS⟩ hG
      case goto v => exact ih _ _ _ _ he _ _ _ hL hS hG
      case aload_n k =>
        split at he
        · rename_i x hx
          obtain ⟨v, h1, h2⟩ := ab_l_at hL hx
          cases v <;> first | exact h2.elim | (cases h2; rw [h1]; exact ih _ _ _ _ he _ _ _ hL ⟨rfl, hS⟩ hG)
        · cases he
      case aload k =>
        split at he
        · rename_i x hx
          obtain ⟨v, h1, h2⟩ := ab_l_at hL hx
          cases v <;> first | exact h2.elim | (cases h2; rw [h1]; exact ih _ _ _ _ he _ _ _ hL ⟨rfl, hS⟩ hG)
        · cases he
      case iload_n k =>
        split at he
        · rename_i x hx
          obtain ⟨v, h1, h2⟩ := ab_l_at hL hx
          cases v <;> first | exact h2.elim | (rw [h1]; exact ih _ _ _ _ he _ _ _ hL ⟨h2, hS⟩ hG)
        · cases he
      case iload k =>
        split at he
        · rename_i x hx
          obtain ⟨v, h1, h2⟩ := ab_l_at hL hx
          cases v <;> first | exact h2.elim | (rw [h1]; exact ih _ _ _ _ he _ _ _ hL ⟨h2, hS⟩ hG)
        · cases he
      case lload_n k =>
        split at he
        · rename_i hx
          obtain ⟨v, h1, h2⟩ := ab_l_at hL hx
          cases v <;> first | exact h2.elim | (rw [h1]; exact ih _ _ _ _ he _ _ _ hL ⟨h2, hS⟩ hG)
        · cases he
      case istore_n k =>
        split at he
        · rename_i x B'
          split at he
          · rename_i A' hA
            obtain ⟨x', S1, rfl, h1, h2⟩ := ab_s_int hS
            obtain ⟨L2, h3, h4⟩ := ab_l_set (v := .int x') hL hA h1
            exact ⟨L2, h3, ih _ _ _ _ he _ _ _ h4 h2 hG⟩
          · cases he
        · cases he
      case istore k =>
        split at he
        · rename_i x B'
          split at he
          · rename_i A' hA
            obtain ⟨x', S1, rfl, h1, h2⟩ := ab_s_int hS
            obtain ⟨L2, h3, h4⟩ := ab_l_set (v := .int x') hL hA h1
            exact ⟨L2, h3, ih _ _ _ _ he _ _ _ h4 h2 hG⟩
          · cases he
        · cases he
      case iinc k v =>
        split at he
        · rename_i x hx
          split at he
          · rename_i A' hA
            obtain ⟨v, h1, h2⟩ := ab_l_at hL hx
            cases v <;> first | exact h2.elim | skip
            rename_i x'
            obtain ⟨L2, h3, h4⟩ := ab_l_set (v := .int (x' + c)) hL hA (ab_in_add h2 (ab_in_c c))
            rw [h1]
            exact ⟨L2, h3, ih _ _ _ _ he _ _ _ h4 hS hG⟩
          · cases he
        · cases he
      case iadd =>
        split at he
        · obtain ⟨y', S1, rfl, hy, hS⟩ := ab_s_int hS
          obtain ⟨x', S2, rfl, hx, hS⟩ := ab_s_int hS
          exact ih _ _ _ _ he _ _ _ hL ⟨ab_in_add hx hy, hS⟩ hG
        · cases he
      case isub =>
        split at he
        · obtain ⟨y', S1, rfl, hy, hS⟩ := ab_s_int hS
          obtain ⟨x', S2, rfl, hx, hS⟩ := ab_s_int hS
          exact ih _ _ _ _ he _ _ _ hL ⟨ab_in_sub hx hy, hS⟩ hG
        · cases he
      case imul =>
        split at he
        · obtain ⟨y', S1, rfl, hy, hS⟩ := ab_s_int hS
          obtain ⟨x', S2, rfl, hx, hS⟩ := ab_s_int hS
          exact ih _ _ _ _ he _ _ _ hL ⟨ab_in_op (f := fun x y => x * y) hx hy, hS⟩ hG
        · cases he
      case iand =>
        split at he
        · obtain ⟨y', S1, rfl, hy, hS⟩ := ab_s_int hS
          obtain ⟨x', S2, rfl, hx, hS⟩ := ab_s_int hS
          exact ih _ _ _ _ he _ _ _ hL ⟨ab_in_op (f := fun x y => x &&& y) hx hy, hS⟩ hG
        · cases he
      case ior =>
        split at he
        · obtain ⟨y', S1, rfl, hy, hS⟩ := ab_s_int hS
          obtain ⟨x', S2, rfl, hx, hS⟩ := ab_s_int hS
          exact ih _ _ _ _ he _ _ _ hL ⟨ab_in_op (f := fun x y => x ||| y) hx hy, hS⟩ hG
        · cases he
      case ishl =>
        split at he
        · obtain ⟨y', S1, rfl, hy, hS⟩ := ab_s_int hS
          obtain ⟨x', S2, rfl, hx, hS⟩ := ab_s_int hS
          exact ih _ _ _ _ he _ _ _ hL ⟨ab_in_op (f := fun x y => x <<< (y &&& 31)) hx hy, hS⟩ hG
        · cases he
      case ishr =>
        split at he
        · obtain ⟨y', S1, rfl, hy, hS⟩ := ab_s_int hS
          obtain ⟨x', S2, rfl, hx, hS⟩ := ab_s_int hS
          exact ih _ _ _ _ he _ _ _ hL ⟨ab_in_op (f := fun x y => x >>> (y &&& 31)) hx hy, hS⟩ hG
        · cases he
      case land =>
        split at he
        · obtain ⟨y', S1, hE, hT⟩ := ab_s_long hS
          subst hE
          (replace hS := hT; clear hT)
          obtain ⟨x', S2, hE, hT⟩ := ab_s_long hS
          subst hE
          (replace hS := hT; clear hT)
          exact ih _ _ _ _ he _ _ _ hL ⟨trivial, hS⟩ hG
        · cases he
      case lushr =>
        split at he
        · obtain ⟨y', S1, rfl, hy, hS⟩ := ab_s_int hS
          obtain ⟨x', S2, hE, hT⟩ := ab_s_long hS
          subst hE
          (replace hS := hT; clear hT)
          exact ih _ _ _ _ he _ _ _ hL ⟨trivial, hS⟩ hG
        · cases he
      case lshr =>
        split at he
        · obtain ⟨y', S1, rfl, hy, hS⟩ := ab_s_int hS
          obtain ⟨x', S2, hE, hT⟩ := ab_s_long hS
          subst hE
          (replace hS := hT; clear hT)
          exact ih _ _ _ _ he _ _ _ hL ⟨trivial, hS⟩ hG
        · cases he
      case l2i =>
        split at he
        · obtain ⟨x', S1, hE, hT⟩ := ab_s_long hS
          subst hE
          (replace hS := hT; clear hT)
          exact ih _ _ _ _ he _ _ _ hL ⟨ab_in_top _, hS⟩ hG
        · cases he
      case dup =>
        split at he
        · obtain ⟨S1, hE, hT⟩ := ab_s_ref hS
          subst hE
          (replace hS := hT; clear hT)
          exact ⟨rfl, ih _ _ _ _ he _ _ _ hL ⟨rfl, rfl, hS⟩ hG⟩
        · obtain ⟨x', S1, rfl, hx, hS⟩ := ab_s_int hS
          exact ⟨rfl, ih _ _ _ _ he _ _ _ hL ⟨hx, hx, hS⟩ hG⟩
        · cases he
      case dup2 =>
        split at he
        · obtain ⟨x', S1, rfl, hx, hS⟩ := ab_s_int hS
          obtain ⟨S2, hE, hT⟩ := ab_s_ref hS
          subst hE
          (replace hS := hT; clear hT)
          exact ⟨rfl, rfl, ih _ _ _ _ he _ _ _ hL ⟨hx, rfl, hx, rfl, hS⟩ hG⟩
        · cases he
      case getfield ix =>
        split at he
        · rename_i k B'
          obtain ⟨S1, hE, hT⟩ := ab_s_ref hS
          subst hE
          (replace hS := hT; clear hT)
          split at he
          · rename_i ci fs hsk
            obtain ⟨hb, he⟩ := ab_bif he
            dsimp only
            rw [hsk]
            refine ⟨Nat.eq_of_beq_eq_true hb, ?_⟩
            split at he
            · rename_i hf
              rw [hf]
              exact ih _ _ _ _ he _ _ _ hL ⟨hG k b, hS⟩ hG
            · rename_i k2 hf
              rw [hf]
              exact ih _ _ _ _ he _ _ _ hL ⟨rfl, hS⟩ hG
            · cases he
          · cases he
        · cases he
      case putfield ix =>
        split at he
        · rename_i x k B'
          obtain ⟨x', S1, rfl, hx, hS⟩ := ab_s_int hS
          obtain ⟨S1, hE, hT⟩ := ab_s_ref hS
          subst hE
          (replace hS := hT; clear hT)
          split at he
          · rename_i ci fs hsk
            split at he
            · rename_i hf
              obtain ⟨hb, he⟩ := ab_bif he
              simp only [Bool.and_eq_true, Bool.or_eq_true, decide_eq_true_eq] at hb
              refine ⟨⟨fs, by rw [hsk, Nat.eq_of_beq_eq_true hb.1], hf⟩, ?_, ih _ _ _ _ he _ _ _ hL hS (ab_h_up hG hx)⟩
              rcases hb.2 with h1 | h1
              · exact Or.inl h1
              · exact Or.inr (ab_01_ok hx h1)
            · cases he
          · cases he
        · cases he
      case iaload =>
        split at he
        · rename_i i k B'
          obtain ⟨x', S1, rfl, hx, hS⟩ := ab_s_int hS
          obtain ⟨S1, hE, hT⟩ := ab_s_ref hS
          subst hE
          (replace hS := hT; clear hT)
          split at he
          · rename_i N hsk
            split at he
            · rename_i j hj
              obtain ⟨j1, j2, j3, j4⟩ := ab_ix_ok hx hj
              refine ⟨N, hsk, j1, ih _ _ _ _ he _ _ _ hL ⟨?_, hS⟩ hG⟩
              rw [j2]
              exact hG k j
            · cases he
          · cases he
        · cases he
      case baload =>
        split at he
        · rename_i i k B'
          obtain ⟨x', S1, rfl, hx, hS⟩ := ab_s_int hS
          obtain ⟨S1, hE, hT⟩ := ab_s_ref hS
          subst hE
          (replace hS := hT; clear hT)
          split at he
          · rename_i N hsk
            split at he
            · rename_i j hj
              obtain ⟨j1, j2, j3, j4⟩ := ab_ix_ok hx hj
              refine ⟨N, hsk, j1, ih _ _ _ _ he _ _ _ hL ⟨?_, hS⟩ hG⟩
              rw [j2]
              exact hG k j
            · cases he
          · cases he
        · cases he
      case iastore =>
        split at he
        · rename_i x i k B'
          obtain ⟨v', S1, rfl, hv, hS⟩ := ab_s_int hS
          obtain ⟨x', S1, rfl, hx, hS⟩ := ab_s_int hS
          obtain ⟨S1, hE, hT⟩ := ab_s_ref hS
          subst hE
          (replace hS := hT; clear hT)
          split at he
          · rename_i N hsk
            split at he
            · rename_i j hj
              obtain ⟨j1, j2, j3, j4⟩ := ab_ix_ok hx hj
              refine ⟨N, hsk, j1, ?_⟩
              rw [j2]
              exact ih _ _ _ _ he _ _ _ hL hS (ab_h_up hG hv)
            · cases he
          · cases he
        · cases he
      case bastore =>
        split at he
        · rename_i x i k B'
          obtain ⟨v', S1, rfl, hv, hS⟩ := ab_s_int hS
          obtain ⟨x', S1, rfl, hx, hS⟩ := ab_s_int hS
          obtain ⟨S1, hE, hT⟩ := ab_s_ref hS
          subst hE
          (replace hS := hT; clear hT)
          split at he
          · rename_i N hsk
            split at he
            · rename_i j hj
              obtain ⟨j1, j2, j3, j4⟩ := ab_ix_ok hx hj
              obtain ⟨hb, he⟩ := ab_bif he
              refine ⟨N, hsk, j1, ab_01_ok hv hb, ?_⟩
              rw [j2]
              exact ih _ _ _ _ he _ _ _ hL hS (ab_h_up hG hv)
            · cases he
          · cases he
        · cases he
      case if_icmp cc off =>
        split at he
        · obtain ⟨y', S1, rfl, hy, hS⟩ := ab_s_int hS
          obtain ⟨x', S2, rfl, hx, hS⟩ := ab_s_int hS
          split at he
          · rename_i hc
            exact Or.inl ⟨(ab_cmp_ok hx hy hc).mp rfl, ih _ _ _ _ he _ _ _ hL hS hG⟩
          · rename_i hc
            exact Or.inr ⟨fun z => Bool.noConfusion ((ab_cmp_ok hx hy hc).mpr z), ih _ _ _ _ he _ _ _ hL hS hG⟩
          · cases he
        · cases he
      case ifCond cc off =>
        split at he
        · obtain ⟨y', S1, rfl, hy, hS⟩ := ab_s_int hS
          have hz : ab_in (2147483648, 2147483648) 0 := ⟨Nat.le_of_eq ab_U0.symm, Nat.le_of_eq ab_U0⟩
          split at he
          · rename_i hc
            exact Or.inl ⟨(ab_cmp_ok hy hz hc).mp rfl, ih _ _ _ _ he _ _ _ hL hS hG⟩
          · rename_i hc
            exact Or.inr ⟨fun z => Bool.noConfusion ((ab_cmp_ok hy hz hc).mpr z), ih _ _ _ _ he _ _ _ hL hS hG⟩
          · cases he
        · cases he
      case tableswitch df lo hi offs =>
        split at he
        · rename_i x B'
          obtain ⟨x', S1, rfl, hx, hS⟩ := ab_s_int hS
          have hu := (ab_Ub x').1
          have := hx.1; have := hx.2
          cases hb : (decide ((x.2 : Int) < lo + 2147483648) || decide (hi + 2147483648 < (x.1 : Int))) with
          | true =>
            rw [hb] at he
            obtain ⟨h0, he⟩ := ab_bif (show (bif decide (0 ≤ (pc : Int) + df) then _ else none) = some (r, G2) from he)
            simp only [decide_eq_true_eq] at h0
            simp only [Bool.or_eq_true, decide_eq_true_eq] at hb
            refine Or.inl ⟨?_, ((pc : Int) + df).toNat, by omega, ih _ _ _ _ he _ _ _ hL hS hG⟩
            rcases hb with h1 | h1
            · left; omega
            · right; omega
          | false =>
            rw [hb] at he
            simp only [Bool.or_eq_false_iff, decide_eq_false_iff_not] at hb
            obtain ⟨h0, he⟩ := ab_bif (show (bif Nat.beq x.1 x.2 then _ else none) = some (r, G2) from he)
            have h0 := Nat.eq_of_beq_eq_true h0
            split at he
            · rename_i off hoff
              obtain ⟨h2, he⟩ := ab_bif he
              simp only [decide_eq_true_eq] at h2
              refine Or.inr ⟨by omega, by omega, off, ((pc : Int) + off).toNat, ?_, by omega, ih _ _ _ _ he _ _ _ hL hS hG⟩
              rw [← hoff, show x'.toInt - lo = (x.1 : Int) - 2147483648 - lo by omega]
            · cases he
        · cases he
      case invokevirtual ix =>
        split at he
        · rename_i k rest hd
          obtain ⟨hb, he⟩ := ab_bif he
          rw [Bool.and_eq_true] at hb
          split at he
          · rename_i ci fs hsk
            obtain ⟨hb2, he⟩ := ab_bif he
            split at he
            · rename_i r' G' hcall
              have ht := ab_s_take b hS
              rw [hd] at ht
              obtain ⟨S1, hS1, hS2⟩ := ab_s_ref ht.2
              obtain ⟨v, h2, c1, c2, c3⟩ := hce _ _ _ _ _ hcall (.ref k :: (S.take b).reverse) h ⟨rfl, ab_s_rev ht.1⟩ hG
              refine ⟨(S.take b).reverse, k, S1, fs, v, h2, ?_, ?_, ?_, ?_, c1, ih _ _ _ _ he _ _ _ hL (ab_s_ret c2 hS2) c3⟩
              · rw [List.reverse_reverse, ← hS1, List.take_append_drop]
              · rw [List.length_reverse, ab_s_len ht.1]; exact Nat.eq_of_beq_eq_true hb.1
              · rw [hsk, Nat.eq_of_beq_eq_true hb2]
              · rw [ab_s_sum hS2]; exact Nat.le_of_ble_eq_true hb.2
            · cases he
          · cases he
        · cases he
      case invokestatic ix =>
        by_cases h1 : a = 1001
        · simp only [if_pos h1] at he ⊢
          split at he
          · obtain ⟨hb, he⟩ := ab_bif he
            obtain ⟨y', S1, rfl, hy, hS⟩ := ab_s_int hS
            obtain ⟨x', S2, rfl, hx, hS⟩ := ab_s_int hS
            exact ⟨by rw [ab_s_sum hS]; exact Nat.le_of_ble_eq_true hb, ih _ _ _ _ he _ _ _ hL ⟨ab_in_min hx hy, hS⟩ hG⟩
          · cases he
        · by_cases h2 : a = 1002
          · simp only [if_neg h1, if_pos h2] at he ⊢
            split at he
            · obtain ⟨hb, he⟩ := ab_bif he
              obtain ⟨y', S1, rfl, hy, hS⟩ := ab_s_int hS
              obtain ⟨x', S2, rfl, hx, hS⟩ := ab_s_int hS
              exact ⟨by rw [ab_s_sum hS]; exact Nat.le_of_ble_eq_true hb, ih _ _ _ _ he _ _ _ hL ⟨ab_in_max hx hy, hS⟩ hG⟩
            · cases he
          · by_cases h3 : a = 1003
            · simp only [if_neg h1, if_neg h2, if_pos h3] at he ⊢
              split at he
              · rename_i m dp k1 sp k0 B'
                obtain ⟨m', S1, rfl, hm, hS⟩ := ab_s_int hS
                obtain ⟨d', S1, rfl, hd, hS⟩ := ab_s_int hS
                obtain ⟨S1, hE, hT⟩ := ab_s_ref hS
                subst hE
                (replace hS := hT; clear hT)
                obtain ⟨s', S1, rfl, hs, hS⟩ := ab_s_int hS
                obtain ⟨S1, hE, hT⟩ := ab_s_ref hS
                subst hE
                (replace hS := hT; clear hT)
                split at he
                · rename_i N0 N1 hk0 hk1
                  split at he
                  · rename_i i j hi hj
                    obtain ⟨hb, he⟩ := ab_bif he
                    simp only [Bool.and_eq_true] at hb
                    obtain ⟨i1, i2, i3, i4⟩ := ab_ix_ok hs hi
                    obtain ⟨j1, j2, j3, j4⟩ := ab_ix_ok hd hj
                    have e1 := Nat.eq_of_beq_eq_true hb.1.1
                    have e2 := Nat.eq_of_beq_eq_true hb.1.2
                    have hS9 := hS
                    have em : m' = 1 := by
                      rw [ab_eq_iff, ab_U1]
                      have := hm.1; have := hm.2
                      omega
                    subst em
                    have e3 : (1 : Int32).toNatClampNeg = 1 := by decide +kernel
                    refine ⟨N0, N1, hk0, hk1, i4, j4, by decide +kernel, by rw [i2, e3]; omega, by rw [j2, e3]; omega, by rw [ab_s_sum hS9]; exact Nat.le_of_ble_eq_true hb.2, ?_⟩
                    rw [i2, j2, e3]
                    exact ih _ _ _ _ he _ _ _ hL hS9 (ab_h_cp hG)
                  · cases he
                · cases he
              · cases he
            · simp only [if_neg h1, if_neg h2, if_neg h3] at he ⊢
              obtain ⟨hb, he⟩ := ab_bif he
              rw [Bool.and_eq_true] at hb
              split at he
              · rename_i r' G' hcall
                have ht := ab_s_take b hS
                obtain ⟨v, h4, c1, c2, c3⟩ := hce _ _ _ _ _ hcall ((S.take b).reverse) h (ab_s_rev ht.1) hG
                refine ⟨(S.take b).reverse, S.drop b, v, h4, ?_, ?_, ?_, c1, ih _ _ _ _ he _ _ _ hL (ab_s_ret c2 ht.2) c3⟩
                · rw [List.reverse_reverse, List.take_append_drop]
                · rw [List.length_reverse, ab_s_len ht.1]; exact Nat.eq_of_beq_eq_true hb.1
                · rw [ab_s_sum ht.2]; exact Nat.le_of_ble_eq_true hb.2
              · cases he
      case ireturn =>
        split at he
        · rename_i x
          obtain ⟨x', S1, rfl, hx, hS⟩ := ab_s_int hS
          cases ab_s_nil hS
          obtain ⟨hb, he⟩ := ab_bif he
          cases he
          rw [Bool.or_eq_true] at hb
          refine ⟨?_, hx, hG⟩
          rcases hb with h1 | h1
          · exact Or.inl (Nat.eq_of_beq_eq_true h1)
          · exact Or.inr (ab_01_ok hx h1)
        · cases he
      case return_ =>
        split at he
        · cases ab_s_nil hS
          cases he
          exact ⟨trivial, hG⟩
        · cases he
theorem ab_call {sh : ai_Sh} {mci ml : Nat → Nat} {cd : Nat → Nat → Option ai_I} {fuel : Nat} : ∀ (d i : Nat) (As : List ab_V) (G : ab_G) (r : Option (Nat × Nat)) (G2 : ab_G), ab_ec sh mci ml cd fuel d i As G = some (r, G2) → ∀ (vs : List Value) (h : ai_H), ab_s As vs → ab_h G h → ∃ v h2, ai_C sh mci ml cd d i vs h v h2 ∧ ab_r r v ∧ ab_h G2 h2
  | 0, _, _, _, _, _, he => by cases he
  | d + 1, i, As, G, r, G2, he => by
    intro vs h hs hG
    obtain ⟨hb, he⟩ := ab_bif he
    have hL := ab_l_ent (n := ml i) hs
    exact ai_intro (Q := fun r' h' => ab_r r r' ∧ ab_h G2 h') (by rw [ab_l_len hL]; exact Nat.eq_of_beq_eq_true hb) ⟨fuel, ab_sound (ab_call d) r G2 fuel 0 _ _ _ he _ _ _ hL trivial hG⟩
