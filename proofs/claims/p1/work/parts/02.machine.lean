/-! THE SMALL MACHINE: a run of the methods' code over pictures of cells: cell k holds h k j at its place j -/
abbrev ai_H : Type := Nat → Nat → Int32
abbrev ai_Sh : Type := List ((Bool × Nat) ⊕ (Nat × List (Option Nat)))
/-- an instruction, its length, three numbers that it uses, a constant -/
abbrev ai_I : Type := Instr × Nat × Nat × Nat × Nat × Int32
abbrev ai_Lc : Type := List (Option Value)
def ai_up (h : ai_H) (k i : Nat) (x : Int32) : ai_H := fun j => if j = k then upd (h k) i x else h j
def ai_cp (h : ai_H) (k0 k1 sp dp n : Nat) : ai_H := fun j => if j = k1 then va_cpy (h k0) (h k1) sp dp n else h j
def ai_set : ai_Lc → Nat → Value → Option ai_Lc
  | [], _, _ => none
  | _ :: L, 0, v => some (some v :: L)
  | some (.long _) :: _, 1, _ => none
  | some (.double _) :: _, 1, _ => none
  | x :: L, k + 1, v => (ai_set L k v).map (x :: ·)
def ai_cmp (c : Jvm.ClassFile.Cond) (x y : Int32) : Prop := match c with
  | .eq => x = y
  | .ne => ¬ x = y
  | .lt => x < y
  | .ge => y ≤ x
  | .gt => y < x
  | .le => x ≤ y
def ai_fl (vs : List Value) : ai_Lc := vs.flatMap fun v => if v.category = 2 then [some v, none] else [some v]
def ai_ent (n : Nat) (vs : List Value) : ai_Lc := ai_fl vs ++ List.replicate (n - (ai_fl vs).length) none
/-- n steps from here end, with Q -/
def ai_P (sh : ai_Sh) (mci : Nat → Nat) (cl : Nat → List Value → ai_H → Option Value → ai_H → Prop) (cd : Nat → Option ai_I) (Q : Option Value → ai_H → Prop) : Nat → Nat → ai_Lc → List Value → ai_H → Prop
  | 0, _, _, _, _ => False
  | n + 1, pc, L, S, h => match cd pc with
    | none => False
    | some (i, _, a, b, _, c) => match i with
      | .iconst _ => ai_P sh mci cl cd Q n (pc + 1) L (.int c :: S) h
      | .bipush _ => ai_P sh mci cl cd Q n (pc + 2) L (.int c :: S) h
      | .sipush _ => ai_P sh mci cl cd Q n (pc + 3) L (.int c :: S) h
      | .ldc2_w _ => ai_P sh mci cl cd Q n (pc + 3) L (.long (Int64.ofNat a) :: S) h
      | .aload_n _ => match L[a]? with
        | some (some (.ref x)) => ai_P sh mci cl cd Q n (pc + 1) L (.ref x :: S) h
        | _ => False
      | .aload _ => match L[a]? with
        | some (some (.ref x)) => ai_P sh mci cl cd Q n (pc + 2) L (.ref x :: S) h
        | _ => False
      | .iload_n _ => match L[a]? with
        | some (some (.int x)) => ai_P sh mci cl cd Q n (pc + 1) L (.int x :: S) h
        | _ => False
      | .iload _ => match L[a]? with
        | some (some (.int x)) => ai_P sh mci cl cd Q n (pc + 2) L (.int x :: S) h
        | _ => False
      | .lload_n _ => match L[a]? with
        | some (some (.long x)) => ai_P sh mci cl cd Q n (pc + 1) L (.long x :: S) h
        | _ => False
      | .istore_n _ => match S with
        | .int x :: S' => ∃ L', ai_set L a (.int x) = some L' ∧ ai_P sh mci cl cd Q n (pc + 1) L' S' h
        | _ => False
      | .istore _ => match S with
        | .int x :: S' => ∃ L', ai_set L a (.int x) = some L' ∧ ai_P sh mci cl cd Q n (pc + 2) L' S' h
        | _ => False
      | .iinc _ _ => match L[a]? with
        | some (some (.int x)) => ∃ L', ai_set L a (.int (x + c)) = some L' ∧ ai_P sh mci cl cd Q n (pc + 3) L' S h
        | _ => False
      | .iadd => match S with
        | .int y :: .int x :: S' => ai_P sh mci cl cd Q n (pc + 1) L (.int (x + y) :: S') h
        | _ => False
      | .isub => match S with
        | .int y :: .int x :: S' => ai_P sh mci cl cd Q n (pc + 1) L (.int (x - y) :: S') h
        | _ => False
      | .imul => match S with
        | .int y :: .int x :: S' => ai_P sh mci cl cd Q n (pc + 1) L (.int (x * y) :: S') h
        | _ => False
      | .iand => match S with
        | .int y :: .int x :: S' => ai_P sh mci cl cd Q n (pc + 1) L (.int (x &&& y) :: S') h
        | _ => False
      | .ior => match S with
        | .int y :: .int x :: S' => ai_P sh mci cl cd Q n (pc + 1) L (.int (x ||| y) :: S') h
        | _ => False
      | .ishl => match S with
        | .int y :: .int x :: S' => ai_P sh mci cl cd Q n (pc + 1) L (.int (x <<< (y &&& 31)) :: S') h
        | _ => False
      | .ishr => match S with
        | .int y :: .int x :: S' => ai_P sh mci cl cd Q n (pc + 1) L (.int (x >>> (y &&& 31)) :: S') h
        | _ => False
      | .land => match S with
        | .long y :: .long x :: S' => ai_P sh mci cl cd Q n (pc + 1) L (.long (x &&& y) :: S') h
        | _ => False
      | .lushr => match S with
        | .int y :: .long x :: S' => ai_P sh mci cl cd Q n (pc + 1) L (.long (x.toUInt64 >>> (y.toInt64.toUInt64 &&& Int64.toUInt64 63)).toInt64 :: S') h
        | _ => False
      | .lshr => match S with
        | .int y :: .long x :: S' => ai_P sh mci cl cd Q n (pc + 1) L (.long (x >>> (y.toInt64 &&& 63)) :: S') h
        | _ => False
      | .l2i => match S with
        | .long x :: S' => ai_P sh mci cl cd Q n (pc + 1) L (.int x.toInt32 :: S') h
        | _ => False
      | .dup => match S with
        | v :: S' => v.category = 1 ∧ ai_P sh mci cl cd Q n (pc + 1) L (v :: v :: S') h
        | _ => False
      | .dup2 => match S with
        | v :: u :: S' => v.category = 1 ∧ u.category = 1 ∧ ai_P sh mci cl cd Q n (pc + 1) L (v :: u :: v :: u :: S') h
        | _ => False
      | .getfield _ => match S with
        | .ref k :: S' => match sh[k]? with
          | some (.inr (ci, fs)) => ci = a ∧ (match fs[b]? with
            | some none => ai_P sh mci cl cd Q n (pc + 3) L (.int (h k b) :: S') h
            | some (some k2) => ai_P sh mci cl cd Q n (pc + 3) L (.ref k2 :: S') h
            | none => False)
          | _ => False
        | _ => False
      | .putfield _ => match S with
        | .int x :: .ref k :: S' => (∃ fs, sh[k]? = some (.inr (a, fs)) ∧ fs[b]? = some none) ∧ (c = 0 ∨ x = 0 ∨ x = 1) ∧ ai_P sh mci cl cd Q n (pc + 3) L S' (ai_up h k b x)
        | _ => False
      | .iaload => match S with
        | .int i :: .ref k :: S' => ∃ N, sh[k]? = some (.inl (false, N)) ∧ vp_in i N ∧ ai_P sh mci cl cd Q n (pc + 1) L (.int (h k i.toNatClampNeg) :: S') h
        | _ => False
      | .baload => match S with
        | .int i :: .ref k :: S' => ∃ N, sh[k]? = some (.inl (true, N)) ∧ vp_in i N ∧ ai_P sh mci cl cd Q n (pc + 1) L (.int (h k i.toNatClampNeg) :: S') h
        | _ => False
      | .iastore => match S with
        | .int x :: .int i :: .ref k :: S' => ∃ N, sh[k]? = some (.inl (false, N)) ∧ vp_in i N ∧ ai_P sh mci cl cd Q n (pc + 1) L S' (ai_up h k i.toNatClampNeg x)
        | _ => False
      | .bastore => match S with
        | .int x :: .int i :: .ref k :: S' => ∃ N, sh[k]? = some (.inl (true, N)) ∧ vp_in i N ∧ (x = 0 ∨ x = 1) ∧ ai_P sh mci cl cd Q n (pc + 1) L S' (ai_up h k i.toNatClampNeg x)
        | _ => False
      | .if_icmp cc _ => match S with
        | .int y :: .int x :: S' => (ai_cmp cc x y ∧ ai_P sh mci cl cd Q n a L S' h) ∨ (¬ ai_cmp cc x y ∧ ai_P sh mci cl cd Q n (pc + 3) L S' h)
        | _ => False
      | .ifCond cc _ => match S with
        | .int x :: S' => (ai_cmp cc x 0 ∧ ai_P sh mci cl cd Q n a L S' h) ∨ (¬ ai_cmp cc x 0 ∧ ai_P sh mci cl cd Q n (pc + 3) L S' h)
        | _ => False
      | .goto _ => ai_P sh mci cl cd Q n a L S h
      | .tableswitch d lo hi offs => match S with
        | .int x :: S' => ((x.toInt < lo ∨ hi < x.toInt) ∧ ∃ t : Nat, (pc : Int) + d = (t : Int) ∧ ai_P sh mci cl cd Q n t L S' h) ∨ (¬ x.toInt < lo ∧ ¬ hi < x.toInt ∧ ∃ (off : Int) (t : Nat), offs[(x.toInt - lo).toNat]? = some off ∧ (pc : Int) + off = (t : Int) ∧ ai_P sh mci cl cd Q n t L S' h)
        | _ => False
      | .invokevirtual _ => ∃ (As : List Value) (k : Nat) (rest : List Value) (fs : List (Option Nat)) (v : Option Value) (h2 : ai_H), S = As.reverse ++ .ref k :: rest ∧ As.length = b ∧ sh[k]? = some (.inr (mci a, fs)) ∧ (rest.map fun v => v.category).sum ≤ 8 ∧ cl a (.ref k :: As) h v h2 ∧ ai_P sh mci cl cd Q n (pc + 3) L (v.toList ++ rest) h2
      | .invokestatic _ =>
        if a = 1001 then (match S with
          | .int y :: .int x :: S' => (S'.map fun v => v.category).sum ≤ 8 ∧ ai_P sh mci cl cd Q n (pc + 3) L (.int (if y < x then y else x) :: S') h
          | _ => False)
        else if a = 1002 then (match S with
          | .int y :: .int x :: S' => (S'.map fun v => v.category).sum ≤ 8 ∧ ai_P sh mci cl cd Q n (pc + 3) L (.int (if x < y then y else x) :: S') h
          | _ => False)
        else if a = 1003 then (match S with
          | .int m :: .int dp :: .ref k1 :: .int sp :: .ref k0 :: S' => ∃ N0 N1, sh[k0]? = some (.inl (false, N0)) ∧ sh[k1]? = some (.inl (false, N1)) ∧ ¬ sp < 0 ∧ ¬ dp < 0 ∧ ¬ m < 0 ∧ sp.toNatClampNeg + m.toNatClampNeg ≤ N0 ∧ dp.toNatClampNeg + m.toNatClampNeg ≤ N1 ∧ (S'.map fun v => v.category).sum ≤ 8 ∧ ai_P sh mci cl cd Q n (pc + 3) L S' (ai_cp h k0 k1 sp.toNatClampNeg dp.toNatClampNeg m.toNatClampNeg)
          | _ => False)
        else ∃ (As : List Value) (rest : List Value) (v : Option Value) (h2 : ai_H), S = As.reverse ++ rest ∧ As.length = b ∧ (rest.map fun v => v.category).sum ≤ 8 ∧ cl a As h v h2 ∧ ai_P sh mci cl cd Q n (pc + 3) L (v.toList ++ rest) h2
      | .ireturn => match S with
        | [.int x] => (b = 0 ∨ x = 0 ∨ x = 1) ∧ Q (some (.int x)) h
        | _ => False
      | .return_ => match S with
        | [] => Q none h
        | _ => False
      | _ => False
def ai_R (sh : ai_Sh) (mci : Nat → Nat) (cl : Nat → List Value → ai_H → Option Value → ai_H → Prop) (cd : Nat → Option ai_I) (Q : Option Value → ai_H → Prop) (pc : Nat) (L : ai_Lc) (S : List Value) (h : ai_H) : Prop := ∃ n, ai_P sh mci cl cd Q n pc L S h
/-- a call of method i, at most d deep: its answer r, the cells behind it -/
def ai_C (sh : ai_Sh) (mci ml : Nat → Nat) (cd : Nat → Nat → Option ai_I) : Nat → Nat → List Value → ai_H → Option Value → ai_H → Prop
  | 0, _, _, _, _, _ => False
  | d + 1, i, as, h, r, h2 => (ai_ent (ml i) as).length = ml i ∧ ai_R sh mci (ai_C sh mci ml cd d) (cd i) (fun r' h' => r' = r ∧ h' = h2) 0 (ai_ent (ml i) as) [] h
