/-! RUNS OVER INTERVALS: a value is a reference, an int between two bounds (biased by 2^31), or some long -/
abbrev ab_V : Type := Nat ⊕ Option (Nat × Nat)
abbrev ab_L : Type := List (Option ab_V)
abbrev ab_G : Type := List (Nat × Nat × Nat × Nat)
abbrev ab_R : Type := Option (Nat × Nat) × ab_G
def ab_U (x : Int32) : Nat := (x.toInt + 2147483648).toNat
def ab_I (n : Nat) : Int32 := Int32.ofInt ((n : Int) - 2147483648)
def ab_in (p : Nat × Nat) (x : Int32) : Prop := p.1 ≤ ab_U x ∧ ab_U x ≤ p.2
def ab_v : ab_V → Value → Prop
  | .inl k, .ref q => k = q
  | .inr (some p), .int x => ab_in p x
  | .inr none, .long _ => True
  | _, _ => False
def ab_s : List ab_V → List Value → Prop
  | [], [] => True
  | a :: A, v :: S => ab_v a v ∧ ab_s A S
  | _, _ => False
def ab_l : ab_L → ai_Lc → Prop
  | [], [] => True
  | none :: A, none :: L => ab_l A L
  | some a :: A, some v :: L => ab_v a v ∧ ab_l A L
  | _, _ => False
def ab_g : ab_G → Nat → Nat → Nat × Nat
  | [], _, _ => (2147483648, 2147483648)
  | (k, i, lo, hi) :: G, k', j => bif Nat.beq k k' && Nat.beq i j then (lo, hi) else ab_g G k' j
def ab_h (G : ab_G) (h : ai_H) : Prop := ∀ k j, ab_in (ab_g G k j) (h k j)
def ab_r : Option (Nat × Nat) → Option Value → Prop
  | none, none => True
  | some p, some (.int x) => ab_in p x
  | _, _ => False
def ab_n {α : Type} (n : Nat) (f : Nat → α) : α := match n with
  | 0 => f 0
  | m + 1 => f (m + 1)
def ab_f {α : Type} (p : Nat × Nat) (f : Nat × Nat → α) : α := ab_n p.1 fun a => ab_n p.2 fun b => f (a, b)
theorem ab_n_eq {α : Type} (n : Nat) (f : Nat → α) : ab_n n f = f n := by cases n <;> rfl
theorem ab_f_eq {α : Type} (p : Nat × Nat) (f : Nat × Nat → α) : ab_f p f = f p := by simp [ab_f, ab_n_eq]
def ab_top : Nat × Nat := (0, 4294967295)
def ab_c (x : Int32) : Nat × Nat := (ab_U x, ab_U x)
def ab_add (p q : Nat × Nat) : Nat × Nat := bif Nat.ble 2147483648 (p.1 + q.1) && Nat.ble (p.2 + q.2) 6442450943 then (p.1 + q.1 - 2147483648, p.2 + q.2 - 2147483648) else ab_top
def ab_sub (p q : Nat × Nat) : Nat × Nat := bif Nat.ble q.2 (p.1 + 2147483648) && Nat.ble (p.2 + 2147483648) (q.1 + 4294967295) then (p.1 + 2147483648 - q.2, p.2 + 2147483648 - q.1) else ab_top
def ab_op (f : Int32 → Int32 → Int32) (p q : Nat × Nat) : Nat × Nat := bif Nat.beq p.1 p.2 && Nat.beq q.1 q.2 then ab_c (f (ab_I p.1) (ab_I q.1)) else ab_top
def ab_min (p q : Nat × Nat) : Nat × Nat := (bif Nat.ble p.1 q.1 then p.1 else q.1, bif Nat.ble p.2 q.2 then p.2 else q.2)
def ab_max (p q : Nat × Nat) : Nat × Nat := (bif Nat.ble p.1 q.1 then q.1 else p.1, bif Nat.ble p.2 q.2 then q.2 else p.2)
def ab_eq (p q : Nat × Nat) : Option Bool := bif Nat.beq p.1 p.2 && Nat.beq q.1 q.2 && Nat.beq p.1 q.1 then some true else bif Nat.ble (p.2 + 1) q.1 || Nat.ble (q.2 + 1) p.1 then some false else none
def ab_lt (p q : Nat × Nat) : Option Bool := bif Nat.ble (p.2 + 1) q.1 then some true else bif Nat.ble q.2 p.1 then some false else none
def ab_cmp (c : Jvm.ClassFile.Cond) (p q : Nat × Nat) : Option Bool := match c with
  | .eq => ab_eq p q
  | .ne => (ab_eq p q).map not
  | .lt => ab_lt p q
  | .ge => (ab_lt p q).map not
  | .gt => ab_lt q p
  | .le => (ab_lt q p).map not
def ab_01 (p : Nat × Nat) : Bool := Nat.ble 2147483648 p.1 && Nat.ble p.2 2147483649
/-- a place in an array of N -/
def ab_ix (p : Nat × Nat) (N : Nat) : Option Nat := bif Nat.beq p.1 p.2 && Nat.ble 2147483648 p.1 && Nat.ble (p.1 + 1) (2147483648 + N) then some (p.1 - 2147483648) else none
def ab_cat : ab_V → Nat
  | .inr none => 2
  | _ => 1
def ab_sum : List ab_V → Nat
  | [] => 0
  | a :: A => ab_cat a + ab_sum A
def ab_sa : ab_L → Nat → ab_V → Option ab_L
  | [], _, _ => none
  | _ :: L, 0, v => some (some v :: L)
  | some (.inr none) :: _, 1, _ => none
  | x :: L, k + 1, v => match ab_sa L k v with
    | some L2 => some (x :: L2)
    | none => none
def ab_fl : List ab_V → ab_L
  | [] => []
  | .inr none :: A => some (.inr none) :: none :: ab_fl A
  | a :: A => some a :: ab_fl A
def ab_rep : Nat → ab_L
  | 0 => []
  | n + 1 => none :: ab_rep n
def ab_ent (n : Nat) (as : List ab_V) : ab_L := ab_fl as ++ ab_rep (n - (ab_fl as).length)
def ab_ref (r : Option (Nat × Nat)) (S : List ab_V) : List ab_V := match r with
  | none => S
  | some p => .inr (some p) :: S
def ab_e (sh : ai_Sh) (mci : Nat → Nat) (ce : Nat → List ab_V → ab_G → Option ab_R) (cd : Nat → Option ai_I) : Nat → Nat → ab_L → List ab_V → ab_G → Option ab_R
  | 0, _, _, _, _ => none
  | n + 1, pc, L, S, G => match cd pc with
    | none => none
    | some (i, _, a, b, _, c) => match i with
      | .iconst _ => ab_n (pc + 1) fun pc => ab_f (ab_c c) fun p => ab_e sh mci ce cd n pc L (.inr (some p) :: S) G
      | .bipush _ => ab_n (pc + 2) fun pc => ab_f (ab_c c) fun p => ab_e sh mci ce cd n pc L (.inr (some p) :: S) G
      | .sipush _ => ab_n (pc + 3) fun pc => ab_f (ab_c c) fun p => ab_e sh mci ce cd n pc L (.inr (some p) :: S) G
      | .ldc2_w _ => ab_n (pc + 3) fun pc => ab_e sh mci ce cd n pc L (.inr none :: S) G
      | .aload_n _ => match L[a]? with
        | some (some (.inl x)) => ab_n (pc + 1) fun pc => ab_e sh mci ce cd n pc L (.inl x :: S) G
        | _ => none
      | .aload _ => match L[a]? with
        | some (some (.inl x)) => ab_n (pc + 2) fun pc => ab_e sh mci ce cd n pc L (.inl x :: S) G
        | _ => none
      | .iload_n _ => match L[a]? with
        | some (some (.inr (some x))) => ab_n (pc + 1) fun pc => ab_e sh mci ce cd n pc L (.inr (some x) :: S) G
        | _ => none
      | .iload _ => match L[a]? with
        | some (some (.inr (some x))) => ab_n (pc + 2) fun pc => ab_e sh mci ce cd n pc L (.inr (some x) :: S) G
        | _ => none
      | .lload_n _ => match L[a]? with
        | some (some (.inr none)) => ab_n (pc + 1) fun pc => ab_e sh mci ce cd n pc L (.inr none :: S) G
        | _ => none
      | .istore_n _ => match S with
        | .inr (some x) :: S' => (match ab_sa L a (.inr (some x)) with
          | some L' => ab_n (pc + 1) fun pc => ab_e sh mci ce cd n pc L' S' G
          | none => none)
        | _ => none
      | .istore _ => match S with
        | .inr (some x) :: S' => (match ab_sa L a (.inr (some x)) with
          | some L' => ab_n (pc + 2) fun pc => ab_e sh mci ce cd n pc L' S' G
          | none => none)
        | _ => none
      | .iinc _ _ => match L[a]? with
        | some (some (.inr (some x))) => ab_f (ab_add x (ab_c c)) fun y => (match ab_sa L a (.inr (some y)) with
          | some L' => ab_n (pc + 3) fun pc => ab_e sh mci ce cd n pc L' S G
          | none => none)
        | _ => none
      | .iadd => match S with
        | .inr (some y) :: .inr (some x) :: S' => ab_n (pc + 1) fun pc => ab_f (ab_add x y) fun p => ab_e sh mci ce cd n pc L (.inr (some p) :: S') G
        | _ => none
      | .isub => match S with
        | .inr (some y) :: .inr (some x) :: S' => ab_n (pc + 1) fun pc => ab_f (ab_sub x y) fun p => ab_e sh mci ce cd n pc L (.inr (some p) :: S') G
        | _ => none
      | .imul => match S with
        | .inr (some y) :: .inr (some x) :: S' => ab_n (pc + 1) fun pc => ab_f (ab_op (fun x y => x * y) x y) fun p => ab_e sh mci ce cd n pc L (.inr (some p) :: S') G
        | _ => none
      | .iand => match S with
        | .inr (some y) :: .inr (some x) :: S' => ab_n (pc + 1) fun pc => ab_f (ab_op (fun x y => x &&& y) x y) fun p => ab_e sh mci ce cd n pc L (.inr (some p) :: S') G
        | _ => none
      | .ior => match S with
        | .inr (some y) :: .inr (some x) :: S' => ab_n (pc + 1) fun pc => ab_f (ab_op (fun x y => x ||| y) x y) fun p => ab_e sh mci ce cd n pc L (.inr (some p) :: S') G
        | _ => none
      | .ishl => match S with
        | .inr (some y) :: .inr (some x) :: S' => ab_n (pc + 1) fun pc => ab_f (ab_op (fun x y => x <<< (y &&& 31)) x y) fun p => ab_e sh mci ce cd n pc L (.inr (some p) :: S') G
        | _ => none
      | .ishr => match S with
        | .inr (some y) :: .inr (some x) :: S' => ab_n (pc + 1) fun pc => ab_f (ab_op (fun x y => x >>> (y &&& 31)) x y) fun p => ab_e sh mci ce cd n pc L (.inr (some p) :: S') G
        | _ => none
      | .land => match S with
        | .inr none :: .inr none :: S' => ab_n (pc + 1) fun pc => ab_e sh mci ce cd n pc L (.inr none :: S') G
        | _ => none
      | .lushr => match S with
        | .inr (some _) :: .inr none :: S' => ab_n (pc + 1) fun pc => ab_e sh mci ce cd n pc L (.inr none :: S') G
        | _ => none
      | .lshr => match S with
        | .inr (some _) :: .inr none :: S' => ab_n (pc + 1) fun pc => ab_e sh mci ce cd n pc L (.inr none :: S') G
        | _ => none
      | .l2i => match S with
        | .inr none :: S' => ab_n (pc + 1) fun pc => ab_e sh mci ce cd n pc L (.inr (some ab_top) :: S') G
        | _ => none
      | .dup => match S with
        | .inl k :: S' => ab_n (pc + 1) fun pc => ab_e sh mci ce cd n pc L (.inl k :: .inl k :: S') G
        | .inr (some p) :: S' => ab_n (pc + 1) fun pc => ab_e sh mci ce cd n pc L (.inr (some p) :: .inr (some p) :: S') G
        | _ => none
      | .dup2 => match S with
        | .inr (some p) :: .inl k :: S' => ab_n (pc + 1) fun pc => ab_e sh mci ce cd n pc L (.inr (some p) :: .inl k :: .inr (some p) :: .inl k :: S') G
        | _ => none
      | .getfield _ => match S with
        | .inl k :: S' => match sh[k]? with
          | some (.inr (ci, fs)) => bif Nat.beq ci a then (match fs[b]? with
            | some none => ab_n (pc + 3) fun pc => ab_f (ab_g G k b) fun p => ab_e sh mci ce cd n pc L (.inr (some p) :: S') G
            | some (some k2) => ab_n (pc + 3) fun pc => ab_e sh mci ce cd n pc L (.inl k2 :: S') G
            | none => none) else none
          | _ => none
        | _ => none
      | .putfield _ => match S with
        | .inr (some x) :: .inl k :: S' => match sh[k]? with
          | some (.inr (ci, fs)) => (match fs[b]? with
            | some none => bif Nat.beq ci a && (decide (c = 0) || ab_01 x) then ab_n (pc + 3) fun pc => ab_e sh mci ce cd n pc L S' ((k, b, x) :: G) else none
            | _ => none)
          | _ => none
        | _ => none
      | .iaload => match S with
        | .inr (some i) :: .inl k :: S' => match sh[k]? with
          | some (.inl (false, N)) => (match ab_ix i N with
            | some j => ab_n (pc + 1) fun pc => ab_f (ab_g G k j) fun p => ab_e sh mci ce cd n pc L (.inr (some p) :: S') G
            | none => none)
          | _ => none
        | _ => none
      | .baload => match S with
        | .inr (some i) :: .inl k :: S' => match sh[k]? with
          | some (.inl (true, N)) => (match ab_ix i N with
            | some j => ab_n (pc + 1) fun pc => ab_f (ab_g G k j) fun p => ab_e sh mci ce cd n pc L (.inr (some p) :: S') G
            | none => none)
          | _ => none
        | _ => none
      | .iastore => match S with
        | .inr (some x) :: .inr (some i) :: .inl k :: S' => match sh[k]? with
          | some (.inl (false, N)) => (match ab_ix i N with
            | some j => ab_n j fun j => ab_n (pc + 1) fun pc => ab_e sh mci ce cd n pc L S' ((k, j, x) :: G)
            | none => none)
          | _ => none
        | _ => none
      | .bastore => match S with
        | .inr (some x) :: .inr (some i) :: .inl k :: S' => match sh[k]? with
          | some (.inl (true, N)) => (match ab_ix i N with
            | some j => bif ab_01 x then ab_n j fun j => ab_n (pc + 1) fun pc => ab_e sh mci ce cd n pc L S' ((k, j, x) :: G) else none
            | none => none)
          | _ => none
        | _ => none
      | .if_icmp cc _ => match S with
        | .inr (some y) :: .inr (some x) :: S' => (match ab_cmp cc x y with
          | some true => ab_e sh mci ce cd n a L S' G
          | some false => ab_n (pc + 3) fun pc => ab_e sh mci ce cd n pc L S' G
          | none => none)
        | _ => none
      | .ifCond cc _ => match S with
        | .inr (some x) :: S' => (match ab_cmp cc x (2147483648, 2147483648) with
          | some true => ab_e sh mci ce cd n a L S' G
          | some false => ab_n (pc + 3) fun pc => ab_e sh mci ce cd n pc L S' G
          | none => none)
        | _ => none
      | .goto _ => ab_e sh mci ce cd n a L S G
      | .tableswitch d lo hi offs => match S with
        | .inr (some x) :: S' => bif (decide ((x.2 : Int) < lo + 2147483648) || decide (hi + 2147483648 < (x.1 : Int))) then (bif decide (0 ≤ (pc : Int) + d) then ab_n ((pc : Int) + d).toNat fun pc => ab_e sh mci ce cd n pc L S' G else none)
            else bif Nat.beq x.1 x.2 then (match offs[((x.1 : Int) - 2147483648 - lo).toNat]? with
              | some off => bif decide (0 ≤ (pc : Int) + off) then ab_n ((pc : Int) + off).toNat fun pc => ab_e sh mci ce cd n pc L S' G else none
              | none => none) else none
        | _ => none
      | .invokevirtual _ => match S.drop b with
        | .inl k :: rest => bif Nat.beq (S.take b).length b && Nat.ble (ab_sum rest) 8 then (match sh[k]? with
          | some (.inr (ci, _)) => bif Nat.beq ci (mci a) then (match ce a (.inl k :: (S.take b).reverse) G with
            | some (r, G2) => ab_n (pc + 3) fun pc => ab_e sh mci ce cd n pc L (ab_ref r rest) G2
            | none => none) else none
          | _ => none) else none
        | _ => none
      | .invokestatic _ =>
        if a = 1001 then (match S with
          | .inr (some y) :: .inr (some x) :: S' => bif Nat.ble (ab_sum S') 8 then ab_n (pc + 3) fun pc => ab_f (ab_min x y) fun p => ab_e sh mci ce cd n pc L (.inr (some p) :: S') G else none
          | _ => none)
        else if a = 1002 then (match S with
          | .inr (some y) :: .inr (some x) :: S' => bif Nat.ble (ab_sum S') 8 then ab_n (pc + 3) fun pc => ab_f (ab_max x y) fun p => ab_e sh mci ce cd n pc L (.inr (some p) :: S') G else none
          | _ => none)
        else if a = 1003 then (match S with
          | .inr (some m) :: .inr (some dp) :: .inl k1 :: .inr (some sp) :: .inl k0 :: S' => (match sh[k0]?, sh[k1]? with
            | some (.inl (false, N0)), some (.inl (false, N1)) => (match ab_ix sp N0, ab_ix dp N1 with
              | some i, some j => bif Nat.beq m.1 2147483649 && Nat.beq m.2 2147483649 && Nat.ble (ab_sum S') 8 then ab_n (pc + 3) fun pc => ab_f (ab_g G k0 i) fun p => ab_e sh mci ce cd n pc L S' ((k1, j, p) :: G) else none
              | _, _ => none)
            | _, _ => none)
          | _ => none)
        else bif Nat.beq (S.take b).length b && Nat.ble (ab_sum (S.drop b)) 8 then (match ce a (S.take b).reverse G with
          | some (r, G2) => ab_n (pc + 3) fun pc => ab_e sh mci ce cd n pc L (ab_ref r (S.drop b)) G2
          | none => none) else none
      | .ireturn => match S with
        | [.inr (some x)] => bif Nat.beq b 0 || ab_01 x then some (some x, G) else none
        | _ => none
      | .return_ => match S with
        | [] => some (none, G)
        | _ => none
      | _ => none
/-- a call of method i over intervals -/
def ab_ec (sh : ai_Sh) (mci ml : Nat → Nat) (cd : Nat → Nat → Option ai_I) (fuel : Nat) : Nat → Nat → List ab_V → ab_G → Option ab_R
  | 0, _, _, _ => none
  | d + 1, i, as, G => bif Nat.beq (ab_ent (ml i) as).length (ml i) then ab_e sh mci (ab_ec sh mci ml cd fuel d) (cd i) fuel 0 (ab_ent (ml i) as) [] G else none
