/-! THE TYPES AS TREES, and what is done with them -/
abbrev Ty : Type := Jvm.Term
def tP (k : Nat) : Ty := .arg k
def tV (d p : Nat) : Ty := .sub (.arg d) (.arg p)
def tA (t : Ty) : Ty := .length t
def tC (d : Nat) (o a b c : Ty) : Ty := .add (.arg d) (.mul o (.div a (.rem b c)))
def tN : Ty := .null
def tY : Ty := .result
def tG (w : Nat) (t : Ty) : Ty := .elem (.index w) t
def obT : Ty := tC 0 tN tN tN tN
/-- kinds, PARAMETERS, OUTER ones, BOUNDS, PARENTS -/
abbrev DS : Type := (Nat → Nat) × (Nat → Nat) × (Nat → Option Nat) × (Nat → Nat → List Ty) × (Nat → List Ty)
def dsK (D : DS) : Nat → Nat := D.1
def dsP (D : DS) : Nat → Nat := D.2.1
def dsO (D : DS) : Nat → Option Nat := D.2.2.1
def dsB (D : DS) : Nat → Nat → List Ty := D.2.2.2.1
def dsR (D : DS) : Nat → List Ty := D.2.2.2.2
def szT : Ty → Nat
  | .length t => 1 + szT t
  | .add _ (.mul o (.div a (.rem b c))) => 1 + szT o + szT a + szT b + szT c
  | .elem _ t => szT t
  | .arg _ => 1
  | .sub _ _ => 1
  | _ => 0
def opT : Ty → Bool
  | .length t => opT t
  | .add _ (.mul o (.div a (.rem b c))) => opT o || opT a || opT b || opT c
  | .elem _ t => opT t
  | .sub _ _ => true
  | _ => false
def nuT : Ty → Bool
  | .null => true
  | _ => false
def rwT (P : Nat → Nat) : Ty → Bool
  | .add (.arg d) (.mul o (.div a _)) => (decide (0 < P d) && nuT a) || rwT P o
  | _ => false
def dcl : Ty → Nat
  | .add (.arg d) _ => d
  | _ => 0
def outT : Ty → Ty
  | .add _ (.mul o _) => o
  | _ => .null
def agT : Ty → Nat → Ty
  | .add _ (.mul _ (.div a _)), 0 => a
  | .add _ (.mul _ (.div _ (.rem b _))), 1 => b
  | .add _ (.mul _ (.div _ (.rem _ c))), 2 => c
  | _, _ => .null
def foT : Ty → Nat
  | .arg k => if k < 8 then 0 else if k = 8 then 1 else 2
  | .sub _ _ => 3
  | .length _ => 4
  | .add _ _ => 5
  | _ => 6
def brT (O : Nat → Option Nat) : Nat → Nat → Ty
  | 0, d => tC d tN tN tN tN
  | n + 1, d => tC d (match O d with
    | none => tN
    | some o => brT O n o) tN tN tN
def evT (D : DS) : Nat → Nat → Nat → Ty
  | 0, _, _ => obT
  | n + 1, d, p => match dsB D d p with
    | [] => obT
    | b :: _ => match b with
      | .sub (.arg e) (.arg q) => evT D n e q
      | .add (.arg e) _ => brT (dsO D) 12 e
      | t => t
def erT (D : DS) : Ty → Ty
  | .length t => .length (erT D t)
  | .sub (.arg d) (.arg p) => evT D 4 d p
  | .add (.arg d) _ => brT (dsO D) 12 d
  | t => t
def telT : Ty → Nat → Nat → Option Ty
  | .add (.arg e) (.mul o (.div a (.rem b c))), d, p => if e = d then some (if p = 0 then a else if p = 1 then b else c) else telT o d p
  | _, _, _ => none
def tolT (w : Nat) (g : Ty) : Ty := if w = 0 then g else match g with
  | .elem (.index u) A => if u = 0 ∨ u = w then tG w A else tY
  | _ => tY
def puT (D : DS) (s : Ty) : Ty → Ty
  | .sub (.arg d) (.arg p) => match telT s d p with
    | some (.elem (.index w) A) => if w = 0 ∨ w = 1 then A else erT D (tV d p)
    | some .result => erT D (tV d p)
    | _ => tV d p
  | .length t => .length (puT D s t)
  | .add d (.mul o (.div a (.rem b c))) => .add d (.mul (puT D s o) (.div (puT D s a) (.rem (puT D s b) (puT D s c))))
  | .elem (.index w) (.sub (.arg d) (.arg p)) => match telT s d p with
    | some g => tolT w g
    | none => tG w (tV d p)
  | .elem w t => .elem w (puT D s t)
  | t => t
def PU (D : DS) (s t : Ty) : Ty := if rwT (dsP D) s = true then erT D t else puT D s t
def rch (D : DS) : Nat → Nat → Nat → Bool
  | 0, e, d => e == d
  | n + 1, e, d => e == d || (dsR D e).any fun P => rch D n (dcl P) d
def suT (D : DS) : Nat → Ty → Nat → Option Ty
  | 0, s, d => if dcl s = d then some s else none
  | n + 1, s, d => if dcl s = d then some s else match (dsR D (dcl s)).find? fun P => rch D 12 (dcl P) d with
    | none => none
    | some P => suT D n (PU D s P) d
def naT (a b : Nat) : Bool := if a = 3 ∨ b = 3 then a == 3 && decide (4 ≤ b) else decide (1 ≤ a) && decide (a < b)
def numT : Ty → Nat
  | .arg k => k
  | _ => 0
def maxI (x y z : Nat) : Nat := if x = 0 ∨ y = 0 ∨ z = 0 then 0 else if x = 2 ∨ y = 2 ∨ z = 2 then 2 else 1
/-- IN, with BELOW one deeper -/
noncomputable def inT (be : Ty → Ty → Nat) (x y : Ty) : Nat := match y with
  | .elem (.index 0) _ => @ite _ (x = y) (Classical.propDecidable _) 1 0
  | .elem (.index w) T => match x with
    | .elem (.index u) A => if u = 0 ∨ u = w then (if w = 1 then be A T else be T A) else 0
    | _ => 0
  | _ => 1
noncomputable def beS (D : DS) (be : Ty → Ty → Nat) (s b : Ty) : Nat :=
  if rwT (dsP D) b = true then 1 else if rwT (dsP D) s = true then 2 else @ite _ (outT s = outT b) (Classical.propDecidable _) (maxI (inT be (agT s 0) (agT b 0)) (inT be (agT s 1) (agT b 1)) (inT be (agT s 2) (agT b 2))) 0
/-- BELOW of what is neither alike nor plain -/
noncomputable def beM (D : DS) (be : Ty → Ty → Nat) (a b : Ty) : Nat := match a with
  | .sub (.arg d) (.arg p) => (((dsB D d p).map fun x => be x b).find? fun r => r != 0).getD 0
  | .length x => match b with
    | .length y => if foT x ≤ 2 ∨ foT y ≤ 2 then 0 else be x y
    | _ => 0
  | .add (.arg _) _ => match b with
    | .add (.arg e) _ => (match suT D 12 a e with
      | none => 0
      | some s => beS D be s b)
    | _ => 0
  | _ => 0
noncomputable def beT (D : DS) : Nat → Ty → Ty → Nat
  | 0, _, _ => 0
  | n + 1, a, b => @ite _ (a = b) (Classical.propDecidable _) 1 (
    if foT a = 0 ∧ foT b = 0 then (if naT (numT a) (numT b) = true then 1 else 0)
    else if foT a ≤ 1 ∨ foT b ≤ 2 then 0
    else if foT a = 2 then 1
    else @ite _ (b = obT) (Classical.propDecidable _) 1 (beM D (beT D n) a b))
/-- a TYPE becomes a NODE, its parts ahead of it -/
noncomputable def kpT : Ty → List Ty → List Ty
  | .length t, N => @ite _ (.length t ∈ N) (Classical.propDecidable _) N (kpT t N ++ [.length t])
  | .add d (.mul o (.div a (.rem b c))), N => @ite _ (.add d (.mul o (.div a (.rem b c))) ∈ N) (Classical.propDecidable _) N (kpT c (kpT b (kpT a (kpT o N))) ++ [.add d (.mul o (.div a (.rem b c)))])
  | .elem _ t, N => kpT t N
  | _, N => N
