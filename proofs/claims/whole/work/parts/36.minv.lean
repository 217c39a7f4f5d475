def isG (g : Ty) : Prop := g = tN ∨ g = tY ∨ ∃ w t, g = tG w t
def wfO (D : DS) (d : Nat) (o : Ty) : Prop := (dsO D d = none ∧ o = tN) ∨ ∃ e, dsO D d = some e ∧ foT o = 5 ∧ dcl o = e
def wfN (D : DS) (d : Nat) (o a b c : Ty) : Prop := isG a ∧ isG b ∧ isG c ∧ ((a = tN ∧ b = tN ∧ c = tN) ∨ (0 < dsP D d ∧ a ≠ tN ∧ (b = tN ↔ dsP D d ≤ 1) ∧ (c = tN ↔ dsP D d ≤ 2) ∧ rwT (dsP D) o = false))
def wfT (D : DS) (nd : Nat) : Ty → Prop
  | .arg k => k < 10
  | .sub (.arg d) (.arg p) => d < nd ∧ p < dsP D d
  | .length t => foT t ≠ 1 ∧ foT t ≠ 2 ∧ foT t ≤ 5 ∧ wfT D nd t
  | .add (.arg d) (.mul o (.div a (.rem b c))) => d < nd ∧ wfO D d o ∧ wfN D d o a b c ∧ wfT D nd o ∧ wfT D nd a ∧ wfT D nd b ∧ wfT D nd c
  | .elem (.index w) t => w < 3 ∧ 3 ≤ foT t ∧ foT t ≤ 5 ∧ wfT D nd t
  | .null => True
  | .result => True
  | _ => False
/-- an ARGUMENT as a BOUND or a PARENT of d may have it -/
def fltG (d : Nat) (g : Ty) : Prop := opT g = false ∨ ∃ p, g = tG 0 (tV d p)
def fltT (d : Nat) (t : Ty) : Prop := ∃ e o a b c, t = tC e o a b c ∧ opT o = false ∧ fltG d a ∧ fltG d b ∧ fltG d c
/-- what holds of the DECLARATIONS alone -/
def dWf (D : DS) (nd : Nat) : Prop := 1 ≤ nd ∧ nd ≤ 12 ∧ (∀ d o, dsO D d = some o → o < d) ∧ (∀ d, d < nd → dsK D d ≤ 2 ∧ dsP D d ≤ 3 ∧ (∀ P ∈ dsR D d, fltT d P ∧ dcl P < d ∧ wfT D nd P) ∧ (dsR D d).length ≤ 3 ∧ ∀ p, (dsB D d p).length ≤ 3 ∧ (dsP D d ≤ p → dsB D d p = []) ∧ ∀ B ∈ dsB D d p, wfT D nd B ∧ (fltT d B ∨ (dsB D d p = [B] ∧ ∃ q, B = tV d q))) ∧
  dsO D 0 = none ∧ dsP D 0 = 0 ∧ ∃ rk : Nat → Nat → Nat, (∀ d p, rk d p < 3) ∧ ∀ d p q, d < nd → tV d q ∈ dsB D d p → rk d q < rk d p
def mLs (h : ai_H) (ts : Nat → Ty) (m c at_ : Nat) (cnt : Int32) (l : List Ty) : Prop := cnt = nI l.length ∧ ∀ (i : Nat) (t : Ty), l[i]? = some t → ∃ k, k < m ∧ h c (at_ + i) = nI k ∧ ts k = t
def mDec (h : ai_H) (ts : Nat → Ty) (D : DS) (m nd : Nat) : Prop := h 0 13 = nI nd ∧ ∀ d, d < nd → h 12 d = nI (dsK D d) ∧ h 13 d = nI (dsP D d) ∧ ((h 14 d = -1 ∧ dsO D d = none) ∨ ∃ o, o < d ∧ h 14 d = nI o ∧ dsO D d = some o) ∧ mLs h ts m 16 (3 * d) (h 15 d) (dsR D d) ∧ ∀ p, p < 3 → mLs h ts m 18 (3 * (3 * d + p)) (h 17 (3 * d + p)) (dsB D d p)
/-- all of the reference's table and DECLARATIONS -/
def mInv (Z : List Ty) (D : DS) (h : ai_H) (ts : Nat → Ty) (m T nd : Nat) : Prop := mTb Z h ts m T nd ∧ mDec h ts D m nd ∧ dWf D nd ∧ (∀ a, a < m → wfT D nd (ts a)) ∧ (∀ z ∈ Z, wfT D nd z) ∧ ts 10 = obT
def fD (c : Nat) : Prop := c ≤ 11 ∨ 19 ≤ c
def fD0 (j : Nat) : Prop := j ≠ 0 ∧ j ≠ 13
theorem mDec_fr {h h' : ai_H} {ts ts' : Nat → Ty} {D : DS} {m nd : Nat} (hD : mDec h ts D m nd) (hf : mFr fD fD0 h h') (hts : ∀ a, a < m → ts' a = ts a) : mDec h' ts' D m nd := by
  obtain ⟨a1, a2⟩ := hD
  have e : ∀ c j, 12 ≤ c → c ≤ 18 → h' c j = h c j := fun c j q1 q2 => hf.1 c j (by omega) (by unfold fD; omega)
  have el : ∀ c at_ cnt l, 12 ≤ c → c ≤ 18 → mLs h ts m c at_ cnt l → mLs h' ts' m c at_ cnt l := by
    intro c at_ cnt l q1 q2 ⟨b1, b2⟩
    refine ⟨b1, fun i t hi => ?_⟩
    obtain ⟨k, c1, c2, c3⟩ := b2 i t hi
    exact ⟨k, c1, by rw [e c _ q1 q2, c2], by rw [hts k c1, c3]⟩
  refine ⟨by rw [hf.2 13 (fun q => q.2 rfl), a1], fun d hd => ?_⟩
  obtain ⟨b1, b2, b3, b4, b5⟩ := a2 d hd
  refine ⟨by rw [e 12 _ (by omega) (by omega), b1], by rw [e 13 _ (by omega) (by omega), b2], ?_, ?_, fun p hp => ?_⟩
  · rw [e 14 _ (by omega) (by omega)]; exact b3
  · rw [e 15 _ (by omega) (by omega)]; exact el 16 _ _ _ (by omega) (by omega) b4
  · rw [e 17 _ (by omega) (by omega)]; exact el 18 _ _ _ (by omega) (by omega) (b5 p hp)
theorem mInv_out {Z : List Ty} {D : DS} {h h' : ai_H} {ts ts' : Nat → Ty} {m T T' nd : Nat} (hI : mInv Z D h ts m T nd) (hT : mTb Z h' ts' m T' nd) (hf : mFr fD fD0 h h') (hts : ∀ a, mLv m T a → ts' a = ts a) : mInv Z D h' ts' m T' nd := by
  obtain ⟨a1, a2, a3, a4, a5, a6⟩ := hI
  have hm : 11 ≤ m := a1.1.2.1
  exact ⟨hT, mDec_fr a2 hf (fun a q => hts a (Or.inl q)), a3, fun a q => by rw [hts a (Or.inl q)]; exact a4 a q, a5, by rw [hts 10 (Or.inl (by omega))]; exact a6⟩
theorem mInv_wf {Z : List Ty} {D : DS} {h : ai_H} {ts : Nat → Ty} {m T nd k : Nat} (hI : mInv Z D h ts m T nd) (hk : mLv m T k) : wfT D nd (ts k) := by
  obtain ⟨a1, a2, a3, a4, a5, a6⟩ := hI
  rcases hk with q | q
  · exact a4 k q
  · exact a5 _ (a1.2.2.1 k q.1 q.2)
/-- isRaw(x) -/
theorem cM_isRaw {d : Nat} (hd : 1 ≤ d) {Z : List Ty} {D : DS} {h : ai_H} {ts : Nat → Ty} {m T nd x : Nat} (hI : mInv Z D h ts m T nd) (hx : mLv m T x) : CM d 12 [.ref 0, .int (nI x)] h (some (.int (if rwT (dsP D) (ts x) = true then 1 else 0))) h := by
  obtain ⟨⟨⟨t0, t1, t2, t3, t4, t5, hrow, hinj⟩, hT1, -, -⟩, ⟨-, hdec⟩, hdw, -, -, -⟩ := hI
  refine iMe hd rfl (sM_12_0 ?_)
  have hxl := mLv_lt t2 t4 hx
  -- once it is
  have L1 : ∀ (f k : Nat), k ≤ f → mLv m T k → rwT (dsP D) (ts x) = true → RM (d - 1) 12 (fun r h2 => r = some (.int (if rwT (dsP D) (ts x) = true then 1 else 0)) ∧ h2 = h) 4 [some (.ref 0), some (.int (nI x)), some (.int 1), some (.int (nI k))] [] h := by
    intro f
    induction f with
    | zero =>
      intro k h1 h2 h3
      have hl := mLv_lt t2 t4 h2
      refine sM_12_4 ⟨fun _ => ⟨Or.inr rfl, by rw [if_pos h3], rfl⟩, fun _ => ⟨inN hl (by decide), fun _ => ⟨Or.inr rfl, by rw [if_pos h3], rfl⟩, fun c => absurd c ?_⟩⟩
      rw [clp (by omega)]
      rcases (hrow k h2).1 with ⟨w1, w2, w3⟩ | ⟨w0, -⟩ | ⟨w0, -⟩ | ⟨w0, -⟩
      · rw [w3, show (5 : Int32) = nI 5 from rfl, neN (by split <;> omega) (by omega)]; split <;> omega
      · omega
      · omega
      · omega
    | succ f ih =>
      intro k h1 h2 h3
      have hl := mLv_lt t2 t4 h2
      refine sM_12_4 ⟨fun _ => ⟨Or.inr rfl, by rw [if_pos h3], rfl⟩, fun _ => ⟨inN hl (by decide), fun _ => ⟨Or.inr rfl, by rw [if_pos h3], rfl⟩, fun c => ⟨fun _ => ?_, fun c => absurd c (by decide)⟩⟩⟩
      rw [clp (by omega)] at c ⊢
      rcases (hrow k h2).1 with ⟨w1, w2, w3⟩ | ⟨w0, d2, p2, w1, w2, -⟩ | ⟨w0, e2, w1, w2, -⟩ | ⟨w0, d2, n2, g2, o2, w1, w2, w3, w4, w5, w6, w7, w8, w9⟩
      · rw [w3, show (5 : Int32) = nI 5 from rfl, neN (by split <;> omega) (by omega)] at c
        split at c <;> omega
      · rw [w2] at c; exact absurd c (by decide)
      · rw [w2] at c; exact absurd c (by decide)
      · rcases w7 with ⟨u1, u2⟩ | ⟨o, u1, u2, u3, u4, u5, u6⟩
        · rw [u1]
          exact sM_12_4 ⟨fun _ => ⟨Or.inr rfl, by rw [if_pos h3], rfl⟩, fun c => absurd m1lt c⟩
        · rw [u1]
          exact ih o (by omega) u3 h3
  have L0 : ∀ (f k : Nat), k ≤ f → mLv m T k → (rwT (dsP D) (ts x) = rwT (dsP D) (ts k)) → RM (d - 1) 12 (fun r h2 => r = some (.int (if rwT (dsP D) (ts x) = true then 1 else 0)) ∧ h2 = h) 4 [some (.ref 0), some (.int (nI x)), some (.int 0), some (.int (nI k))] [] h := by
    intro f
    induction f with
    | zero =>
      intro k h1 h2 h3
      have hl := mLv_lt t2 t4 h2
      have hk0 : k = 0 := by omega
      have hf : rwT (dsP D) (ts k) = false := by
        rcases (hrow k h2).1 with ⟨w1, w2, w3⟩ | ⟨w0, -⟩ | ⟨w0, -⟩ | ⟨w0, -⟩
        · rw [w2]; rfl
        · omega
        · omega
        · omega
      refine sM_12_4 ⟨fun _ => ⟨Or.inl rfl, by rw [h3, hf]; rfl, rfl⟩, fun _ => ⟨inN hl (by decide), fun _ => ⟨Or.inl rfl, by rw [h3, hf]; rfl, rfl⟩, fun c => absurd c ?_⟩⟩
      rw [clp (by omega)]
      rcases (hrow k h2).1 with ⟨w1, w2, w3⟩ | ⟨w0, -⟩ | ⟨w0, -⟩ | ⟨w0, -⟩
      · rw [w3, show (5 : Int32) = nI 5 from rfl, neN (by split <;> omega) (by omega)]; split <;> omega
      · omega
      · omega
      · omega
    | succ f ih =>
      intro k h1 h2 h3
      have hl := mLv_lt t2 t4 h2
      refine sM_12_4 ⟨fun c => absurd c (gt0N (by omega)), fun _ => ⟨inN hl (by decide), ?_⟩⟩
      rw [clp (by omega)]
      rcases (hrow k h2).1 with ⟨w1, w2, w3⟩ | ⟨w0, d2, p2, w1, w2, -⟩ | ⟨w0, e2, w1, w2, -⟩ | ⟨w0, d2, n2, g2, o2, w1, w2, w3, w4, w5, w6, w7, w8, w9⟩
      · have hf : rwT (dsP D) (ts k) = false := by rw [w2]; rfl
        refine ⟨fun _ => ⟨Or.inl rfl, by rw [h3, hf]; rfl, rfl⟩, fun c => absurd c ?_⟩
        rw [w3, show (5 : Int32) = nI 5 from rfl, neN (by split <;> omega) (by omega)]; split <;> omega
      · have hf : rwT (dsP D) (ts k) = false := by rw [w1]; rfl
        refine ⟨fun _ => ⟨Or.inl rfl, by rw [h3, hf]; rfl, rfl⟩, fun c => absurd c ?_⟩
        rw [w2]; decide
      · have hf : rwT (dsP D) (ts k) = false := by rw [w1]; rfl
        refine ⟨fun _ => ⟨Or.inl rfl, by rw [h3, hf]; rfl, rfl⟩, fun c => absurd c ?_⟩
        rw [w2]; decide
      · have hraw : rwT (dsP D) (ts k) = ((decide (0 < dsP D d2) && nuT (g2 0)) || rwT (dsP D) o2) := by rw [w1]; rfl
        obtain ⟨b1, b2, -⟩ := hdec d2 w4
        have hd12 : d2 < 12 := by omega
        have hp3 : dsP D d2 ≤ 3 := (hdw.2.2.2.1 d2 w4).2.1
        have go : ∀ b : Bool, (decide (0 < dsP D d2) && nuT (g2 0)) = b → RM (d - 1) 12 (fun r h2 => r = some (.int (if rwT (dsP D) (ts x) = true then 1 else 0)) ∧ h2 = h) 4 [some (.ref 0), some (.int (nI x)), some (.int (if b = true then 1 else 0)), some (.int (h 5 k))] [] h := by
          intro b hb
          cases b with
          | true =>
            have h4 : rwT (dsP D) (ts x) = true := by rw [h3, hraw, hb]; rfl
            rcases w7 with ⟨u1, u2⟩ | ⟨o, u1, u2, u3, u4, u5, u6⟩
            · rw [u1]
              exact sM_12_4 ⟨fun _ => ⟨Or.inr rfl, by rw [if_pos h4]; rfl, rfl⟩, fun c => absurd m1lt c⟩
            · rw [u1]; exact L1 o o (Nat.le_refl _) u3 h4
          | false =>
            have h4 : rwT (dsP D) (ts x) = rwT (dsP D) o2 := by rw [h3, hraw, hb]; rfl
            rcases w7 with ⟨u1, u2⟩ | ⟨o, u1, u2, u3, u4, u5, u6⟩
            · rw [u1]
              exact sM_12_4 ⟨fun _ => ⟨Or.inl rfl, by rw [h4, u2]; rfl, rfl⟩, fun c => absurd m1lt c⟩
            · rw [u1]; exact ih o (by omega) u3 (by rw [h4, u5])
        rw [w2, w3, w5]
        refine ⟨fun c => absurd rfl c, fun _ => ⟨fun c => absurd rfl c, fun _ => ⟨inN hd12 (by decide), ?_⟩⟩⟩
        rw [clp (by omega), b2, show (0 : Int32) = nI 0 from rfl, leN (by omega) (by omega), neN (by omega) (by omega)]
        refine ⟨fun c => go false ?_, fun c => ⟨fun c2 => go false ?_, fun c2 => go true ?_⟩⟩
        · have : dsP D d2 = 0 := by omega
          rw [this]; rfl
        · rcases w8 0 (by omega) with ⟨-, -, e⟩ | ⟨_, _, _, _, _, _, _, _, e⟩
          · rw [e, show nuT tY = false from rfl, Bool.and_false]
          · rw [e, show ∀ w t, nuT (tG w t) = false from fun _ _ => rfl, Bool.and_false]
        · rw [w9 0 (by omega), show nuT tN = true from rfl, decide_eq_true (by omega)]; rfl
  exact L0 x x (Nat.le_refl _) hx rfl
