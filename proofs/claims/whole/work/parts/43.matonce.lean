theorem mRow_fo {h : ai_H} {ts : Nat → Ty} {m T nd k : Nat} (hT : mTab h ts m T nd) (hk : mLv m T k) : h 1 k = nI (foT (ts k)) ∧ foT (ts k) ≤ 5 ∧ (k < 10 ↔ foT (ts k) ≤ 2) ∧ (k < 10 → ts k = tP k) := by
  rcases (hT.2.2.2.2.2.2.1 k hk).1 with ⟨w1, w2, w3⟩ | ⟨w0, d2, p2, w1, w2, -⟩ | ⟨w0, e2, w1, w2, -⟩ | ⟨w0, d2, n2, g2, o2, w1, w2, -⟩
  · have hf : foT (ts k) = if k < 8 then 0 else k - 7 := by
      rw [w2]; simp only [tP, foT]
      by_cases h8 : k < 8
      · rw [if_pos h8, if_pos h8]
      · rw [if_neg h8, if_neg h8]
        by_cases h9 : k = 8
        · subst h9; rfl
        · have : k = 9 := by omega
          subst this; rfl
    rw [hf]
    refine ⟨w3, ?_, ?_, fun _ => w2⟩
    · split <;> omega
    · constructor
      · intro _; split <;> omega
      · intro _; exact w1
  · have hf : foT (ts k) = 3 := by rw [w1]; rfl
    rw [hf]; exact ⟨w2, by omega, by omega, fun q => by omega⟩
  · have hf : foT (ts k) = 4 := by rw [w1]; rfl
    rw [hf]; exact ⟨w2, by omega, by omega, fun q => by omega⟩
  · have hf : foT (ts k) = 5 := by rw [w1]; rfl
    rw [hf]; exact ⟨w2, by omega, by omega, fun q => by omega⟩
theorem cM_isPlain {d : Nat} (hd : 1 ≤ d) {h : ai_H} {ts : Nat → Ty} {m T nd k : Nat} (hT : mTab h ts m T nd) (hk : mLv m T k) : CM d 21 [.ref 0, .int (nI k)] h (some (.int (if k < 10 then 1 else 0))) h := by
  obtain ⟨f1, f2, f3, -⟩ := mRow_fo hT hk
  have hkl := mLv_lt hT.2.2.1 hT.2.2.2.2.1 hk
  refine iMe hd rfl (sM_21_0 ⟨inN hkl (by decide), fun c => ⟨?_, rfl⟩, fun c => ⟨?_, rfl⟩⟩)
  · rw [clp (by omega), f1, show (3 : Int32) = nI 3 from rfl, leN (by omega) (by omega)] at c
    rw [if_neg (by omega)]
  · rw [clp (by omega), f1, show (3 : Int32) = nI 3 from rfl, leN (by omega) (by omega)] at c
    rw [if_pos (by omega)]
theorem cM_isWider {d : Nat} (hd : 1 ≤ d) (h : ai_H) {a b : Nat} (ha : a < 8) (hb : b < 8) (hab : a ≠ b) : CM d 22 [.int (nI a), .int (nI b)] h (some (.int (if naT a b = true then 1 else 0))) h := by
  refine iMe hd rfl (sM_22_0 ⟨fun c => ⟨?_, rfl⟩, fun c => ⟨fun c2 => ⟨?_, rfl⟩, fun c2 => ⟨fun c3 => ?_, fun _ => ⟨fun c4 => ⟨?_, rfl⟩, fun c4 => ⟨?_, rfl⟩⟩⟩⟩⟩)
  · rw [show (0 : Int32) = nI 0 from rfl, leN (by omega) (by omega)] at c
    rw [if_neg]; unfold naT; split <;> simp <;> omega
  · rw [leN (by omega) (by omega)] at c2
    rw [if_neg]; unfold naT; split <;> simp <;> omega
  · rw [show (8 : Int32) = nI 8 from rfl, leN (by omega) (by omega)] at c3; omega
  · rw [show (3 : Int32) = nI 3 from rfl, neN (by omega) (by omega)] at c4
    rw [if_neg]; unfold naT; split <;> simp <;> omega
  · rw [show (3 : Int32) = nI 3 from rfl, neN (by omega) (by omega)] at c4
    rw [show (0 : Int32) = nI 0 from rfl, leN (by omega) (by omega)] at c
    rw [leN (by omega) (by omega)] at c2
    rw [if_pos]; unfold naT; split <;> simp <;> omega
theorem cM_isObject {d : Nat} (hd : 1 ≤ d) (h : ai_H) (x : Int32) : CM d 24 [.ref 0, .int x] h (some (.int (if x = 10 then 1 else 0))) h :=
  iMe hd rfl (sM_24_0 ⟨fun c => ⟨by rw [if_neg c], rfl⟩, fun c => ⟨by rw [if_pos c], rfl⟩⟩)
theorem beT_eq (D : DS) (n : Nat) (a : Ty) : beT D (n + 1) a a = 1 := by
  unfold beT
  rw [if_pos rfl]
theorem beT_ne (D : DS) (n : Nat) {a b : Ty} (h : a ≠ b) : beT D (n + 1) a b = (if foT a = 0 ∧ foT b = 0 then (if naT (numT a) (numT b) = true then 1 else 0)
    else if foT a ≤ 1 ∨ foT b ≤ 2 then 0
    else if foT a = 2 then 1
    else @ite _ (b = obT) (Classical.propDecidable _) 1 (beM D (beT D n) a b)) := by
  show (@ite _ (a = b) (Classical.propDecidable _) 1 _) = _
  rw [if_neg h]
/-- what atOnce() leaves to be asked deeper -/
def beA (D : DS) (ts : Nat → Ty) (a b : Nat) : Prop := ∃ e p, ts a = tV e p ∧ dsB D e p ≠ [] ∧ ∀ n, beT D (n + 1) (ts a) (ts b) = (((dsB D e p).map fun x => beT D n x (ts b)).find? fun r => r != 0).getD 0
def beB (D : DS) (h : ai_H) (ts : Nat → Ty) (m T a b : Nat) : Prop := ∃ x y, ts a = tA (ts x) ∧ ts b = tA (ts y) ∧ h 4 a = nI x ∧ mLv m T x ∧ h 4 b = nI y ∧ mLv m T y ∧ h 1 a = 4 ∧ ∀ n, beT D (n + 1) (ts a) (ts b) = beT D n (ts x) (ts y)
def beC (D : DS) (ts : Nat → Ty) (a b : Nat) : Prop := foT (ts a) = 5 ∧ foT (ts b) = 5 ∧ ∀ n, beT D (n + 1) (ts a) (ts b) = match suT D 12 (ts a) (dcl (ts b)) with
  | none => 0
  | some s => beS D (beT D n) s (ts b)
set_option maxHeartbeats 1000000 in
theorem cM_atOnce {d : Nat} (hd : 2 ≤ d) {Z : List Ty} {D : DS} {h : ai_H} {ts : Nat → Ty} {m T nd a b : Nat} (hI : mInv Z D h ts m T nd) (ha : mLv m T a) (hb : mLv m T b) :
    ∃ r, CM d 23 [.ref 0, .int (nI a), .int (nI b)] h (some (.int r)) h ∧ ((∃ v, v ≤ 2 ∧ r = nI v ∧ ∀ n, beT D (n + 1) (ts a) (ts b) = v) ∨ (r = -1 ∧ (beA D ts a b ∨ beB D h ts m T a b ∨ beC D ts a b))) := by
  have hI0 := hI
  obtain ⟨⟨hTab, hT1, -, -⟩, ⟨-, hdec⟩, hdw, hwfn, hwfz, h10⟩ := hI
  obtain ⟨t0, t1, t2, t3, t4, t5, hrow, hinj⟩ := id hTab
  have hal := mLv_lt t2 t4 ha
  have hbl := mLv_lt t2 t4 hb
  obtain ⟨fa1, fa2, fa3, fa4⟩ := mRow_fo hTab ha
  obtain ⟨fb1, fb2, fb3, fb4⟩ := mRow_fo hTab hb
  suffices hss : ∃ r h', CM d 23 [.ref 0, .int (nI a), .int (nI b)] h r h' ∧ (h' = h ∧ ((∃ v, v ≤ 2 ∧ r = some (.int (nI v)) ∧ ∀ n, beT D (n + 1) (ts a) (ts b) = v) ∨ (r = some (.int (-1)) ∧ (beA D ts a b ∨ beB D h ts m T a b ∨ beC D ts a b)))) by
    obtain ⟨r, h', hc, rfl, q⟩ := hss
    rcases q with ⟨v, v1, rfl, v3⟩ | ⟨rfl, v1⟩
    · exact ⟨nI v, hc, Or.inl ⟨v, v1, rfl, v3⟩⟩
    · exact ⟨-1, hc, Or.inr ⟨rfl, v1⟩⟩
  refine iM (by omega) rfl ?_
  have hd1 : 1 ≤ d - 1 := by omega
  have out : ∀ (v : Nat), v ≤ 2 → (∀ n, beT D (n + 1) (ts a) (ts b) = v) → (h = h ∧ ((∃ v', v' ≤ 2 ∧ some (Value.int (nI v)) = some (Value.int (nI v')) ∧ ∀ n, beT D (n + 1) (ts a) (ts b) = v') ∨ (some (Value.int (nI v)) = some (Value.int (-1)) ∧ (beA D ts a b ∨ beB D h ts m T a b ∨ beC D ts a b)))) := fun v h1 h2 => ⟨rfl, Or.inl ⟨v, h1, rfl, h2⟩⟩
  have deep : (beA D ts a b ∨ beB D h ts m T a b ∨ beC D ts a b) → (h = h ∧ ((∃ v', v' ≤ 2 ∧ some (Value.int (-1)) = some (Value.int (nI v')) ∧ ∀ n, beT D (n + 1) (ts a) (ts b) = v') ∨ (some (Value.int (-1)) = some (Value.int (-1)) ∧ (beA D ts a b ∨ beB D h ts m T a b ∨ beC D ts a b)))) := fun q => ⟨rfl, Or.inr ⟨rfl, q⟩⟩
  refine sM_23_0 ⟨fun cab => ?_, fun cab => ?_⟩
  · have hne : a ≠ b := fun q => cab (by rw [q])
    have htn : ts a ≠ ts b := fun q => hne (hinj a b ha hb q)
    have pa := cM_isPlain hd1 hTab ha
    have pb := cM_isPlain hd1 hTab hb
    have e9 : nI a = 9 ↔ a = 9 := by rw [show (9 : Int32) = nI 9 from rfl]; exact neN (by omega) (by omega)
    have l8a : (8 : Int32) ≤ nI a ↔ 8 ≤ a := by rw [show (8 : Int32) = nI 8 from rfl]; exact leN (by omega) (by omega)
    have l8b : (8 : Int32) ≤ nI b ↔ 8 ≤ b := by rw [show (8 : Int32) = nI 8 from rfl]; exact leN (by omega) (by omega)
    have e10 : nI b = 10 ↔ b = 10 := by rw [show (10 : Int32) = nI 10 from rfl]; exact neN (by omega) (by omega)
    have fo8 : ∀ k, k < 10 → foT (tP k) = if k < 8 then 0 else k - 7 := by
      intro k hk
      simp only [tP, foT]
      by_cases h8 : k < 8
      · rw [if_pos h8, if_pos h8]
      · rw [if_neg h8, if_neg h8]
        by_cases h9 : k = 8
        · subst h9; rfl
        · have : k = 9 := by omega
          subst this; rfl
    -- one of them is plain, a is not NULL's
    have zero : (a < 10 ∨ b < 10) → a ≠ 9 → ¬ (a < 8 ∧ b < 8) → ∀ n, beT D (n + 1) (ts a) (ts b) = 0 := by
      intro h1 h2 h3 n
      rw [beT_ne D n htn]
      rcases Nat.lt_or_ge a 10 with z | z
      · have e1 := fa4 z
        have e2 := fo8 a z
        rw [← e1] at e2
        by_cases h8 : a < 8
        · rw [if_pos h8] at e2
          have hb8 : ¬ foT (ts b) = 0 := by
            intro q
            rcases Nat.lt_or_ge b 10 with y | y
            · rw [fb4 y, fo8 b y] at q
              split at q <;> omega
            · have := fb3.mpr (by omega); omega
          rw [if_neg (fun q => hb8 q.2), if_pos (Or.inl (by omega))]
        · rw [if_neg h8] at e2
          rw [if_neg (fun q => by omega), if_pos (Or.inl (by omega))]
      · have hb10 : b < 10 := by omega
        have := fb3.mp hb10
        have hna : ¬ foT (ts a) ≤ 2 := fun q => by have := fa3.mpr q; omega
        rw [if_neg (fun q => by omega), if_pos (Or.inr this)]
    have wide : a < 8 → b < 8 → ∀ n, beT D (n + 1) (ts a) (ts b) = if naT a b = true then 1 else 0 := by
      intro h1 h2 n
      rw [beT_ne D n htn, fa4 (by omega), fb4 (by omega), if_pos]
      · rfl
      · rw [fo8 a (by omega), fo8 b (by omega), if_pos h1, if_pos h2]; exact ⟨rfl, rfl⟩
    have null : a = 9 → ∀ n, beT D (n + 1) (ts a) (ts b) = if b < 10 then 0 else 1 := by
      intro h1 n
      have e1 : foT (ts a) = 2 := by rw [fa4 (by omega), h1]; rfl
      rw [beT_ne D n htn, if_neg (fun q => by omega)]
      by_cases hb10 : b < 10
      · rw [if_pos (Or.inr (fb3.mp hb10)), if_pos hb10]
      · rw [if_neg, if_pos e1, if_neg hb10]
        rintro (q | q)
        · omega
        · exact hb10 (fb3.mpr q)
    have plainroad : (a < 10 ∨ b < 10) → ((¬ nI a = 9 → ((8 : Int32) ≤ nI a → (h = h ∧ ((∃ v', v' ≤ 2 ∧ some (Value.int 0) = some (Value.int (nI v')) ∧ ∀ n, beT D (n + 1) (ts a) (ts b) = v') ∨ (some (Value.int 0) = some (Value.int (-1)) ∧ (beA D ts a b ∨ beB D h ts m T a b ∨ beC D ts a b))))) ∧ (¬ (8 : Int32) ≤ nI a → ((8 : Int32) ≤ nI b → (h = h ∧ ((∃ v', v' ≤ 2 ∧ some (Value.int 0) = some (Value.int (nI v')) ∧ ∀ n, beT D (n + 1) (ts a) (ts b) = v') ∨ (some (Value.int 0) = some (Value.int (-1)) ∧ (beA D ts a b ∨ beB D h ts m T a b ∨ beC D ts a b))))) ∧ (¬ (8 : Int32) ≤ nI b → ∃ (r2 : Int32) (h2 : ai_H), CM (d - 1) 22 [.int (nI a), .int (nI b)] h (some (.int r2)) h2 ∧ ((r2 = 0 → (h2 = h ∧ ((∃ v', v' ≤ 2 ∧ some (Value.int 0) = some (Value.int (nI v')) ∧ ∀ n, beT D (n + 1) (ts a) (ts b) = v') ∨ (some (Value.int 0) = some (Value.int (-1)) ∧ (beA D ts a b ∨ beB D h ts m T a b ∨ beC D ts a b))))) ∧ (¬ r2 = 0 → (h2 = h ∧ ((∃ v', v' ≤ 2 ∧ some (Value.int 1) = some (Value.int (nI v')) ∧ ∀ n, beT D (n + 1) (ts a) (ts b) = v') ∨ (some (Value.int 1) = some (Value.int (-1)) ∧ (beA D ts a b ∨ beB D h ts m T a b ∨ beC D ts a b))))))))) ∧ (nI a = 9 → ∃ (r3 : Int32) (h3 : ai_H), CM (d - 1) 21 [.ref 0, .int (nI b)] h (some (.int r3)) h3 ∧ ((r3 = 0 → (h3 = h ∧ ((∃ v', v' ≤ 2 ∧ some (Value.int 1) = some (Value.int (nI v')) ∧ ∀ n, beT D (n + 1) (ts a) (ts b) = v') ∨ (some (Value.int 1) = some (Value.int (-1)) ∧ (beA D ts a b ∨ beB D h ts m T a b ∨ beC D ts a b))))) ∧ (¬ r3 = 0 → (h3 = h ∧ ((∃ v', v' ≤ 2 ∧ some (Value.int 0) = some (Value.int (nI v')) ∧ ∀ n, beT D (n + 1) (ts a) (ts b) = v') ∨ (some (Value.int 0) = some (Value.int (-1)) ∧ (beA D ts a b ∨ beB D h ts m T a b ∨ beC D ts a b)))))))) := by
      intro hp
      refine ⟨fun c9 => ⟨fun c8 => ?_, fun c8 => ⟨fun c8b => ?_, fun c8b => ⟨_, h, cM_isWider hd1 h (by rw [l8a] at c8; omega) (by rw [l8b] at c8b; omega) hne, fun cw => ?_, fun cw => ?_⟩⟩⟩, fun c9 => ⟨_, h, pb, fun cp => ?_, fun cp => ?_⟩⟩
      · rw [l8a] at c8
        exact out 0 (by omega) (zero hp (fun q => c9 (e9.mpr q)) (by omega))
      · rw [l8b] at c8b
        exact out 0 (by omega) (zero hp (fun q => c9 (e9.mpr q)) (by omega))
      · have hw := wide (by rw [l8a] at c8; omega) (by rw [l8b] at c8b; omega)
        refine out 0 (by omega) (fun n => ?_)
        rw [hw n, if_neg]
        intro q
        rw [if_pos q] at cw
        exact absurd cw (by decide)
      · have hw := wide (by rw [l8a] at c8; omega) (by rw [l8b] at c8b; omega)
        refine out 1 (by omega) (fun n => ?_)
        rw [hw n, if_pos]
        cases hz : naT a b with
        | true => rfl
        | false => rw [hz] at cw; exact absurd rfl cw
      · have h9 := null (e9.mp c9)
        refine out 1 (by omega) (fun n => ?_)
        rw [h9 n, if_neg]
        intro q
        rw [if_pos q] at cp
        exact absurd cp (by decide)
      · have h9 := null (e9.mp c9)
        refine out 0 (by omega) (fun n => ?_)
        rw [h9 n, if_pos]
        rcases Nat.lt_or_ge b 10 with z | z
        · exact z
        · rw [if_neg (by omega)] at cp; exact absurd rfl cp
    refine ⟨_, h, pa, fun cpa => ?_, fun cpa => ⟨_, h, pb, fun cpb => ?_, fun cpb => ?_⟩⟩
    · have hpa : a < 10 := by
        rcases Nat.lt_or_ge a 10 with z | z
        · exact z
        · rw [if_neg (by omega)] at cpa; exact absurd rfl cpa
      exact plainroad (Or.inl hpa)
    · have hna : ¬ a < 10 := fun q => by rw [if_pos q] at cpa; exact absurd cpa (by decide)
      have hnb : ¬ b < 10 := fun q => by rw [if_pos q] at cpb; exact absurd cpb (by decide)
      have fa : 3 ≤ foT (ts a) := by
        rcases Nat.lt_or_ge (foT (ts a)) 3 with z | z
        · exact absurd (fa3.mpr (by omega)) hna
        · exact z
      have fb : 3 ≤ foT (ts b) := by
        rcases Nat.lt_or_ge (foT (ts b)) 3 with z | z
        · exact absurd (fb3.mpr (by omega)) hnb
        · exact z
      have bob : ts b = obT ↔ b = 10 := ⟨fun q => hinj b 10 hb (Or.inl (by omega)) (by rw [q, h10]), fun q => by rw [q, h10]⟩
      have base : b ≠ 10 → ∀ n, beT D (n + 1) (ts a) (ts b) = beM D (beT D n) (ts a) (ts b) := by
        intro hb10 n
        rw [beT_ne D n htn, if_neg (fun q => by omega), if_neg (fun q => by omega), if_neg (by omega), if_neg (fun q => hb10 (bob.mp q))]
      refine ⟨fun c10 => ?_, fun c10 => ?_⟩
      · rw [e10] at c10
        have base := base c10
        refine ⟨inN hal (by decide), ?_⟩
        rw [clp (by omega), clp (by omega), fa1, fb1]
        rcases (hrow a ha).1 with ⟨w1, -⟩ | ⟨w0, e, p, w1, w2, w3, w4, w5, w6⟩ | ⟨w0, xe, w1, w2, w3, w4, w5⟩ | ⟨w0, d2, n2, g2, o2, w1, w2, w3, w4, w5, w6, w7, w8, w9⟩
        · omega
        · have hf : foT (ts a) = 3 := by rw [w1]; rfl
          have hp := (hdec e w5).2.2.2.2 p w6
          obtain ⟨b1, -⟩ := hp
          have hbl3 := ((hdw.2.2.2.1 e w5).2.2.2.2 p).1
          rw [hf, w3, w4, mul3, clp (by omega), b1]
          refine ⟨fun c => absurd rfl c, fun _ => ⟨inN (by omega) (by decide), fun c => ?_, fun c => ?_⟩⟩
          · rw [show (0 : Int32) = nI 0 from rfl, leN (by omega) (by omega)] at c
            have hnil : dsB D e p = [] := List.length_eq_zero_iff.mp (by omega)
            have hz : ∀ n, beT D (n + 1) (ts a) (ts b) = 0 := by
              intro n
              rw [base n, w1]
              simp only [beM, tV, hnil]
              rfl
            refine ⟨_, h, cM_isObject hd1 h (nI b), fun _ => out 0 (by omega) hz, fun c2 => ?_⟩
            exfalso
            rw [if_neg (fun q => c10 (e10.mp q))] at c2
            exact c2 rfl
          · rw [show (0 : Int32) = nI 0 from rfl, leN (by omega) (by omega)] at c
            refine deep (Or.inl ⟨e, p, w1, fun q => by rw [q] at c; simp at c, fun n => ?_⟩)
            rw [base n, w1]
            rfl
        · have hf : foT (ts a) = 4 := by rw [w1]; rfl
          have hxl := mLv_lt t2 t4 w5
          have px := cM_isPlain hd1 hTab w5
          rw [hf, w3]
          refine ⟨fun _ => ⟨fun c => absurd rfl c, fun _ => ⟨inN hbl (by decide), fun c4 => ?_, fun c4 => ?_⟩⟩, fun c => absurd c (by decide)⟩
          · have hfb : foT (ts b) = 4 := by
              rw [show (4 : Int32) = nI 4 from rfl, neN (by omega) (by omega)] at c4; exact c4
            rcases (hrow b hb).1 with ⟨v1, -⟩ | ⟨v0, e, p, v1, -⟩ | ⟨v0, ye, v1, v2, v3, v4, v5⟩ | ⟨v0, d2, n2, g2, o2, v1, -⟩
            · omega
            · rw [v1] at hfb; simp [tV, foT] at hfb
            · have hyl := mLv_lt t2 t4 v5
              have py := cM_isPlain hd1 hTab v5
              have hxy : xe ≠ ye := fun q => htn (by rw [w1, v1, q])
              obtain ⟨-, -, fx3, -⟩ := mRow_fo hTab w5
              obtain ⟨-, -, fy3, -⟩ := mRow_fo hTab v5
              have bb : ∀ n, beT D (n + 1) (ts a) (ts b) = if foT (ts xe) ≤ 2 ∨ foT (ts ye) ≤ 2 then 0 else beT D n (ts xe) (ts ye) := by
                intro n
                rw [base n, w1, v1]
                rfl
              refine ⟨_, h, px, fun cx => ⟨fun _ => ?_, fun cz => ?_⟩, fun cx => ⟨_, h, (by rw [v3]; exact py), fun cy => ?_, fun cy => ⟨fun _ => ?_, fun cz => ?_⟩⟩⟩
              · have hx10 : xe < 10 := by
                  rcases Nat.lt_or_ge xe 10 with z | z
                  · exact z
                  · rw [if_neg (by omega)] at cx; exact absurd rfl cx
                exact out 0 (by omega) (fun n => by rw [bb n, if_pos (Or.inl (fx3.mp hx10))])
              · rw [w3, v3, neN (by omega) (by omega)] at cz
                exact absurd cz hxy
              · have hx10 : ¬ xe < 10 := fun q => by rw [if_pos q] at cx; exact absurd cx (by decide)
                have hy10 : ¬ ye < 10 := fun q => by rw [if_pos q] at cy; exact absurd cy (by decide)
                refine deep (Or.inr (Or.inl ⟨xe, ye, w1, v1, w3, w5, v3, v5, w2, fun n => ?_⟩))
                rw [bb n, if_neg]
                rintro (q | q)
                · exact hx10 (fx3.mpr q)
                · exact hy10 (fy3.mpr q)
              · have hy10 : ye < 10 := by
                  rcases Nat.lt_or_ge ye 10 with z | z
                  · exact z
                  · rw [if_neg (by omega)] at cy; exact absurd rfl cy
                exact out 0 (by omega) (fun n => by rw [bb n, if_pos (Or.inr (fy3.mp hy10))])
              · rw [w3, v3, neN (by omega) (by omega)] at cz
                exact absurd cz hxy
            · rw [v1] at hfb; simp [tC, foT] at hfb
          · have hfb : ¬ foT (ts b) = 4 := fun q => c4 (by rw [q]; rfl)
            refine out 0 (by omega) (fun n => ?_)
            rw [base n, w1]
            rcases (hrow b hb).1 with ⟨v1, -⟩ | ⟨v0, e, p, v1, -⟩ | ⟨v0, ye, v1, v2, v3, v4, v5⟩ | ⟨v0, d2, n2, g2, o2, v1, -⟩
            · omega
            · rw [v1]; rfl
            · rw [v1] at hfb; simp [tA, foT] at hfb
            · rw [v1]; rfl
        · have hf : foT (ts a) = 5 := by rw [w1]; rfl
          rw [hf]
          refine ⟨fun _ => ⟨fun _ => ⟨inN hbl (by decide), fun c5 => ?_, fun c5 => ?_⟩, fun c => absurd c (by decide)⟩, fun c => absurd c (by decide)⟩
          · have hfb : foT (ts b) = 5 := by
              rw [show (5 : Int32) = nI 5 from rfl, neN (by omega) (by omega)] at c5; exact c5
            refine deep (Or.inr (Or.inr ⟨hf, hfb, fun n => ?_⟩))
            rcases (hrow b hb).1 with ⟨v1, -⟩ | ⟨v0, e, p, v1, -⟩ | ⟨v0, ye, v1, -⟩ | ⟨v0, d3, n3, g3, o3, v1, -⟩
            · omega
            · rw [v1] at hfb; simp [tV, foT] at hfb
            · rw [v1] at hfb; simp [tA, foT] at hfb
            · rw [base n, v1, w1]
              rfl
          · have hfb : ¬ foT (ts b) = 5 := fun q => c5 (by rw [q]; rfl)
            refine out 0 (by omega) (fun n => ?_)
            rw [base n, w1]
            rcases (hrow b hb).1 with ⟨v1, -⟩ | ⟨v0, e, p, v1, -⟩ | ⟨v0, ye, v1, v2, v3, v4, v5⟩ | ⟨v0, d2, n2, g2, o2, v1, -⟩
            · omega
            · rw [v1]; rfl
            · rw [v1]; rfl
            · rw [v1] at hfb; simp [tC, foT] at hfb
      · rw [e10] at c10
        refine out 1 (by omega) (fun n => ?_)
        rw [beT_ne D n htn, if_neg (fun q => by omega), if_neg (fun q => by omega), if_neg (by omega), if_pos (bob.mpr c10)]
    · have hpb : b < 10 := by
        rcases Nat.lt_or_ge b 10 with z | z
        · exact z
        · rw [if_neg (by omega)] at cpb; exact absurd rfl cpb
      exact plainroad (Or.inr hpb)
  · have hab : a = b := by rw [neN (by omega) (by omega)] at cab; exact cab
    exact out 1 (by omega) (fun n => by rw [hab]; exact beT_eq D n _)
