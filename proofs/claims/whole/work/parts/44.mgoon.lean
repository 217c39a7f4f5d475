def askH (h : ai_H) (k : Nat) (x a b : Int32) : ai_H := ai_up (ai_up (ai_up h 28 k x) 26 (k + 1) a) 27 (k + 1) b
theorem cM_ask {d : Nat} (hd : 1 ≤ d) (h : ai_H) {k : Nat} (hk : k < 8) (a b : Int32) : CM d 27 [.ref 0, .int (nI k), .int a, .int b] h none (askH h k (h 28 k + 1) a b) := by
  refine iMe hd rfl (sM_27_0 ?_)
  rw [nI_1, clp (by omega), clp (by omega)]
  exact ⟨inN (by omega) (by decide), inN (by omega) (by decide), rfl, rfl⟩
def kSk (x y : Ty) : Prop := ∀ be, inT be x y = 1
def kSt (x y : Ty) : Prop := ∀ be, inT be x y = 0
def kAs (x y A B : Ty) : Prop := ∀ be, inT be x y = be A B
/-- goOn of a VARIABLE -/
theorem cM_goOnV {d : Nat} (hd : 2 ≤ d) {Z : List Ty} {D : DS} {h : ai_H} {ts : Nat → Ty} {m T nd k a e p i : Nat} {xb : Int32} {x2 : Int32} (hI : mInv Z D h ts m T nd) (hk : k < 8) (ha : mLv m T a) (hat : ts a = tV e p) (h26 : h 26 k = nI a) (h27 : h 27 k = xb) (h28 : h 28 k = nI i) (hi : i ≤ (dsB D e p).length) (hx : x2 ≤ 0) :
    (i = (dsB D e p).length ∧ CM d 26 [.ref 0, .int (nI k), .int x2] h (some (.int 0)) h) ∨ (∃ B r, (dsB D e p)[i]? = some B ∧ r < m ∧ ts r = B ∧ CM d 26 [.ref 0, .int (nI k), .int x2] h (some (.int (-1))) (askH h k (nI (i + 1)) (nI r) xb)) := by
  obtain ⟨⟨hTab, hT1, -, -⟩, ⟨-, hdec⟩, hdw, hwfn, hwfz, h10⟩ := hI
  obtain ⟨t0, t1, t2, t3, t4, t5, hrow, hinj⟩ := id hTab
  have hal := mLv_lt t2 t4 ha
  rcases (hrow a ha).1 with ⟨w1, w2, w3⟩ | ⟨w0, d2, p2, w1, w2, w3, w4, w5, w6⟩ | ⟨w0, e2, w1, -⟩ | ⟨w0, d2, n2, g2, o2, w1, -⟩
  · rw [hat] at w2; simp [tV, tP] at w2
  · rw [hat, tV_inj] at w1
    obtain ⟨rfl, rfl⟩ := w1
    obtain ⟨b1, b2⟩ := (hdec e w5).2.2.2.2 p w6
    have hbl3 := ((hdw.2.2.2.1 e w5).2.2.2.2 p).1
    rcases Nat.lt_or_ge i (dsB D e p).length with hin | hin
    · right
      obtain ⟨r, r1, r2, r3⟩ := b2 i _ (List.getElem?_eq_getElem hin)
      refine ⟨_, r, List.getElem?_eq_getElem hin, r1, r3, ?_⟩
      have ca := cM_ask (d := d - 1) (by omega) h hk (nI r) xb
      rw [h28, nI_1] at ca
      refine iMe (by omega) rfl (sM_26_0 ?_)
      rw [clp (by omega), h26, clp (by omega), w2, w3, w4, mul3, h28, mul3, clp (by omega), clp (by omega), b1, r2, h27]
      exact ⟨inN (by omega) (by decide), inN hal (by decide), fun c => absurd rfl c, fun _ => ⟨fun _ => ⟨inN (by omega) (by decide), fun _ => ⟨inN (by omega) (by decide), _, ca, rfl, rfl⟩, fun c => by rw [neN (by omega) (by omega)] at c; omega⟩, fun c => absurd hx c⟩⟩
    · left
      have hie : i = (dsB D e p).length := by omega
      refine ⟨hie, iMe (by omega) rfl (sM_26_0 ?_)⟩
      rw [clp (by omega), h26, clp (by omega), w2, w3, w4, mul3, h28, clp (by omega), b1]
      exact ⟨inN (by omega) (by decide), inN hal (by decide), fun c => absurd rfl c, fun _ => ⟨fun _ => ⟨inN (by omega) (by decide), fun c => absurd (by rw [hie]) c, fun _ => ⟨rfl, rfl⟩⟩, fun c => absurd hx c⟩⟩
  · rw [hat] at w1; simp [tV, tA] at w1
  · rw [hat] at w1; simp [tV, tC] at w1
theorem cM_goOnV2 {d : Nat} (hd : 2 ≤ d) {h : ai_H} {ts : Nat → Ty} {m T nd k a e p : Nat} {x2 : Int32} (hT : mTab h ts m T nd) (hk : k < 8) (ha : mLv m T a) (hat : ts a = tV e p) (h26 : h 26 k = nI a) (hx : ¬ x2 ≤ 0) : CM d 26 [.ref 0, .int (nI k), .int x2] h (some (.int x2)) h := by
  have hal := mLv_lt hT.2.2.1 hT.2.2.2.2.1 ha
  obtain ⟨f1, -⟩ := mRow_fo hT ha
  have hf : foT (ts a) = 3 := by rw [hat]; rfl
  rw [hf] at f1
  refine iMe (by omega) rfl (sM_26_0 ?_)
  rw [clp (by omega), h26, clp (by omega), f1]
  exact ⟨inN (by omega) (by decide), inN hal (by decide), fun c => absurd rfl c, fun _ => ⟨fun c => absurd c hx, fun _ => ⟨rfl, rfl⟩⟩⟩
/-- goOn of an ARRAY -/
theorem cM_goOnA {d : Nat} (hd : 2 ≤ d) {h : ai_H} {ts : Nat → Ty} {m T nd k a b : Nat} {i : Nat} {xa xb : Int32} (hT : mTab h ts m T nd) (hk : k < 8) (ha : mLv m T a) (hb : mLv m T b) (h1 : h 1 a = 4) (h26 : h 26 k = nI a) (h27 : h 27 k = nI b) (h28 : h 28 k = nI i) (h4a : h 4 a = xa) (h4b : h 4 b = xb) : CM d 26 [.ref 0, .int (nI k), .int (-1)] h (some (.int (-1))) (askH h k (nI (i + 1)) xa xb) := by
  have hal := mLv_lt hT.2.2.1 hT.2.2.2.2.1 ha
  have hbl := mLv_lt hT.2.2.1 hT.2.2.2.2.1 hb
  have ca := cM_ask (d := d - 1) (by omega) h hk xa xb
  rw [h28, nI_1] at ca
  refine iMe (by omega) rfl (sM_26_0 ?_)
  rw [clp (by omega), h26, h27, clp (by omega), clp (by omega), h1, h4a, h4b]
  exact ⟨inN (by omega) (by decide), inN hal (by decide), fun _ => ⟨fun c => absurd rfl c, fun _ => ⟨fun _ => ⟨inN hbl (by decide), _, ca, rfl, rfl⟩, fun c => absurd rfl c⟩⟩, fun c => absurd c (by decide)⟩
theorem cM_goOnA2 {d : Nat} (hd : 2 ≤ d) {h : ai_H} {ts : Nat → Ty} {m T nd k a : Nat} {x2 : Int32} (hT : mTab h ts m T nd) (hk : k < 8) (ha : mLv m T a) (h1 : h 1 a = 4) (h26 : h 26 k = nI a) (hx : ¬ x2 = -1) : CM d 26 [.ref 0, .int (nI k), .int x2] h (some (.int x2)) h := by
  have hal := mLv_lt hT.2.2.1 hT.2.2.2.2.1 ha
  refine iMe (by omega) rfl (sM_26_0 ?_)
  rw [clp (by omega), h26, clp (by omega), h1]
  exact ⟨inN (by omega) (by decide), inN hal (by decide), fun _ => ⟨fun c => absurd rfl c, fun _ => ⟨fun c => absurd c hx, fun _ => ⟨rfl, rfl⟩⟩⟩, fun c => absurd c (by decide)⟩
set_option maxHeartbeats 1000000 in
/-- goOn of a CLASS TYPE: the ARGUMENTS from i on -/
theorem cM_goOnC_l {d : Nat} (hd : 2 ≤ d) {h0 : ai_H} {ts : Nat → Ty} {m T nd k s b n : Nat} {gs gb : Nat → Ty} {xw x1 x2 : Int32} {Q : Option Value → ai_H → Prop} (hT : mTab h0 ts m T nd) (hk : k < 8) (hs : mLv m T s) (hb : mLv m T b) (hn : n ≤ 3) (h6 : h0 6 b = nI n) (hgs : ∀ i, i < n → mAg h0 ts m T s (3 * s + i) (gs i)) (hgb : ∀ i, i < n → mAg h0 ts m T b (3 * b + i) (gb i)) (h29 : h0 29 k = xw) :
    ∀ (f i : Nat) (o5 o6 : Option Value) (h : ai_H), n - i ≤ f → i ≤ n → (∀ c j, ¬ (c = 28 ∧ j = k) → h c j = h0 c j) → h 28 k = nI i →
      ((∀ l, i ≤ l → l < n → kSk (gs l) (gb l)) → ∀ h', (∀ c j, ¬ (c = 28 ∧ j = k) → h' c j = h0 c j) → Q (some (.int xw)) h') →
      (∀ j, i ≤ j → j < n → (∀ l, i ≤ l → l < j → kSk (gs l) (gb l)) → kSt (gs j) (gb j) → ∀ h', (∀ c j, ¬ (c = 28 ∧ j = k) → h' c j = h0 c j) → Q (some (.int 0)) h') →
      (∀ j A B, i ≤ j → j < n → (∀ l, i ≤ l → l < j → kSk (gs l) (gb l)) → mLv m T A → mLv m T B → kAs (gs j) (gb j) (ts A) (ts B) → ((∃ w, gs j = tG w (ts A)) ∧ (∃ w, gb j = tG w (ts B)) ∨ (∃ w, gb j = tG w (ts A)) ∧ (∃ w, gs j = tG w (ts B))) → ∀ h', (∀ c j, ¬ (c = 28 ∧ j = k) → h' c j = h0 c j) → Q (some (.int (-1))) (askH h' k (nI (j + 1)) (nI A) (nI B))) →
      RM (d - 1) 26 Q 155 [some (.ref 0), some (.int (nI k)), some (.int x2), some (.int (nI s)), some (.int (nI b)), o5, o6] [] h := by
  obtain ⟨t0, t1, t2, t3, t4, t5, hrow, hinj⟩ := id hT
  have hsl := mLv_lt t2 t4 hs
  have hbl := mLv_lt t2 t4 hb
  intro f
  induction f with
  | zero =>
    intro i o5 o6 h a1 a2 a3 a4 q1 q2 q3
    have hi : i = n := by omega
    refine sM_26_155 ⟨inN (by omega) (by decide), inN hbl (by decide), fun _ => ?_, fun c => absurd ?_ c⟩
    · rw [clp (by omega), a3 29 k (by omega), h29]
      exact q1 (fun l z1 z2 => by omega) h a3
    · rw [clp (by omega), clp (by omega), a3 6 b (by omega), h6, a4, hi]; exact Int32.le_refl _
  | succ f ih =>
    intro i o5 o6 h a1 a2 a3 a4 q1 q2 q3
    rcases Nat.lt_or_ge i n with hin | hin
    · have e8s : h 8 (3 * s + i) = h0 8 (3 * s + i) := a3 8 _ (by omega)
      have e9s : h 9 (3 * s + i) = h0 9 (3 * s + i) := a3 9 _ (by omega)
      have e8b : h 8 (3 * b + i) = h0 8 (3 * b + i) := a3 8 _ (by omega)
      have e9b : h 9 (3 * b + i) = h0 9 (3 * b + i) := a3 9 _ (by omega)
      refine sM_26_155 ?_
      rw [clp (by omega), clp (by omega), a4, mul3, mul3, clp (by omega), clp (by omega), e8s, e9s, e8b, e9b, a3 6 b (by omega), h6, leN (by omega) (by omega), nI_1]
      refine ⟨inN (by omega) (by decide), inN hbl (by decide), fun c => by omega, fun _ => ⟨inN (by omega) (by decide), ?_⟩⟩
      have vx : vp_in (nI (3 * s + i)) 18768 := inN (by omega) (by decide)
      have upst : ∀ c j, ¬ (c = 28 ∧ j = k) → ai_up h 28 k (nI (i + 1)) c j = h0 c j := fun c j hcj => by rw [up_e, if_neg hcj, a3 c j hcj]
      have skip : kSk (gs i) (gb i) → ∀ o5 o6, RM (d - 1) 26 Q 155 [some (.ref 0), some (.int (nI k)), some (.int x2), some (.int (nI s)), some (.int (nI b)), o5, o6] [] (ai_up h 28 k (nI (i + 1))) := by
        intro hsk o5 o6
        have ext : ∀ j, (∀ l, i + 1 ≤ l → l < j → kSk (gs l) (gb l)) → ∀ l, i ≤ l → l < j → kSk (gs l) (gb l) := fun j hj l z1 z2 => by
          rcases Nat.lt_or_ge i l with y | y
          · exact hj l (by omega) z2
          · have : l = i := by omega
            rw [this]; exact hsk
        exact ih (i + 1) o5 o6 _ (by omega) (by omega) upst (up_s _ _ _ _) (fun z => q1 (ext n z)) (fun j z1 z2 z3 z4 => q2 j (by omega) z2 (ext j z3) z4) (fun j A B z1 z2 z3 z4 z5 z6 z7 => q3 j A B (by omega) z2 (ext j z3) z4 z5 z6 z7)
      have stop : kSt (gs i) (gb i) → Q (some (.int 0)) h := fun hst => q2 i (Nat.le_refl _) hin (fun l z1 z2 => by omega) hst h a3
      have ask : ∀ A B, mLv m T A → mLv m T B → kAs (gs i) (gb i) (ts A) (ts B) → ((∃ w, gs i = tG w (ts A)) ∧ (∃ w, gb i = tG w (ts B)) ∨ (∃ w, gb i = tG w (ts A)) ∧ (∃ w, gs i = tG w (ts B))) → ∃ h1, CM (d - 1) 27 [.ref 0, .int (nI k), .int (nI A), .int (nI B)] h none h1 ∧ Q (some (.int (-1))) h1 := by
        intro A B z1 z2 z3 z4
        have ca := cM_ask (d := d - 1) (by omega) h hk (nI A) (nI B)
        rw [a4, nI_1] at ca
        exact ⟨_, ca, q3 i A B (Nat.le_refl _) hin (fun l y1 y2 => by omega) z1 z2 z3 z4 h a3⟩
      rcases hgb i hin with ⟨u1, u2, u3⟩ | ⟨w, B, u1, u2, u3, u4, u5, u6, u7⟩
      · -- ANY
        rw [u1]
        refine ⟨fun _ => ⟨fun _ => ⟨fun c => absurd c (by decide), fun _ => ⟨fun _ => skip (fun be => by rw [u3]; rfl) _ _, fun c => absurd c (by decide)⟩⟩, fun c => absurd rfl c⟩, fun c => absurd c (by decide)⟩
      · have hBl := mLv_lt t2 t4 u5
        rcases hgs i hin with ⟨v1, v2, v3⟩ | ⟨u, A, v1, v2, v3, v4, v5, v6, v7⟩
        · -- the other one is ANY
          rw [v1, u2]
          rcases (show w = 0 ∨ w = 1 ∨ w = 2 by omega) with rfl | rfl | rfl
          · have hst : kSt (gs i) (gb i) := fun be => by
              rw [v3, u7]
              show (@ite _ (tY = tG 0 (ts B)) (Classical.propDecidable _) 1 0) = 0
              rw [if_neg (by simp [tY, tG])]
            exact ⟨fun c => absurd rfl c, fun _ => ⟨vx, fun _ => stop hst, fun c => absurd c (by decide)⟩⟩
          · have hst : kSt (gs i) (gb i) := fun be => by rw [v3, u7]; rfl
            exact ⟨fun _ => ⟨fun c => absurd c (by decide), fun _ => ⟨vx, fun c => absurd c (by decide), fun _ => ⟨fun c => absurd c (by decide), fun _ => stop hst⟩⟩⟩, fun c => absurd c (by decide)⟩
          · have hst : kSt (gs i) (gb i) := fun be => by rw [v3, u7]; rfl
            exact ⟨fun _ => ⟨fun c => absurd c (by decide), fun _ => ⟨vx, fun c => absurd c (by decide), fun _ => ⟨fun c => absurd c (by decide), fun _ => stop hst⟩⟩⟩, fun c => absurd c (by decide)⟩
        · have hAl := mLv_lt t2 t4 v5
          rw [v2, u2, u3, v3]
          rcases (show w = 0 ∨ w = 1 ∨ w = 2 by omega) with rfl | rfl | rfl
          · -- EXACT
            refine ⟨fun c => absurd rfl c, fun _ => ⟨vx, fun c => stop (fun be => ?_), fun c => ⟨fun c2 => stop (fun be => ?_), fun c2 => ⟨fun c => absurd c (by decide), fun _ => ⟨fun c => absurd c (by decide), fun _ => ⟨fun _ => skip (fun be => ?_) _ _, fun c => absurd c (by decide)⟩⟩⟩⟩⟩⟩
            · have hu : ¬ u = 0 := fun q => c (by rw [q]; rfl)
              rw [v7, u7]
              show (@ite _ (tG u (ts A) = tG 0 (ts B)) (Classical.propDecidable _) 1 0) = 0
              rw [if_neg (fun q => hu (tG_inj.mp q).1)]
            · rw [neN (by omega) (by omega)] at c2
              rw [v7, u7]
              show (@ite _ (tG u (ts A) = tG 0 (ts B)) (Classical.propDecidable _) 1 0) = 0
              rw [if_neg (fun q => c2 (hinj A B v5 u5 (tG_inj.mp q).2))]
            · have hu : u = 0 := by rw [show (0 : Int32) = nI 0 from rfl, neN (by omega) (by omega)] at c; exact c
              rw [neN (by omega) (by omega)] at c2
              rw [v7, u7]
              show (@ite _ (tG u (ts A) = tG 0 (ts B)) (Classical.propDecidable _) 1 0) = 1
              rw [if_pos (by rw [hu, c2])]
          · -- UP TO
            have hk1 : u = 0 ∨ u = 1 → kAs (gs i) (gb i) (ts A) (ts B) := fun hu be => by
              rw [v7, u7]
              show (if u = 0 ∨ u = 1 then (if (1 : Nat) = 1 then be (ts A) (ts B) else be (ts B) (ts A)) else 0) = _
              rw [if_pos hu, if_pos rfl]
            have hst : ¬ (u = 0 ∨ u = 1) → kSt (gs i) (gb i) := fun hu be => by
              rw [v7, u7]
              show (if u = 0 ∨ u = 1 then (if (1 : Nat) = 1 then be (ts A) (ts B) else be (ts B) (ts A)) else 0) = _
              rw [if_neg hu]
            refine ⟨fun _ => ⟨fun c => absurd c (by decide), fun _ => ⟨vx, fun c => ⟨fun _ => ask A B v5 u5 (hk1 (Or.inl ?_)) (Or.inl ⟨⟨_, v7⟩, ⟨_, u7⟩⟩), fun c => absurd rfl c⟩, fun c => ⟨fun c2 => ⟨fun _ => ask A B v5 u5 (hk1 (Or.inr ?_)) (Or.inl ⟨⟨_, v7⟩, ⟨_, u7⟩⟩), fun c => absurd rfl c⟩, fun c2 => stop (hst ?_)⟩⟩⟩, fun c => absurd c (by decide)⟩
            · rw [show (0 : Int32) = nI 0 from rfl, neN (by omega) (by omega)] at c; exact c
            · rw [neN (by omega) (by omega)] at c2; exact c2
            · rintro (q | q)
              · exact c (by rw [q]; rfl)
              · exact c2 (by rw [q])
          · -- FROM
            have hk2 : u = 0 ∨ u = 2 → kAs (gs i) (gb i) (ts B) (ts A) := fun hu be => by
              rw [v7, u7]
              show (if u = 0 ∨ u = 2 then (if (2 : Nat) = 1 then be (ts A) (ts B) else be (ts B) (ts A)) else 0) = _
              rw [if_pos hu, if_neg (by decide)]
            have hst : ¬ (u = 0 ∨ u = 2) → kSt (gs i) (gb i) := fun hu be => by
              rw [v7, u7]
              show (if u = 0 ∨ u = 2 then (if (2 : Nat) = 1 then be (ts A) (ts B) else be (ts B) (ts A)) else 0) = _
              rw [if_neg hu]
            refine ⟨fun _ => ⟨fun c => absurd c (by decide), fun _ => ⟨vx, fun c => ⟨fun c => absurd c (by decide), fun _ => ⟨fun c => absurd rfl c, fun _ => ask B A u5 v5 (hk2 (Or.inl ?_)) (Or.inr ⟨⟨_, u7⟩, ⟨_, v7⟩⟩)⟩⟩, fun c => ⟨fun c2 => ⟨fun c => absurd c (by decide), fun _ => ⟨fun c => absurd rfl c, fun _ => ask B A u5 v5 (hk2 (Or.inr ?_)) (Or.inr ⟨⟨_, u7⟩, ⟨_, v7⟩⟩)⟩⟩, fun c2 => stop (hst ?_)⟩⟩⟩, fun c => absurd c (by decide)⟩
            · rw [show (0 : Int32) = nI 0 from rfl, neN (by omega) (by omega)] at c; exact c
            · rw [neN (by omega) (by omega)] at c2; exact c2
            · rintro (q | q)
              · exact c (by rw [q]; rfl)
              · exact c2 (by rw [q])
    · exact ih i o5 o6 h (by omega) a2 a3 a4 q1 q2 q3
