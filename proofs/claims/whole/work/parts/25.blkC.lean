theorem bC_0_0 {d : Nat} {Q : Option Value → ai_H → Prop} {h : ai_H} (k : Q (some (.int (h 0 11))) h) : RC d 0 Q 0 [some (.ref 0)] [] h := Exists.intro 3 (And.intro rfl (And.intro (Or.inl rfl) k))
theorem bC_1_0 {d : Nat} {Q : Option Value → ai_H → Prop} {h : ai_H} {x1 : Int32} (kt : x1 < 0 → RC d 1 Q 16 [some (.ref 0), some (.int x1)] [] h) (kf : ¬ x1 < 0 → RC d 1 Q 4 [some (.ref 0), some (.int x1)] [] h) : RC d 1 Q 0 [some (.ref 0), some (.int x1)] [] h := by
  by_cases c : x1 < 0
  · obtain ⟨n, e⟩ := kt c
    exact Exists.intro (n + 2) (Or.inl (And.intro c e))
  · obtain ⟨n, e⟩ := kf c
    exact Exists.intro (n + 2) (Or.inr (And.intro c e))
theorem bC_1_4 {d : Nat} {Q : Option Value → ai_H → Prop} {h : ai_H} {x1 : Int32} (kt : (h 0 11) ≤ x1 → RC d 1 Q 16 [some (.ref 0), some (.int x1)] [] h) (kf : ¬ (h 0 11) ≤ x1 → RC d 1 Q 12 [some (.ref 0), some (.int x1)] [] h) : RC d 1 Q 4 [some (.ref 0), some (.int x1)] [] h := by
  by_cases c : (h 0 11) ≤ x1
  · obtain ⟨n, e⟩ := kt c
    exact Exists.intro (n + 4) (And.intro rfl (Or.inl (And.intro c e)))
  · obtain ⟨n, e⟩ := kf c
    exact Exists.intro (n + 4) (And.intro rfl (Or.inr (And.intro c e)))
theorem bC_1_12 {d : Nat} {Q : Option Value → ai_H → Prop} {h : ai_H} {x1 : Int32} (k : RC d 1 Q 17 [some (.ref 0), some (.int x1)] [.int 1] h) : RC d 1 Q 12 [some (.ref 0), some (.int x1)] [] h := by
  obtain ⟨n, e⟩ := k
  exact Exists.intro (n + 2) (e)
theorem bC_1_16 {d : Nat} {Q : Option Value → ai_H → Prop} {h : ai_H} {x1 : Int32} (k : RC d 1 Q 17 [some (.ref 0), some (.int x1)] [.int 0] h) : RC d 1 Q 16 [some (.ref 0), some (.int x1)] [] h := by
  obtain ⟨n, e⟩ := k
  exact Exists.intro (n + 1) (e)
theorem bC_1_17 {d : Nat} {Q : Option Value → ai_H → Prop} {h : ai_H} {x1 y0 : Int32} (hz : y0 = 0 ∨ y0 = 1) (k : Q (some (.int y0)) h) : RC d 1 Q 17 [some (.ref 0), some (.int x1)] [.int y0] h := Exists.intro 1 (And.intro (Or.inr hz) k)
theorem bC_2_0 {d : Nat} {Q : Option Value → ai_H → Prop} {h : ai_H} (kt : 12 ≤ (h 0 11) → RC d 2 Q 13 [some (.ref 0)] [] h) (kf : ¬ 12 ≤ (h 0 11) → RC d 2 Q 9 [some (.ref 0)] [] h) : RC d 2 Q 0 [some (.ref 0)] [] h := by
  by_cases c : 12 ≤ (h 0 11)
  · obtain ⟨n, e⟩ := kt c
    exact Exists.intro (n + 4) (And.intro rfl (Or.inl (And.intro c e)))
  · obtain ⟨n, e⟩ := kf c
    exact Exists.intro (n + 4) (And.intro rfl (Or.inr (And.intro c e)))
theorem bC_2_9 {d : Nat} {Q : Option Value → ai_H → Prop} {h : ai_H} (k : RC d 2 Q 14 [some (.ref 0)] [.int 1] h) : RC d 2 Q 9 [some (.ref 0)] [] h := by
  obtain ⟨n, e⟩ := k
  exact Exists.intro (n + 2) (e)
theorem bC_2_13 {d : Nat} {Q : Option Value → ai_H → Prop} {h : ai_H} (k : RC d 2 Q 14 [some (.ref 0)] [.int 0] h) : RC d 2 Q 13 [some (.ref 0)] [] h := by
  obtain ⟨n, e⟩ := k
  exact Exists.intro (n + 1) (e)
theorem bC_2_14 {d : Nat} {Q : Option Value → ai_H → Prop} {h : ai_H} {y0 : Int32} (hz : y0 = 0 ∨ y0 = 1) (k : Q (some (.int y0)) h) : RC d 2 Q 14 [some (.ref 0)] [.int y0] h := Exists.intro 1 (And.intro (Or.inr hz) k)
theorem bC_3_0 {d : Nat} {Q : Option Value → ai_H → Prop} {h : ai_H} {x1 x2 x3 x4 : Int32} (kt : (h 0 11) < 12 → RC d 3 Q 12 [some (.ref 0), some (.int x1), some (.int x2), some (.int x3), some (.int x4), none] [] h) (kf : ¬ (h 0 11) < 12 → RC d 3 Q 9 [some (.ref 0), some (.int x1), some (.int x2), some (.int x3), some (.int x4), none] [] h) : RC d 3 Q 0 [some (.ref 0), some (.int x1), some (.int x2), some (.int x3), some (.int x4), none] [] h := by
  by_cases c : (h 0 11) < 12
  · obtain ⟨n, e⟩ := kt c
    exact Exists.intro (n + 4) (And.intro rfl (Or.inl (And.intro c e)))
  · obtain ⟨n, e⟩ := kf c
    exact Exists.intro (n + 4) (And.intro rfl (Or.inr (And.intro c e)))
theorem bC_3_9 {d : Nat} {Q : Option Value → ai_H → Prop} {h : ai_H} {x1 x2 x3 x4 : Int32} (k : Q (some (.int (-5))) h) : RC d 3 Q 9 [some (.ref 0), some (.int x1), some (.int x2), some (.int x3), some (.int x4), none] [] h := Exists.intro 2 (And.intro (Or.inl rfl) k)
theorem bC_3_12 {d : Nat} {Q : Option Value → ai_H → Prop} {h h2 : ai_H} {x1 x2 x3 x4 r : Int32} (hi1 : vp_in (h 0 11) 12) (hi2 : vp_in (h 0 11) 12) (hi3 : vp_in (h 0 11) 12) (hc : CC d 1 [.ref 0, .int x3] (ai_up (ai_up (ai_up h 1 (Int32.toNatClampNeg (h 0 11)) x1) 2 (Int32.toNatClampNeg (h 0 11)) x2) 3 (Int32.toNatClampNeg (h 0 11)) x3) (some (.int r)) h2) (k : RC d 3 Q 57 [some (.ref 0), some (.int x1), some (.int x2), some (.int x3), some (.int x4), some (.int (h 0 11))] [.int r, .int (1 <<< ((h 0 11) &&& 31)), .int (h 0 11), .ref 4] h2) : RC d 3 Q 12 [some (.ref 0), some (.int x1), some (.int x2), some (.int x3), some (.int x4), none] [] h := by
  obtain ⟨n, e⟩ := k
  exact Exists.intro (n + 27) (And.intro rfl (Exists.intro _ (And.intro rfl (And.intro rfl (Exists.intro 12 (And.intro rfl (And.intro hi1 (And.intro rfl (Exists.intro 12 (And.intro rfl (And.intro hi2 (And.intro rfl (Exists.intro 12 (And.intro rfl (And.intro hi3 (And.intro rfl (Exists.intro [.int x3] (Exists.intro 0 (Exists.intro [.int (1 <<< ((h 0 11) &&& 31)), .int (h 0 11), .ref 4] (Exists.intro _ (Exists.intro (some (.int r)) (Exists.intro h2 (And.intro rfl (And.intro rfl (And.intro rfl (And.intro (Nat.le_of_ble_eq_true rfl) (And.intro hc e)))))))))))))))))))))))))))
theorem bC_3_57 {d : Nat} {Q : Option Value → ai_H → Prop} {h : ai_H} {x1 x2 x3 x4 x5 y1 y2 y3 : Int32} (kt : y3 = 0 → RC d 3 Q 69 [some (.ref 0), some (.int x1), some (.int x2), some (.int x3), some (.int x4), some (.int x5)] [.int y2, .int y1, .ref 4] h) (kf : ¬ y3 = 0 → RC d 3 Q 60 [some (.ref 0), some (.int x1), some (.int x2), some (.int x3), some (.int x4), some (.int x5)] [.int y2, .int y1, .ref 4] h) : RC d 3 Q 57 [some (.ref 0), some (.int x1), some (.int x2), some (.int x3), some (.int x4), some (.int x5)] [.int y3, .int y2, .int y1, .ref 4] h := by
  by_cases c : y3 = 0
  · obtain ⟨n, e⟩ := kt c
    exact Exists.intro (n + 1) (Or.inl (And.intro c e))
  · obtain ⟨n, e⟩ := kf c
    exact Exists.intro (n + 1) (Or.inr (And.intro c e))
theorem bC_3_60 {d : Nat} {Q : Option Value → ai_H → Prop} {h : ai_H} {x1 x2 x3 x4 x5 y1 y2 : Int32} (hi1 : vp_in x3 12) (k : RC d 3 Q 70 [some (.ref 0), some (.int x1), some (.int x2), some (.int x3), some (.int x4), some (.int x5)] [.int (h 4 (Int32.toNatClampNeg x3)), .int y2, .int y1, .ref 4] h) : RC d 3 Q 60 [some (.ref 0), some (.int x1), some (.int x2), some (.int x3), some (.int x4), some (.int x5)] [.int y2, .int y1, .ref 4] h := by
  obtain ⟨n, e⟩ := k
  exact Exists.intro (n + 5) (And.intro rfl (Exists.intro 12 (And.intro rfl (And.intro hi1 (e)))))
theorem bC_3_69 {d : Nat} {Q : Option Value → ai_H → Prop} {h : ai_H} {x1 x2 x3 x4 x5 y1 y2 : Int32} (k : RC d 3 Q 70 [some (.ref 0), some (.int x1), some (.int x2), some (.int x3), some (.int x4), some (.int x5)] [.int 0, .int y2, .int y1, .ref 4] h) : RC d 3 Q 69 [some (.ref 0), some (.int x1), some (.int x2), some (.int x3), some (.int x4), some (.int x5)] [.int y2, .int y1, .ref 4] h := by
  obtain ⟨n, e⟩ := k
  exact Exists.intro (n + 1) (e)
theorem bC_3_70 {d : Nat} {Q : Option Value → ai_H → Prop} {h : ai_H} {x1 x2 x3 x4 x5 y1 y2 y3 : Int32} (hi1 : vp_in y1 12) (hi2 : vp_in x5 12) (hi3 : vp_in x5 12) (k : Q (some (.int x5)) (ai_up (ai_up (ai_up (ai_up h 4 (Int32.toNatClampNeg y1) (y2 ||| y3)) 5 (Int32.toNatClampNeg x5) x4) 11 (Int32.toNatClampNeg x5) (1 <<< (x5 &&& 31))) 0 11 (((ai_up (ai_up (ai_up h 4 (Int32.toNatClampNeg y1) (y2 ||| y3)) 5 (Int32.toNatClampNeg x5) x4) 11 (Int32.toNatClampNeg x5) (1 <<< (x5 &&& 31))) 0 11) + 1))) : RC d 3 Q 70 [some (.ref 0), some (.int x1), some (.int x2), some (.int x3), some (.int x4), some (.int x5)] [.int y3, .int y2, .int y1, .ref 4] h := Exists.intro 22 (Exists.intro 12 (And.intro rfl (And.intro hi1 (And.intro rfl (Exists.intro 12 (And.intro rfl (And.intro hi2 (And.intro rfl (Exists.intro 12 (And.intro rfl (And.intro hi3 (And.intro rfl (And.intro rfl (And.intro (Exists.intro _ (And.intro rfl rfl)) (And.intro (Or.inl rfl) (And.intro (Or.inl rfl) k))))))))))))))))
theorem bC_4_0 {d : Nat} {Q : Option Value → ai_H → Prop} {h h2 : ai_H} {x1 r : Int32} (hc : CC d 1 [.ref 0, .int x1] h (some (.int r)) h2) (k : RC d 4 Q 5 [some (.ref 0), some (.int x1)] [.int r] h2) : RC d 4 Q 0 [some (.ref 0), some (.int x1)] [] h := by
  obtain ⟨n, e⟩ := k
  exact Exists.intro (n + 3) (Exists.intro [.int x1] (Exists.intro 0 (Exists.intro [] (Exists.intro _ (Exists.intro (some (.int r)) (Exists.intro h2 (And.intro rfl (And.intro rfl (And.intro rfl (And.intro (Nat.le_of_ble_eq_true rfl) (And.intro hc e)))))))))))
theorem bC_4_5 {d : Nat} {Q : Option Value → ai_H → Prop} {h : ai_H} {x1 y0 : Int32} (kt : y0 = 0 → RC d 4 Q 22 [some (.ref 0), some (.int x1)] [] h) (kf : ¬ y0 = 0 → RC d 4 Q 8 [some (.ref 0), some (.int x1)] [] h) : RC d 4 Q 5 [some (.ref 0), some (.int x1)] [.int y0] h := by
  by_cases c : y0 = 0
  · obtain ⟨n, e⟩ := kt c
    exact Exists.intro (n + 1) (Or.inl (And.intro c e))
  · obtain ⟨n, e⟩ := kf c
    exact Exists.intro (n + 1) (Or.inr (And.intro c e))
theorem bC_4_8 {d : Nat} {Q : Option Value → ai_H → Prop} {h : ai_H} {x1 : Int32} (hi1 : vp_in x1 12) (kt : ¬ (h 1 (Int32.toNatClampNeg x1)) = 1 → RC d 4 Q 22 [some (.ref 0), some (.int x1)] [] h) (kf : (h 1 (Int32.toNatClampNeg x1)) = 1 → RC d 4 Q 18 [some (.ref 0), some (.int x1)] [] h) : RC d 4 Q 8 [some (.ref 0), some (.int x1)] [] h := by
  by_cases c : (h 1 (Int32.toNatClampNeg x1)) = 1
  · obtain ⟨n, e⟩ := kf c
    exact Exists.intro (n + 6) (And.intro rfl (Exists.intro 12 (And.intro rfl (And.intro hi1 (Or.inr (And.intro (fun z => z c) e))))))
  · obtain ⟨n, e⟩ := kt c
    exact Exists.intro (n + 6) (And.intro rfl (Exists.intro 12 (And.intro rfl (And.intro hi1 (Or.inl (And.intro c e))))))
theorem bC_4_18 {d : Nat} {Q : Option Value → ai_H → Prop} {h : ai_H} {x1 : Int32} (k : RC d 4 Q 23 [some (.ref 0), some (.int x1)] [.int 1] h) : RC d 4 Q 18 [some (.ref 0), some (.int x1)] [] h := by
  obtain ⟨n, e⟩ := k
  exact Exists.intro (n + 2) (e)
theorem bC_4_22 {d : Nat} {Q : Option Value → ai_H → Prop} {h : ai_H} {x1 : Int32} (k : RC d 4 Q 23 [some (.ref 0), some (.int x1)] [.int 0] h) : RC d 4 Q 22 [some (.ref 0), some (.int x1)] [] h := by
  obtain ⟨n, e⟩ := k
  exact Exists.intro (n + 1) (e)
theorem bC_4_23 {d : Nat} {Q : Option Value → ai_H → Prop} {h : ai_H} {x1 y0 : Int32} (hz : y0 = 0 ∨ y0 = 1) (k : Q (some (.int y0)) h) : RC d 4 Q 23 [some (.ref 0), some (.int x1)] [.int y0] h := Exists.intro 1 (And.intro (Or.inr hz) k)
theorem bC_5_0 {d : Nat} {Q : Option Value → ai_H → Prop} {h h2 : ai_H} {x1 r : Int32} (hc : CC d 1 [.ref 0, .int x1] h (some (.int r)) h2) (k : RC d 5 Q 5 [some (.ref 0), some (.int x1)] [.int r] h2) : RC d 5 Q 0 [some (.ref 0), some (.int x1)] [] h := by
  obtain ⟨n, e⟩ := k
  exact Exists.intro (n + 3) (Exists.intro [.int x1] (Exists.intro 0 (Exists.intro [] (Exists.intro _ (Exists.intro (some (.int r)) (Exists.intro h2 (And.intro rfl (And.intro rfl (And.intro rfl (And.intro (Nat.le_of_ble_eq_true rfl) (And.intro hc e)))))))))))
theorem bC_5_5 {d : Nat} {Q : Option Value → ai_H → Prop} {h : ai_H} {x1 y0 : Int32} (kt : y0 = 0 → RC d 5 Q 17 [some (.ref 0), some (.int x1)] [] h) (kf : ¬ y0 = 0 → RC d 5 Q 8 [some (.ref 0), some (.int x1)] [] h) : RC d 5 Q 5 [some (.ref 0), some (.int x1)] [.int y0] h := by
  by_cases c : y0 = 0
  · obtain ⟨n, e⟩ := kt c
    exact Exists.intro (n + 1) (Or.inl (And.intro c e))
  · obtain ⟨n, e⟩ := kf c
    exact Exists.intro (n + 1) (Or.inr (And.intro c e))
theorem bC_5_8 {d : Nat} {Q : Option Value → ai_H → Prop} {h : ai_H} {x1 : Int32} (hi1 : vp_in x1 12) (k : RC d 5 Q 18 [some (.ref 0), some (.int x1)] [.int (h 2 (Int32.toNatClampNeg x1))] h) : RC d 5 Q 8 [some (.ref 0), some (.int x1)] [] h := by
  obtain ⟨n, e⟩ := k
  exact Exists.intro (n + 5) (And.intro rfl (Exists.intro 12 (And.intro rfl (And.intro hi1 (e)))))
theorem bC_5_17 {d : Nat} {Q : Option Value → ai_H → Prop} {h : ai_H} {x1 : Int32} (k : RC d 5 Q 18 [some (.ref 0), some (.int x1)] [.int 0] h) : RC d 5 Q 17 [some (.ref 0), some (.int x1)] [] h := by
  obtain ⟨n, e⟩ := k
  exact Exists.intro (n + 1) (e)
theorem bC_5_18 {d : Nat} {Q : Option Value → ai_H → Prop} {h : ai_H} {x1 y0 : Int32} (k : Q (some (.int y0)) h) : RC d 5 Q 18 [some (.ref 0), some (.int x1)] [.int y0] h := Exists.intro 1 (And.intro (Or.inl rfl) k)
theorem bC_6_0 {d : Nat} {Q : Option Value → ai_H → Prop} {h h2 : ai_H} {x1 r : Int32} (hc : CC d 1 [.ref 0, .int x1] h (some (.int r)) h2) (k : RC d 6 Q 5 [some (.ref 0), some (.int x1)] [.int r] h2) : RC d 6 Q 0 [some (.ref 0), some (.int x1)] [] h := by
  obtain ⟨n, e⟩ := k
  exact Exists.intro (n + 3) (Exists.intro [.int x1] (Exists.intro 0 (Exists.intro [] (Exists.intro _ (Exists.intro (some (.int r)) (Exists.intro h2 (And.intro rfl (And.intro rfl (And.intro rfl (And.intro (Nat.le_of_ble_eq_true rfl) (And.intro hc e)))))))))))
theorem bC_6_5 {d : Nat} {Q : Option Value → ai_H → Prop} {h : ai_H} {x1 y0 : Int32} (kt : y0 = 0 → RC d 6 Q 17 [some (.ref 0), some (.int x1)] [] h) (kf : ¬ y0 = 0 → RC d 6 Q 8 [some (.ref 0), some (.int x1)] [] h) : RC d 6 Q 5 [some (.ref 0), some (.int x1)] [.int y0] h := by
  by_cases c : y0 = 0
  · obtain ⟨n, e⟩ := kt c
    exact Exists.intro (n + 1) (Or.inl (And.intro c e))
  · obtain ⟨n, e⟩ := kf c
    exact Exists.intro (n + 1) (Or.inr (And.intro c e))
theorem bC_6_8 {d : Nat} {Q : Option Value → ai_H → Prop} {h : ai_H} {x1 : Int32} (hi1 : vp_in x1 12) (k : RC d 6 Q 18 [some (.ref 0), some (.int x1)] [.int (h 3 (Int32.toNatClampNeg x1))] h) : RC d 6 Q 8 [some (.ref 0), some (.int x1)] [] h := by
  obtain ⟨n, e⟩ := k
  exact Exists.intro (n + 5) (And.intro rfl (Exists.intro 12 (And.intro rfl (And.intro hi1 (e)))))
theorem bC_6_17 {d : Nat} {Q : Option Value → ai_H → Prop} {h : ai_H} {x1 : Int32} (k : RC d 6 Q 18 [some (.ref 0), some (.int x1)] [.int (-1)] h) : RC d 6 Q 17 [some (.ref 0), some (.int x1)] [] h := by
  obtain ⟨n, e⟩ := k
  exact Exists.intro (n + 1) (e)
theorem bC_6_18 {d : Nat} {Q : Option Value → ai_H → Prop} {h : ai_H} {x1 y0 : Int32} (k : Q (some (.int y0)) h) : RC d 6 Q 18 [some (.ref 0), some (.int x1)] [.int y0] h := Exists.intro 1 (And.intro (Or.inl rfl) k)
theorem bC_7_0 {d : Nat} {Q : Option Value → ai_H → Prop} {h : ai_H} {x1 x2 : Int32} (kt : x1 < 0 → RC d 7 Q 30 [some (.ref 0), some (.int x1), some (.int x2)] [] h) (kf : ¬ x1 < 0 → RC d 7 Q 4 [some (.ref 0), some (.int x1), some (.int x2)] [] h) : RC d 7 Q 0 [some (.ref 0), some (.int x1), some (.int x2)] [] h := by
  by_cases c : x1 < 0
  · obtain ⟨n, e⟩ := kt c
    exact Exists.intro (n + 2) (Or.inl (And.intro c e))
  · obtain ⟨n, e⟩ := kf c
    exact Exists.intro (n + 2) (Or.inr (And.intro c e))
theorem bC_7_4 {d : Nat} {Q : Option Value → ai_H → Prop} {h : ai_H} {x1 x2 : Int32} (kt : (h 0 11) ≤ x1 → RC d 7 Q 30 [some (.ref 0), some (.int x1), some (.int x2)] [] h) (kf : ¬ (h 0 11) ≤ x1 → RC d 7 Q 12 [some (.ref 0), some (.int x1), some (.int x2)] [] h) : RC d 7 Q 4 [some (.ref 0), some (.int x1), some (.int x2)] [] h := by
  by_cases c : (h 0 11) ≤ x1
  · obtain ⟨n, e⟩ := kt c
    exact Exists.intro (n + 4) (And.intro rfl (Or.inl (And.intro c e)))
  · obtain ⟨n, e⟩ := kf c
    exact Exists.intro (n + 4) (And.intro rfl (Or.inr (And.intro c e)))
theorem bC_7_12 {d : Nat} {Q : Option Value → ai_H → Prop} {h : ai_H} {x1 x2 : Int32} (hi1 : vp_in x1 12) (kt : ¬ (((h 4 (Int32.toNatClampNeg x1)) >>> (x2 &&& 31)) &&& 1) = 1 → RC d 7 Q 30 [some (.ref 0), some (.int x1), some (.int x2)] [] h) (kf : (((h 4 (Int32.toNatClampNeg x1)) >>> (x2 &&& 31)) &&& 1) = 1 → RC d 7 Q 26 [some (.ref 0), some (.int x1), some (.int x2)] [] h) : RC d 7 Q 12 [some (.ref 0), some (.int x1), some (.int x2)] [] h := by
  by_cases c : (((h 4 (Int32.toNatClampNeg x1)) >>> (x2 &&& 31)) &&& 1) = 1
  · obtain ⟨n, e⟩ := kf c
    exact Exists.intro (n + 10) (And.intro rfl (Exists.intro 12 (And.intro rfl (And.intro hi1 (Or.inr (And.intro (fun z => z c) e))))))
  · obtain ⟨n, e⟩ := kt c
    exact Exists.intro (n + 10) (And.intro rfl (Exists.intro 12 (And.intro rfl (And.intro hi1 (Or.inl (And.intro c e))))))
theorem bC_7_26 {d : Nat} {Q : Option Value → ai_H → Prop} {h : ai_H} {x1 x2 : Int32} (k : RC d 7 Q 31 [some (.ref 0), some (.int x1), some (.int x2)] [.int 1] h) : RC d 7 Q 26 [some (.ref 0), some (.int x1), some (.int x2)] [] h := by
  obtain ⟨n, e⟩ := k
  exact Exists.intro (n + 2) (e)
theorem bC_7_30 {d : Nat} {Q : Option Value → ai_H → Prop} {h : ai_H} {x1 x2 : Int32} (k : RC d 7 Q 31 [some (.ref 0), some (.int x1), some (.int x2)] [.int 0] h) : RC d 7 Q 30 [some (.ref 0), some (.int x1), some (.int x2)] [] h := by
  obtain ⟨n, e⟩ := k
  exact Exists.intro (n + 1) (e)
theorem bC_7_31 {d : Nat} {Q : Option Value → ai_H → Prop} {h : ai_H} {x1 x2 y0 : Int32} (hz : y0 = 0 ∨ y0 = 1) (k : Q (some (.int y0)) h) : RC d 7 Q 31 [some (.ref 0), some (.int x1), some (.int x2)] [.int y0] h := Exists.intro 1 (And.intro (Or.inr hz) k)
theorem bC_8_0 {d : Nat} {Q : Option Value → ai_H → Prop} {h h2 : ai_H} {x1 x2 r : Int32} (hc : CC d 1 [.ref 0, .int x1] h (some (.int r)) h2) (k : RC d 8 Q 5 [some (.ref 0), some (.int x1), some (.int x2)] [.int r] h2) : RC d 8 Q 0 [some (.ref 0), some (.int x1), some (.int x2)] [] h := by
  obtain ⟨n, e⟩ := k
  exact Exists.intro (n + 3) (Exists.intro [.int x1] (Exists.intro 0 (Exists.intro [] (Exists.intro _ (Exists.intro (some (.int r)) (Exists.intro h2 (And.intro rfl (And.intro rfl (And.intro rfl (And.intro (Nat.le_of_ble_eq_true rfl) (And.intro hc e)))))))))))
theorem bC_8_5 {d : Nat} {Q : Option Value → ai_H → Prop} {h : ai_H} {x1 x2 y0 : Int32} (kt : y0 = 0 → RC d 8 Q 26 [some (.ref 0), some (.int x1), some (.int x2)] [] h) (kf : ¬ y0 = 0 → RC d 8 Q 8 [some (.ref 0), some (.int x1), some (.int x2)] [] h) : RC d 8 Q 5 [some (.ref 0), some (.int x1), some (.int x2)] [.int y0] h := by
  by_cases c : y0 = 0
  · obtain ⟨n, e⟩ := kt c
    exact Exists.intro (n + 1) (Or.inl (And.intro c e))
  · obtain ⟨n, e⟩ := kf c
    exact Exists.intro (n + 1) (Or.inr (And.intro c e))
theorem bC_8_8 {d : Nat} {Q : Option Value → ai_H → Prop} {h : ai_H} {x1 x2 : Int32} (kt : x2 < 0 → RC d 8 Q 26 [some (.ref 0), some (.int x1), some (.int x2)] [] h) (kf : ¬ x2 < 0 → RC d 8 Q 12 [some (.ref 0), some (.int x1), some (.int x2)] [] h) : RC d 8 Q 8 [some (.ref 0), some (.int x1), some (.int x2)] [] h := by
  by_cases c : x2 < 0
  · obtain ⟨n, e⟩ := kt c
    exact Exists.intro (n + 2) (Or.inl (And.intro c e))
  · obtain ⟨n, e⟩ := kf c
    exact Exists.intro (n + 2) (Or.inr (And.intro c e))
theorem bC_8_12 {d : Nat} {Q : Option Value → ai_H → Prop} {h : ai_H} {x1 x2 : Int32} (hi1 : vp_in x1 12) (kt : (h 2 (Int32.toNatClampNeg x1)) ≤ x2 → RC d 8 Q 26 [some (.ref 0), some (.int x1), some (.int x2)] [] h) (kf : ¬ (h 2 (Int32.toNatClampNeg x1)) ≤ x2 → RC d 8 Q 22 [some (.ref 0), some (.int x1), some (.int x2)] [] h) : RC d 8 Q 12 [some (.ref 0), some (.int x1), some (.int x2)] [] h := by
  by_cases c : (h 2 (Int32.toNatClampNeg x1)) ≤ x2
  · obtain ⟨n, e⟩ := kt c
    exact Exists.intro (n + 6) (And.intro rfl (Exists.intro 12 (And.intro rfl (And.intro hi1 (Or.inl (And.intro c e))))))
  · obtain ⟨n, e⟩ := kf c
    exact Exists.intro (n + 6) (And.intro rfl (Exists.intro 12 (And.intro rfl (And.intro hi1 (Or.inr (And.intro c e))))))
theorem bC_8_22 {d : Nat} {Q : Option Value → ai_H → Prop} {h : ai_H} {x1 x2 : Int32} (k : RC d 8 Q 27 [some (.ref 0), some (.int x1), some (.int x2)] [.int 1] h) : RC d 8 Q 22 [some (.ref 0), some (.int x1), some (.int x2)] [] h := by
  obtain ⟨n, e⟩ := k
  exact Exists.intro (n + 2) (e)
theorem bC_8_26 {d : Nat} {Q : Option Value → ai_H → Prop} {h : ai_H} {x1 x2 : Int32} (k : RC d 8 Q 27 [some (.ref 0), some (.int x1), some (.int x2)] [.int 0] h) : RC d 8 Q 26 [some (.ref 0), some (.int x1), some (.int x2)] [] h := by
  obtain ⟨n, e⟩ := k
  exact Exists.intro (n + 1) (e)
theorem bC_8_27 {d : Nat} {Q : Option Value → ai_H → Prop} {h : ai_H} {x1 x2 y0 : Int32} (hz : y0 = 0 ∨ y0 = 1) (k : Q (some (.int y0)) h) : RC d 8 Q 27 [some (.ref 0), some (.int x1), some (.int x2)] [.int y0] h := Exists.intro 1 (And.intro (Or.inr hz) k)
theorem bC_9_0 {d : Nat} {Q : Option Value → ai_H → Prop} {h h2 : ai_H} {x1 x2 r : Int32} (hc : CC d 8 [.ref 0, .int x1, .int x2] h (some (.int r)) h2) (k : RC d 9 Q 6 [some (.ref 0), some (.int x1), some (.int x2)] [.int r] h2) : RC d 9 Q 0 [some (.ref 0), some (.int x1), some (.int x2)] [] h := by
  obtain ⟨n, e⟩ := k
  exact Exists.intro (n + 4) (Exists.intro [.int x1, .int x2] (Exists.intro 0 (Exists.intro [] (Exists.intro _ (Exists.intro (some (.int r)) (Exists.intro h2 (And.intro rfl (And.intro rfl (And.intro rfl (And.intro (Nat.le_of_ble_eq_true rfl) (And.intro hc e)))))))))))
theorem bC_9_6 {d : Nat} {Q : Option Value → ai_H → Prop} {h : ai_H} {x1 x2 y0 : Int32} (kt : y0 = 0 → RC d 9 Q 20 [some (.ref 0), some (.int x1), some (.int x2)] [] h) (kf : ¬ y0 = 0 → RC d 9 Q 9 [some (.ref 0), some (.int x1), some (.int x2)] [] h) : RC d 9 Q 6 [some (.ref 0), some (.int x1), some (.int x2)] [.int y0] h := by
  by_cases c : y0 = 0
  · obtain ⟨n, e⟩ := kt c
    exact Exists.intro (n + 1) (Or.inl (And.intro c e))
  · obtain ⟨n, e⟩ := kf c
    exact Exists.intro (n + 1) (Or.inr (And.intro c e))
theorem bC_9_9 {d : Nat} {Q : Option Value → ai_H → Prop} {h : ai_H} {x1 x2 : Int32} (hi1 : vp_in x1 12) (k : RC d 9 Q 21 [some (.ref 0), some (.int x1), some (.int x2)] [.int ((h 5 (Int32.toNatClampNeg x1)) + x2)] h) : RC d 9 Q 9 [some (.ref 0), some (.int x1), some (.int x2)] [] h := by
  obtain ⟨n, e⟩ := k
  exact Exists.intro (n + 7) (And.intro rfl (Exists.intro 12 (And.intro rfl (And.intro hi1 (e)))))
theorem bC_9_20 {d : Nat} {Q : Option Value → ai_H → Prop} {h : ai_H} {x1 x2 : Int32} (k : RC d 9 Q 21 [some (.ref 0), some (.int x1), some (.int x2)] [.int (-1)] h) : RC d 9 Q 20 [some (.ref 0), some (.int x1), some (.int x2)] [] h := by
  obtain ⟨n, e⟩ := k
  exact Exists.intro (n + 1) (e)
theorem bC_9_21 {d : Nat} {Q : Option Value → ai_H → Prop} {h : ai_H} {x1 x2 y0 : Int32} (k : Q (some (.int y0)) h) : RC d 9 Q 21 [some (.ref 0), some (.int x1), some (.int x2)] [.int y0] h := Exists.intro 1 (And.intro (Or.inl rfl) k)
theorem bC_10_0 {d : Nat} {Q : Option Value → ai_H → Prop} {h h2 : ai_H} {x1 x2 r : Int32} (hc : CC d 8 [.ref 0, .int x1, .int x2] h (some (.int r)) h2) (k : RC d 10 Q 6 [some (.ref 0), some (.int x1), some (.int x2)] [.int r] h2) : RC d 10 Q 0 [some (.ref 0), some (.int x1), some (.int x2)] [] h := by
  obtain ⟨n, e⟩ := k
  exact Exists.intro (n + 4) (Exists.intro [.int x1, .int x2] (Exists.intro 0 (Exists.intro [] (Exists.intro _ (Exists.intro (some (.int r)) (Exists.intro h2 (And.intro rfl (And.intro rfl (And.intro rfl (And.intro (Nat.le_of_ble_eq_true rfl) (And.intro hc e)))))))))))
theorem bC_10_6 {d : Nat} {Q : Option Value → ai_H → Prop} {h : ai_H} {x1 x2 y0 : Int32} (kt : y0 = 0 → RC d 10 Q 22 [some (.ref 0), some (.int x1), some (.int x2)] [] h) (kf : ¬ y0 = 0 → RC d 10 Q 9 [some (.ref 0), some (.int x1), some (.int x2)] [] h) : RC d 10 Q 6 [some (.ref 0), some (.int x1), some (.int x2)] [.int y0] h := by
  by_cases c : y0 = 0
  · obtain ⟨n, e⟩ := kt c
    exact Exists.intro (n + 1) (Or.inl (And.intro c e))
  · obtain ⟨n, e⟩ := kf c
    exact Exists.intro (n + 1) (Or.inr (And.intro c e))
theorem bC_10_9 {d : Nat} {Q : Option Value → ai_H → Prop} {h : ai_H} {x1 x2 : Int32} (hi1 : vp_in ((x1 * 3) + x2) 36) (k : RC d 10 Q 23 [some (.ref 0), some (.int x1), some (.int x2)] [.int (h 7 (Int32.toNatClampNeg ((x1 * 3) + x2)))] h) : RC d 10 Q 9 [some (.ref 0), some (.int x1), some (.int x2)] [] h := by
  obtain ⟨n, e⟩ := k
  exact Exists.intro (n + 9) (And.intro rfl (Exists.intro 36 (And.intro rfl (And.intro hi1 (e)))))
theorem bC_10_22 {d : Nat} {Q : Option Value → ai_H → Prop} {h : ai_H} {x1 x2 : Int32} (k : RC d 10 Q 23 [some (.ref 0), some (.int x1), some (.int x2)] [.int 0] h) : RC d 10 Q 22 [some (.ref 0), some (.int x1), some (.int x2)] [] h := by
  obtain ⟨n, e⟩ := k
  exact Exists.intro (n + 1) (e)
theorem bC_10_23 {d : Nat} {Q : Option Value → ai_H → Prop} {h : ai_H} {x1 x2 y0 : Int32} (k : Q (some (.int y0)) h) : RC d 10 Q 23 [some (.ref 0), some (.int x1), some (.int x2)] [.int y0] h := Exists.intro 1 (And.intro (Or.inl rfl) k)
theorem bC_11_0 {d : Nat} {Q : Option Value → ai_H → Prop} {h : ai_H} {x1 x2 x3 : Int32} (kt : x1 < 0 → RC d 11 Q 21 [some (.ref 0), some (.int x1), some (.int x2), some (.int x3), none] [] h) (kf : ¬ x1 < 0 → RC d 11 Q 4 [some (.ref 0), some (.int x1), some (.int x2), some (.int x3), none] [] h) : RC d 11 Q 0 [some (.ref 0), some (.int x1), some (.int x2), some (.int x3), none] [] h := by
  by_cases c : x1 < 0
  · obtain ⟨n, e⟩ := kt c
    exact Exists.intro (n + 2) (Or.inl (And.intro c e))
  · obtain ⟨n, e⟩ := kf c
    exact Exists.intro (n + 2) (Or.inr (And.intro c e))
theorem bC_11_4 {d : Nat} {Q : Option Value → ai_H → Prop} {h : ai_H} {x1 x2 x3 : Int32} (kt : (h 0 11) ≤ x1 → RC d 11 Q 21 [some (.ref 0), some (.int x1), some (.int x2), some (.int x3), none] [] h) (kf : ¬ (h 0 11) ≤ x1 → RC d 11 Q 12 [some (.ref 0), some (.int x1), some (.int x2), some (.int x3), none] [] h) : RC d 11 Q 4 [some (.ref 0), some (.int x1), some (.int x2), some (.int x3), none] [] h := by
  by_cases c : (h 0 11) ≤ x1
  · obtain ⟨n, e⟩ := kt c
    exact Exists.intro (n + 4) (And.intro rfl (Or.inl (And.intro c e)))
  · obtain ⟨n, e⟩ := kf c
    exact Exists.intro (n + 4) (And.intro rfl (Or.inr (And.intro c e)))
theorem bC_11_12 {d : Nat} {Q : Option Value → ai_H → Prop} {h : ai_H} {x1 x2 x3 : Int32} (kt : x2 < 0 → RC d 11 Q 21 [some (.ref 0), some (.int x1), some (.int x2), some (.int x3), none] [] h) (kf : ¬ x2 < 0 → RC d 11 Q 16 [some (.ref 0), some (.int x1), some (.int x2), some (.int x3), none] [] h) : RC d 11 Q 12 [some (.ref 0), some (.int x1), some (.int x2), some (.int x3), none] [] h := by
  by_cases c : x2 < 0
  · obtain ⟨n, e⟩ := kt c
    exact Exists.intro (n + 2) (Or.inl (And.intro c e))
  · obtain ⟨n, e⟩ := kf c
    exact Exists.intro (n + 2) (Or.inr (And.intro c e))
theorem bC_11_16 {d : Nat} {Q : Option Value → ai_H → Prop} {h : ai_H} {x1 x2 x3 : Int32} (kt : x2 < 3 → RC d 11 Q 23 [some (.ref 0), some (.int x1), some (.int x2), some (.int x3), none] [] h) (kf : ¬ x2 < 3 → RC d 11 Q 21 [some (.ref 0), some (.int x1), some (.int x2), some (.int x3), none] [] h) : RC d 11 Q 16 [some (.ref 0), some (.int x1), some (.int x2), some (.int x3), none] [] h := by
  by_cases c : x2 < 3
  · obtain ⟨n, e⟩ := kt c
    exact Exists.intro (n + 3) (Or.inl (And.intro c e))
  · obtain ⟨n, e⟩ := kf c
    exact Exists.intro (n + 3) (Or.inr (And.intro c e))
theorem bC_11_21 {d : Nat} {Q : Option Value → ai_H → Prop} {h : ai_H} {x1 x2 x3 : Int32} (k : Q (some (.int (-1))) h) : RC d 11 Q 21 [some (.ref 0), some (.int x1), some (.int x2), some (.int x3), none] [] h := Exists.intro 2 (And.intro (Or.inl rfl) k)
theorem bC_11_23 {d : Nat} {Q : Option Value → ai_H → Prop} {h : ai_H} {x1 x2 x3 : Int32} (kt : x3 < 0 → RC d 11 Q 59 [some (.ref 0), some (.int x1), some (.int x2), some (.int x3), some (.int ((x1 * 3) + x2))] [] h) (kf : ¬ x3 < 0 → RC d 11 Q 34 [some (.ref 0), some (.int x1), some (.int x2), some (.int x3), some (.int ((x1 * 3) + x2))] [] h) : RC d 11 Q 23 [some (.ref 0), some (.int x1), some (.int x2), some (.int x3), none] [] h := by
  by_cases c : x3 < 0
  · obtain ⟨n, e⟩ := kt c
    exact Exists.intro (n + 8) (Exists.intro _ (And.intro rfl (Or.inl (And.intro c e))))
  · obtain ⟨n, e⟩ := kf c
    exact Exists.intro (n + 8) (Exists.intro _ (And.intro rfl (Or.inr (And.intro c e))))
theorem bC_11_34 {d : Nat} {Q : Option Value → ai_H → Prop} {h : ai_H} {x1 x2 x3 x4 : Int32} (hi1 : vp_in x4 36) (kt : (h 7 (Int32.toNatClampNeg x4)) ≤ x3 → RC d 11 Q 59 [some (.ref 0), some (.int x1), some (.int x2), some (.int x3), some (.int x4)] [] h) (kf : ¬ (h 7 (Int32.toNatClampNeg x4)) ≤ x3 → RC d 11 Q 45 [some (.ref 0), some (.int x1), some (.int x2), some (.int x3), some (.int x4)] [] h) : RC d 11 Q 34 [some (.ref 0), some (.int x1), some (.int x2), some (.int x3), some (.int x4)] [] h := by
  by_cases c : (h 7 (Int32.toNatClampNeg x4)) ≤ x3
  · obtain ⟨n, e⟩ := kt c
    exact Exists.intro (n + 6) (And.intro rfl (Exists.intro 36 (And.intro rfl (And.intro hi1 (Or.inl (And.intro c e))))))
  · obtain ⟨n, e⟩ := kf c
    exact Exists.intro (n + 6) (And.intro rfl (Exists.intro 36 (And.intro rfl (And.intro hi1 (Or.inr (And.intro c e))))))
theorem bC_11_45 {d : Nat} {Q : Option Value → ai_H → Prop} {h : ai_H} {x1 x2 x3 x4 : Int32} (hi1 : vp_in ((x4 * 3) + x3) 108) (k : RC d 11 Q 60 [some (.ref 0), some (.int x1), some (.int x2), some (.int x3), some (.int x4)] [.int (h 6 (Int32.toNatClampNeg ((x4 * 3) + x3)))] h) : RC d 11 Q 45 [some (.ref 0), some (.int x1), some (.int x2), some (.int x3), some (.int x4)] [] h := by
  obtain ⟨n, e⟩ := k
  exact Exists.intro (n + 9) (And.intro rfl (Exists.intro 108 (And.intro rfl (And.intro hi1 (e)))))
theorem bC_11_59 {d : Nat} {Q : Option Value → ai_H → Prop} {h : ai_H} {x1 x2 x3 x4 : Int32} (k : RC d 11 Q 60 [some (.ref 0), some (.int x1), some (.int x2), some (.int x3), some (.int x4)] [.int (-1)] h) : RC d 11 Q 59 [some (.ref 0), some (.int x1), some (.int x2), some (.int x3), some (.int x4)] [] h := by
  obtain ⟨n, e⟩ := k
  exact Exists.intro (n + 1) (e)
theorem bC_11_60 {d : Nat} {Q : Option Value → ai_H → Prop} {h : ai_H} {x1 x2 x3 x4 y0 : Int32} (k : Q (some (.int y0)) h) : RC d 11 Q 60 [some (.ref 0), some (.int x1), some (.int x2), some (.int x3), some (.int x4)] [.int y0] h := Exists.intro 1 (And.intro (Or.inl rfl) k)
theorem bC_12_0 {d : Nat} {Q : Option Value → ai_H → Prop} {h : ai_H} {x1 : Int32} (k : RC d 12 Q 4 [some (.ref 0), some (.int x1), some (.int 0), some (.int 0)] [] h) : RC d 12 Q 0 [some (.ref 0), some (.int x1), none, none] [] h := by
  obtain ⟨n, e⟩ := k
  exact Exists.intro (n + 4) (Exists.intro _ (And.intro rfl (Exists.intro _ (And.intro rfl (e)))))
theorem bC_12_4 {d : Nat} {Q : Option Value → ai_H → Prop} {h : ai_H} {x1 x2 x3 : Int32} (kt : 3 ≤ x3 → RC d 12 Q 24 [some (.ref 0), some (.int x1), some (.int x2), some (.int x3)] [] h) (kf : ¬ 3 ≤ x3 → RC d 12 Q 9 [some (.ref 0), some (.int x1), some (.int x2), some (.int x3)] [] h) : RC d 12 Q 4 [some (.ref 0), some (.int x1), some (.int x2), some (.int x3)] [] h := by
  by_cases c : 3 ≤ x3
  · obtain ⟨n, e⟩ := kt c
    exact Exists.intro (n + 3) (Or.inl (And.intro c e))
  · obtain ⟨n, e⟩ := kf c
    exact Exists.intro (n + 3) (Or.inr (And.intro c e))
theorem bC_12_9 {d : Nat} {Q : Option Value → ai_H → Prop} {h h2 : ai_H} {x1 x2 x3 r : Int32} (hc : CC d 10 [.ref 0, .int x1, .int x3] h (some (.int r)) h2) (k : RC d 12 Q 16 [some (.ref 0), some (.int x1), some (.int x2), some (.int x3)] [.int r, .int x2] h2) : RC d 12 Q 9 [some (.ref 0), some (.int x1), some (.int x2), some (.int x3)] [] h := by
  obtain ⟨n, e⟩ := k
  exact Exists.intro (n + 5) (Exists.intro [.int x1, .int x3] (Exists.intro 0 (Exists.intro [.int x2] (Exists.intro _ (Exists.intro (some (.int r)) (Exists.intro h2 (And.intro rfl (And.intro rfl (And.intro rfl (And.intro (Nat.le_of_ble_eq_true rfl) (And.intro hc e)))))))))))
theorem bC_12_16 {d : Nat} {Q : Option Value → ai_H → Prop} {h : ai_H} {x1 x2 x3 y0 y1 : Int32} (k : RC d 12 Q 4 [some (.ref 0), some (.int x1), some (.int (y0 + y1)), some (.int (x3 + 1))] [] h) : RC d 12 Q 16 [some (.ref 0), some (.int x1), some (.int x2), some (.int x3)] [.int y1, .int y0] h := by
  obtain ⟨n, e⟩ := k
  exact Exists.intro (n + 4) (Exists.intro _ (And.intro rfl (Exists.intro _ (And.intro rfl (e)))))
theorem bC_12_24 {d : Nat} {Q : Option Value → ai_H → Prop} {h : ai_H} {x1 x2 x3 : Int32} (k : Q (some (.int x2)) h) : RC d 12 Q 24 [some (.ref 0), some (.int x1), some (.int x2), some (.int x3)] [] h := Exists.intro 2 (And.intro (Or.inl rfl) k)
theorem bC_13_0 {d : Nat} {Q : Option Value → ai_H → Prop} {h h2 : ai_H} {x1 x2 x3 r : Int32} (hc : CC d 10 [.ref 0, .int x1, .int x2] h (some (.int r)) h2) (k : RC d 13 Q 6 [some (.ref 0), some (.int x1), some (.int x2), some (.int x3), none, none] [.int r] h2) : RC d 13 Q 0 [some (.ref 0), some (.int x1), some (.int x2), some (.int x3), none, none] [] h := by
  obtain ⟨n, e⟩ := k
  exact Exists.intro (n + 4) (Exists.intro [.int x1, .int x2] (Exists.intro 0 (Exists.intro [] (Exists.intro _ (Exists.intro (some (.int r)) (Exists.intro h2 (And.intro rfl (And.intro rfl (And.intro rfl (And.intro (Nat.le_of_ble_eq_true rfl) (And.intro hc e)))))))))))
theorem bC_13_6 {d : Nat} {Q : Option Value → ai_H → Prop} {h h2 : ai_H} {x1 x2 x3 y0 r : Int32} (hc : CC d 8 [.ref 0, .int x1, .int x2] h (some (.int r)) h2) (k : RC d 13 Q 14 [some (.ref 0), some (.int x1), some (.int x2), some (.int x3), some (.int y0), none] [.int r] h2) : RC d 13 Q 6 [some (.ref 0), some (.int x1), some (.int x2), some (.int x3), none, none] [.int y0] h := by
  obtain ⟨n, e⟩ := k
  exact Exists.intro (n + 5) (Exists.intro _ (And.intro rfl (Exists.intro [.int x1, .int x2] (Exists.intro 0 (Exists.intro [] (Exists.intro _ (Exists.intro (some (.int r)) (Exists.intro h2 (And.intro rfl (And.intro rfl (And.intro rfl (And.intro (Nat.le_of_ble_eq_true rfl) (And.intro hc e)))))))))))))
theorem bC_13_14 {d : Nat} {Q : Option Value → ai_H → Prop} {h : ai_H} {x1 x2 x3 x4 y0 : Int32} (kt : y0 = 0 → RC d 13 Q 23 [some (.ref 0), some (.int x1), some (.int x2), some (.int x3), some (.int x4), none] [] h) (kf : ¬ y0 = 0 → RC d 13 Q 17 [some (.ref 0), some (.int x1), some (.int x2), some (.int x3), some (.int x4), none] [] h) : RC d 13 Q 14 [some (.ref 0), some (.int x1), some (.int x2), some (.int x3), some (.int x4), none] [.int y0] h := by
  by_cases c : y0 = 0
  · obtain ⟨n, e⟩ := kt c
    exact Exists.intro (n + 1) (Or.inl (And.intro c e))
  · obtain ⟨n, e⟩ := kf c
    exact Exists.intro (n + 1) (Or.inr (And.intro c e))
theorem bC_13_17 {d : Nat} {Q : Option Value → ai_H → Prop} {h : ai_H} {x1 x2 x3 x4 : Int32} (kt : x4 < 3 → RC d 13 Q 26 [some (.ref 0), some (.int x1), some (.int x2), some (.int x3), some (.int x4), none] [] h) (kf : ¬ x4 < 3 → RC d 13 Q 23 [some (.ref 0), some (.int x1), some (.int x2), some (.int x3), some (.int x4), none] [] h) : RC d 13 Q 17 [some (.ref 0), some (.int x1), some (.int x2), some (.int x3), some (.int x4), none] [] h := by
  by_cases c : x4 < 3
  · obtain ⟨n, e⟩ := kt c
    exact Exists.intro (n + 3) (Or.inl (And.intro c e))
  · obtain ⟨n, e⟩ := kf c
    exact Exists.intro (n + 3) (Or.inr (And.intro c e))
theorem bC_13_23 {d : Nat} {Q : Option Value → ai_H → Prop} {h : ai_H} {x1 x2 x3 x4 : Int32} (k : Q (some (.int (-5))) h) : RC d 13 Q 23 [some (.ref 0), some (.int x1), some (.int x2), some (.int x3), some (.int x4), none] [] h := Exists.intro 2 (And.intro (Or.inl rfl) k)
theorem bC_13_26 {d : Nat} {Q : Option Value → ai_H → Prop} {h : ai_H} {x1 x2 x3 x4 : Int32} (hi1 : vp_in ((((x1 * 3) + x2) * 3) + x4) 108) (hi2 : vp_in ((x1 * 3) + x2) 36) (k : Q (some (.int (x4 + 1))) (ai_up (ai_up h 6 (Int32.toNatClampNeg ((((x1 * 3) + x2) * 3) + x4)) x3) 7 (Int32.toNatClampNeg ((x1 * 3) + x2)) (x4 + 1))) : RC d 13 Q 26 [some (.ref 0), some (.int x1), some (.int x2), some (.int x3), some (.int x4), none] [] h := Exists.intro 26 (Exists.intro _ (And.intro rfl (And.intro rfl (Exists.intro 108 (And.intro rfl (And.intro hi1 (And.intro rfl (Exists.intro 36 (And.intro rfl (And.intro hi2 (And.intro (Or.inl rfl) k)))))))))))
theorem bC_14_0 {d : Nat} {Q : Option Value → ai_H → Prop} {h h2 : ai_H} {x1 r : Int32} (hc : CC d 1 [.ref 0, .int x1] h (some (.int r)) h2) (k : RC d 14 Q 5 [some (.ref 0), some (.int x1)] [.int r] h2) : RC d 14 Q 0 [some (.ref 0), some (.int x1)] [] h := by
  obtain ⟨n, e⟩ := k
  exact Exists.intro (n + 3) (Exists.intro [.int x1] (Exists.intro 0 (Exists.intro [] (Exists.intro _ (Exists.intro (some (.int r)) (Exists.intro h2 (And.intro rfl (And.intro rfl (And.intro rfl (And.intro (Nat.le_of_ble_eq_true rfl) (And.intro hc e)))))))))))
theorem bC_14_5 {d : Nat} {Q : Option Value → ai_H → Prop} {h : ai_H} {x1 y0 : Int32} (kt : y0 = 0 → RC d 14 Q 17 [some (.ref 0), some (.int x1)] [] h) (kf : ¬ y0 = 0 → RC d 14 Q 8 [some (.ref 0), some (.int x1)] [] h) : RC d 14 Q 5 [some (.ref 0), some (.int x1)] [.int y0] h := by
  by_cases c : y0 = 0
  · obtain ⟨n, e⟩ := kt c
    exact Exists.intro (n + 1) (Or.inl (And.intro c e))
  · obtain ⟨n, e⟩ := kf c
    exact Exists.intro (n + 1) (Or.inr (And.intro c e))
theorem bC_14_8 {d : Nat} {Q : Option Value → ai_H → Prop} {h : ai_H} {x1 : Int32} (hi1 : vp_in x1 12) (k : RC d 14 Q 18 [some (.ref 0), some (.int x1)] [.int (h 10 (Int32.toNatClampNeg x1))] h) : RC d 14 Q 8 [some (.ref 0), some (.int x1)] [] h := by
  obtain ⟨n, e⟩ := k
  exact Exists.intro (n + 5) (And.intro rfl (Exists.intro 12 (And.intro rfl (And.intro hi1 (e)))))
theorem bC_14_17 {d : Nat} {Q : Option Value → ai_H → Prop} {h : ai_H} {x1 : Int32} (k : RC d 14 Q 18 [some (.ref 0), some (.int x1)] [.int 0] h) : RC d 14 Q 17 [some (.ref 0), some (.int x1)] [] h := by
  obtain ⟨n, e⟩ := k
  exact Exists.intro (n + 1) (e)
theorem bC_14_18 {d : Nat} {Q : Option Value → ai_H → Prop} {h : ai_H} {x1 y0 : Int32} (k : Q (some (.int y0)) h) : RC d 14 Q 18 [some (.ref 0), some (.int x1)] [.int y0] h := Exists.intro 1 (And.intro (Or.inl rfl) k)
theorem bC_15_0 {d : Nat} {Q : Option Value → ai_H → Prop} {h h2 : ai_H} {x1 x2 x3 r : Int32} (hc : CC d 14 [.ref 0, .int x1] h (some (.int r)) h2) (k : RC d 15 Q 5 [some (.ref 0), some (.int x1), some (.int x2), some (.int x3), none] [.int r] h2) : RC d 15 Q 0 [some (.ref 0), some (.int x1), some (.int x2), some (.int x3), none] [] h := by
  obtain ⟨n, e⟩ := k
  exact Exists.intro (n + 3) (Exists.intro [.int x1] (Exists.intro 0 (Exists.intro [] (Exists.intro _ (Exists.intro (some (.int r)) (Exists.intro h2 (And.intro rfl (And.intro rfl (And.intro rfl (And.intro (Nat.le_of_ble_eq_true rfl) (And.intro hc e)))))))))))
theorem bC_15_5 {d : Nat} {Q : Option Value → ai_H → Prop} {h h2 : ai_H} {x1 x2 x3 y0 r : Int32} (hc : CC d 1 [.ref 0, .int x1] h (some (.int r)) h2) (k : RC d 15 Q 12 [some (.ref 0), some (.int x1), some (.int x2), some (.int x3), some (.int y0)] [.int r] h2) : RC d 15 Q 5 [some (.ref 0), some (.int x1), some (.int x2), some (.int x3), none] [.int y0] h := by
  obtain ⟨n, e⟩ := k
  exact Exists.intro (n + 4) (Exists.intro _ (And.intro rfl (Exists.intro [.int x1] (Exists.intro 0 (Exists.intro [] (Exists.intro _ (Exists.intro (some (.int r)) (Exists.intro h2 (And.intro rfl (And.intro rfl (And.intro rfl (And.intro (Nat.le_of_ble_eq_true rfl) (And.intro hc e)))))))))))))
theorem bC_15_12 {d : Nat} {Q : Option Value → ai_H → Prop} {h : ai_H} {x1 x2 x3 x4 y0 : Int32} (kt : y0 = 0 → RC d 15 Q 29 [some (.ref 0), some (.int x1), some (.int x2), some (.int x3), some (.int x4)] [] h) (kf : ¬ y0 = 0 → RC d 15 Q 15 [some (.ref 0), some (.int x1), some (.int x2), some (.int x3), some (.int x4)] [] h) : RC d 15 Q 12 [some (.ref 0), some (.int x1), some (.int x2), some (.int x3), some (.int x4)] [.int y0] h := by
  by_cases c : y0 = 0
  · obtain ⟨n, e⟩ := kt c
    exact Exists.intro (n + 1) (Or.inl (And.intro c e))
  · obtain ⟨n, e⟩ := kf c
    exact Exists.intro (n + 1) (Or.inr (And.intro c e))
theorem bC_15_15 {d : Nat} {Q : Option Value → ai_H → Prop} {h h2 : ai_H} {x1 x2 x3 x4 r : Int32} (hc : CC d 1 [.ref 0, .int x3] h (some (.int r)) h2) (k : RC d 15 Q 20 [some (.ref 0), some (.int x1), some (.int x2), some (.int x3), some (.int x4)] [.int r] h2) : RC d 15 Q 15 [some (.ref 0), some (.int x1), some (.int x2), some (.int x3), some (.int x4)] [] h := by
  obtain ⟨n, e⟩ := k
  exact Exists.intro (n + 3) (Exists.intro [.int x3] (Exists.intro 0 (Exists.intro [] (Exists.intro _ (Exists.intro (some (.int r)) (Exists.intro h2 (And.intro rfl (And.intro rfl (And.intro rfl (And.intro (Nat.le_of_ble_eq_true rfl) (And.intro hc e)))))))))))
theorem bC_15_20 {d : Nat} {Q : Option Value → ai_H → Prop} {h : ai_H} {x1 x2 x3 x4 y0 : Int32} (kt : y0 = 0 → RC d 15 Q 29 [some (.ref 0), some (.int x1), some (.int x2), some (.int x3), some (.int x4)] [] h) (kf : ¬ y0 = 0 → RC d 15 Q 23 [some (.ref 0), some (.int x1), some (.int x2), some (.int x3), some (.int x4)] [] h) : RC d 15 Q 20 [some (.ref 0), some (.int x1), some (.int x2), some (.int x3), some (.int x4)] [.int y0] h := by
  by_cases c : y0 = 0
  · obtain ⟨n, e⟩ := kt c
    exact Exists.intro (n + 1) (Or.inl (And.intro c e))
  · obtain ⟨n, e⟩ := kf c
    exact Exists.intro (n + 1) (Or.inr (And.intro c e))
theorem bC_15_23 {d : Nat} {Q : Option Value → ai_H → Prop} {h : ai_H} {x1 x2 x3 x4 : Int32} (kt : x4 < 3 → RC d 15 Q 32 [some (.ref 0), some (.int x1), some (.int x2), some (.int x3), some (.int x4)] [] h) (kf : ¬ x4 < 3 → RC d 15 Q 29 [some (.ref 0), some (.int x1), some (.int x2), some (.int x3), some (.int x4)] [] h) : RC d 15 Q 23 [some (.ref 0), some (.int x1), some (.int x2), some (.int x3), some (.int x4)] [] h := by
  by_cases c : x4 < 3
  · obtain ⟨n, e⟩ := kt c
    exact Exists.intro (n + 3) (Or.inl (And.intro c e))
  · obtain ⟨n, e⟩ := kf c
    exact Exists.intro (n + 3) (Or.inr (And.intro c e))
theorem bC_15_29 {d : Nat} {Q : Option Value → ai_H → Prop} {h : ai_H} {x1 x2 x3 x4 : Int32} (k : Q (some (.int (-5))) h) : RC d 15 Q 29 [some (.ref 0), some (.int x1), some (.int x2), some (.int x3), some (.int x4)] [] h := Exists.intro 2 (And.intro (Or.inl rfl) k)
theorem bC_15_32 {d : Nat} {Q : Option Value → ai_H → Prop} {h h2 : ai_H} {x1 x2 x3 x4 : Int32} (hi1 : vp_in ((x1 * 3) + x4) 36) (hi2 : vp_in ((x1 * 3) + x4) 36) (hi3 : vp_in x1 12) (hc : CC d 16 [.ref 0] (ai_up (ai_up (ai_up h 8 (Int32.toNatClampNeg ((x1 * 3) + x4)) x2) 9 (Int32.toNatClampNeg ((x1 * 3) + x4)) x3) 10 (Int32.toNatClampNeg x1) (x4 + 1)) (none) h2) (k : RC d 15 Q 70 [some (.ref 0), some (.int x1), some (.int x2), some (.int x3), some (.int x4)] [] h2) : RC d 15 Q 32 [some (.ref 0), some (.int x1), some (.int x2), some (.int x3), some (.int x4)] [] h := by
  obtain ⟨n, e⟩ := k
  exact Exists.intro (n + 27) (And.intro rfl (Exists.intro 36 (And.intro rfl (And.intro hi1 (And.intro rfl (Exists.intro 36 (And.intro rfl (And.intro hi2 (And.intro rfl (Exists.intro 12 (And.intro rfl (And.intro hi3 (Exists.intro [] (Exists.intro 0 (Exists.intro [] (Exists.intro _ (Exists.intro (none) (Exists.intro h2 (And.intro rfl (And.intro rfl (And.intro rfl (And.intro (Nat.le_of_ble_eq_true rfl) (And.intro hc e)))))))))))))))))))))))
theorem bC_15_70 {d : Nat} {Q : Option Value → ai_H → Prop} {h : ai_H} {x1 x2 x3 x4 : Int32} (k : Q (some (.int (x4 + 1))) h) : RC d 15 Q 70 [some (.ref 0), some (.int x1), some (.int x2), some (.int x3), some (.int x4)] [] h := Exists.intro 4 (And.intro (Or.inl rfl) k)
theorem bC_16_0 {d : Nat} {Q : Option Value → ai_H → Prop} {h : ai_H} (k : RC d 16 Q 2 [some (.ref 0), some (.int 0), none] [] h) : RC d 16 Q 0 [some (.ref 0), none, none] [] h := by
  obtain ⟨n, e⟩ := k
  exact Exists.intro (n + 2) (Exists.intro _ (And.intro rfl (e)))
theorem bC_16_2 {d : Nat} {Q : Option Value → ai_H → Prop} {h : ai_H} {x1 : Int32} {o2 : Option Value} (kt : (h 0 11) ≤ x1 → RC d 16 Q 67 [some (.ref 0), some (.int x1), o2] [] h) (kf : ¬ (h 0 11) ≤ x1 → RC d 16 Q 10 [some (.ref 0), some (.int x1), o2] [] h) : RC d 16 Q 2 [some (.ref 0), some (.int x1), o2] [] h := by
  by_cases c : (h 0 11) ≤ x1
  · obtain ⟨n, e⟩ := kt c
    exact Exists.intro (n + 4) (And.intro rfl (Or.inl (And.intro c e)))
  · obtain ⟨n, e⟩ := kf c
    exact Exists.intro (n + 4) (And.intro rfl (Or.inr (And.intro c e)))
theorem bC_16_10 {d : Nat} {Q : Option Value → ai_H → Prop} {h : ai_H} {x1 : Int32} {o2 : Option Value} (hi1 : vp_in x1 12) (k : RC d 16 Q 21 [some (.ref 0), some (.int x1), some (.int 0)] [] (ai_up h 11 (Int32.toNatClampNeg x1) (1 <<< (x1 &&& 31)))) : RC d 16 Q 10 [some (.ref 0), some (.int x1), o2] [] h := by
  obtain ⟨n, e⟩ := k
  exact Exists.intro (n + 9) (And.intro rfl (Exists.intro 12 (And.intro rfl (And.intro hi1 (Exists.intro _ (And.intro rfl (e)))))))
theorem bC_16_21 {d : Nat} {Q : Option Value → ai_H → Prop} {h : ai_H} {x1 x2 : Int32} (hi1 : vp_in x1 12) (kt : (h 10 (Int32.toNatClampNeg x1)) ≤ x2 → RC d 16 Q 61 [some (.ref 0), some (.int x1), some (.int x2)] [] h) (kf : ¬ (h 10 (Int32.toNatClampNeg x1)) ≤ x2 → RC d 16 Q 31 [some (.ref 0), some (.int x1), some (.int x2)] [] h) : RC d 16 Q 21 [some (.ref 0), some (.int x1), some (.int x2)] [] h := by
  by_cases c : (h 10 (Int32.toNatClampNeg x1)) ≤ x2
  · obtain ⟨n, e⟩ := kt c
    exact Exists.intro (n + 6) (And.intro rfl (Exists.intro 12 (And.intro rfl (And.intro hi1 (Or.inl (And.intro c e))))))
  · obtain ⟨n, e⟩ := kf c
    exact Exists.intro (n + 6) (And.intro rfl (Exists.intro 12 (And.intro rfl (And.intro hi1 (Or.inr (And.intro c e))))))
theorem bC_16_31 {d : Nat} {Q : Option Value → ai_H → Prop} {h : ai_H} {x1 x2 : Int32} (hi1 : vp_in x1 12) (hi2 : vp_in ((x1 * 3) + x2) 36) (hi3 : vp_in (h 9 (Int32.toNatClampNeg ((x1 * 3) + x2))) 12) (hi4 : vp_in x1 12) (k : RC d 16 Q 21 [some (.ref 0), some (.int x1), some (.int (x2 + 1))] [] (ai_up h 11 (Int32.toNatClampNeg x1) ((h 11 (Int32.toNatClampNeg x1)) ||| (h 11 (Int32.toNatClampNeg (h 9 (Int32.toNatClampNeg ((x1 * 3) + x2)))))))) : RC d 16 Q 31 [some (.ref 0), some (.int x1), some (.int x2)] [] h := by
  obtain ⟨n, e⟩ := k
  exact Exists.intro (n + 20) (And.intro rfl (And.intro rfl (And.intro rfl (Exists.intro 12 (And.intro rfl (And.intro hi1 (And.intro rfl (And.intro rfl (Exists.intro 36 (And.intro rfl (And.intro hi2 (Exists.intro 12 (And.intro rfl (And.intro hi3 (Exists.intro 12 (And.intro rfl (And.intro hi4 (Exists.intro _ (And.intro rfl (e))))))))))))))))))))
theorem bC_16_61 {d : Nat} {Q : Option Value → ai_H → Prop} {h : ai_H} {x1 x2 : Int32} (k : RC d 16 Q 2 [some (.ref 0), some (.int (x1 + 1)), some (.int x2)] [] h) : RC d 16 Q 61 [some (.ref 0), some (.int x1), some (.int x2)] [] h := by
  obtain ⟨n, e⟩ := k
  exact Exists.intro (n + 2) (Exists.intro _ (And.intro rfl (e)))
theorem bC_16_67 {d : Nat} {Q : Option Value → ai_H → Prop} {h : ai_H} {x1 : Int32} {o2 : Option Value} (k : Q none h) : RC d 16 Q 67 [some (.ref 0), some (.int x1), o2] [] h := Exists.intro 1 (k)
theorem bC_17_0 {d : Nat} {Q : Option Value → ai_H → Prop} {h : ai_H} {x1 x2 : Int32} (k : RC d 17 Q 2 [some (.ref 0), some (.int x1), some (.int x2), some (.int 0), none] [] h) : RC d 17 Q 0 [some (.ref 0), some (.int x1), some (.int x2), none, none] [] h := by
  obtain ⟨n, e⟩ := k
  exact Exists.intro (n + 2) (Exists.intro _ (And.intro rfl (e)))
theorem bC_17_2 {d : Nat} {Q : Option Value → ai_H → Prop} {h h2 : ai_H} {x1 x2 x3 r : Int32} {o4 : Option Value} (hc : CC d 14 [.ref 0, .int x1] h (some (.int r)) h2) (k : RC d 17 Q 8 [some (.ref 0), some (.int x1), some (.int x2), some (.int x3), o4] [.int r, .int x3] h2) : RC d 17 Q 2 [some (.ref 0), some (.int x1), some (.int x2), some (.int x3), o4] [] h := by
  obtain ⟨n, e⟩ := k
  exact Exists.intro (n + 4) (Exists.intro [.int x1] (Exists.intro 0 (Exists.intro [.int x3] (Exists.intro _ (Exists.intro (some (.int r)) (Exists.intro h2 (And.intro rfl (And.intro rfl (And.intro rfl (And.intro (Nat.le_of_ble_eq_true rfl) (And.intro hc e)))))))))))
theorem bC_17_8 {d : Nat} {Q : Option Value → ai_H → Prop} {h : ai_H} {x1 x2 x3 y0 y1 : Int32} {o4 : Option Value} (kt : y1 ≤ y0 → RC d 17 Q 52 [some (.ref 0), some (.int x1), some (.int x2), some (.int x3), o4] [] h) (kf : ¬ y1 ≤ y0 → RC d 17 Q 11 [some (.ref 0), some (.int x1), some (.int x2), some (.int x3), o4] [] h) : RC d 17 Q 8 [some (.ref 0), some (.int x1), some (.int x2), some (.int x3), o4] [.int y1, .int y0] h := by
  by_cases c : y1 ≤ y0
  · obtain ⟨n, e⟩ := kt c
    exact Exists.intro (n + 1) (Or.inl (And.intro c e))
  · obtain ⟨n, e⟩ := kf c
    exact Exists.intro (n + 1) (Or.inr (And.intro c e))
theorem bC_17_11 {d : Nat} {Q : Option Value → ai_H → Prop} {h : ai_H} {x1 x2 x3 : Int32} {o4 : Option Value} (hi1 : vp_in ((x1 * 3) + x3) 36) (hi2 : vp_in (h 9 (Int32.toNatClampNeg ((x1 * 3) + x3))) 12) (kt : ¬ (((h 11 (Int32.toNatClampNeg (h 9 (Int32.toNatClampNeg ((x1 * 3) + x3))))) >>> (x2 &&& 31)) &&& 1) = 1 → RC d 17 Q 46 [some (.ref 0), some (.int x1), some (.int x2), some (.int x3), some (.int ((x1 * 3) + x3))] [] h) (kf : (((h 11 (Int32.toNatClampNeg (h 9 (Int32.toNatClampNeg ((x1 * 3) + x3))))) >>> (x2 &&& 31)) &&& 1) = 1 → RC d 17 Q 38 [some (.ref 0), some (.int x1), some (.int x2), some (.int x3), some (.int ((x1 * 3) + x3))] [] h) : RC d 17 Q 11 [some (.ref 0), some (.int x1), some (.int x2), some (.int x3), o4] [] h := by
  by_cases c : (((h 11 (Int32.toNatClampNeg (h 9 (Int32.toNatClampNeg ((x1 * 3) + x3))))) >>> (x2 &&& 31)) &&& 1) = 1
  · obtain ⟨n, e⟩ := kf c
    exact Exists.intro (n + 19) (Exists.intro _ (And.intro rfl (And.intro rfl (And.intro rfl (Exists.intro 36 (And.intro rfl (And.intro hi1 (Exists.intro 12 (And.intro rfl (And.intro hi2 (Or.inr (And.intro (fun z => z c) e))))))))))))
  · obtain ⟨n, e⟩ := kt c
    exact Exists.intro (n + 19) (Exists.intro _ (And.intro rfl (And.intro rfl (And.intro rfl (Exists.intro 36 (And.intro rfl (And.intro hi1 (Exists.intro 12 (And.intro rfl (And.intro hi2 (Or.inl (And.intro c e))))))))))))
theorem bC_17_38 {d : Nat} {Q : Option Value → ai_H → Prop} {h : ai_H} {x1 x2 x3 x4 : Int32} (hi1 : vp_in x4 36) (k : Q (some (.int (h 8 (Int32.toNatClampNeg x4)))) h) : RC d 17 Q 38 [some (.ref 0), some (.int x1), some (.int x2), some (.int x3), some (.int x4)] [] h := Exists.intro 5 (And.intro rfl (Exists.intro 36 (And.intro rfl (And.intro hi1 (And.intro (Or.inl rfl) k)))))
theorem bC_17_46 {d : Nat} {Q : Option Value → ai_H → Prop} {h : ai_H} {x1 x2 x3 x4 : Int32} (k : RC d 17 Q 2 [some (.ref 0), some (.int x1), some (.int x2), some (.int (x3 + 1)), some (.int x4)] [] h) : RC d 17 Q 46 [some (.ref 0), some (.int x1), some (.int x2), some (.int x3), some (.int x4)] [] h := by
  obtain ⟨n, e⟩ := k
  exact Exists.intro (n + 2) (Exists.intro _ (And.intro rfl (e)))
theorem bC_17_52 {d : Nat} {Q : Option Value → ai_H → Prop} {h : ai_H} {x1 x2 x3 : Int32} {o4 : Option Value} (k : Q (some (.int (-1))) h) : RC d 17 Q 52 [some (.ref 0), some (.int x1), some (.int x2), some (.int x3), o4] [] h := Exists.intro 2 (And.intro (Or.inl rfl) k)
theorem bC_18_0 {d : Nat} {Q : Option Value → ai_H → Prop} {h : ai_H} {x1 : Int32} (k : RC d 18 Q 4 [some (.ref 21), some (.int x1), some (.int x1), some (.int 0), none, none] [] h) : RC d 18 Q 0 [some (.ref 21), some (.int x1), none, none, none, none] [] h := by
  obtain ⟨n, e⟩ := k
  exact Exists.intro (n + 4) (Exists.intro _ (And.intro rfl (Exists.intro _ (And.intro rfl (e)))))
theorem bC_18_4 {d : Nat} {Q : Option Value → ai_H → Prop} {h h2 : ai_H} {x1 x2 x3 r : Int32} (hc : CC d 60 [.ref 12, .int x2] h (some (.int r)) h2) (k : RC d 18 Q 12 [some (.ref 21), some (.int x1), some (.int x2), some (.int x3), none, none] [.int r] h2) : RC d 18 Q 4 [some (.ref 21), some (.int x1), some (.int x2), some (.int x3), none, none] [] h := by
  obtain ⟨n, e⟩ := k
  exact Exists.intro (n + 4) (And.intro rfl (Exists.intro [.int x2] (Exists.intro 12 (Exists.intro [] (Exists.intro _ (Exists.intro (some (.int r)) (Exists.intro h2 (And.intro rfl (And.intro rfl (And.intro rfl (And.intro (Nat.le_of_ble_eq_true rfl) (And.intro hc e))))))))))))
theorem bC_18_12 {d : Nat} {Q : Option Value → ai_H → Prop} {h : ai_H} {x1 x2 x3 y0 : Int32} (kt : ¬ y0 = 4 → RC d 18 Q 38 [some (.ref 21), some (.int x1), some (.int x2), some (.int x3), none, none] [] h) (kf : y0 = 4 → RC d 18 Q 16 [some (.ref 21), some (.int x1), some (.int x2), some (.int x3), none, none] [] h) : RC d 18 Q 12 [some (.ref 21), some (.int x1), some (.int x2), some (.int x3), none, none] [.int y0] h := by
  by_cases c : y0 = 4
  · obtain ⟨n, e⟩ := kf c
    exact Exists.intro (n + 2) (Or.inr (And.intro (fun z => z c) e))
  · obtain ⟨n, e⟩ := kt c
    exact Exists.intro (n + 2) (Or.inl (And.intro c e))
theorem bC_18_16 {d : Nat} {Q : Option Value → ai_H → Prop} {h : ai_H} {x1 x2 x3 : Int32} (kt : 512 ≤ x3 → RC d 18 Q 38 [some (.ref 21), some (.int x1), some (.int x2), some (.int x3), none, none] [] h) (kf : ¬ 512 ≤ x3 → RC d 18 Q 23 [some (.ref 21), some (.int x1), some (.int x2), some (.int x3), none, none] [] h) : RC d 18 Q 16 [some (.ref 21), some (.int x1), some (.int x2), some (.int x3), none, none] [] h := by
  by_cases c : 512 ≤ x3
  · obtain ⟨n, e⟩ := kt c
    exact Exists.intro (n + 3) (Or.inl (And.intro c e))
  · obtain ⟨n, e⟩ := kf c
    exact Exists.intro (n + 3) (Or.inr (And.intro c e))
theorem bC_18_23 {d : Nat} {Q : Option Value → ai_H → Prop} {h h2 : ai_H} {x1 x2 x3 r : Int32} (hc : CC d 63 [.ref 12, .int x2] h (some (.int r)) h2) (k : RC d 18 Q 31 [some (.ref 21), some (.int x1), some (.int x2), some (.int x3), none, none] [.int r] h2) : RC d 18 Q 23 [some (.ref 21), some (.int x1), some (.int x2), some (.int x3), none, none] [] h := by
  obtain ⟨n, e⟩ := k
  exact Exists.intro (n + 4) (And.intro rfl (Exists.intro [.int x2] (Exists.intro 12 (Exists.intro [] (Exists.intro _ (Exists.intro (some (.int r)) (Exists.intro h2 (And.intro rfl (And.intro rfl (And.intro rfl (And.intro (Nat.le_of_ble_eq_true rfl) (And.intro hc e))))))))))))
theorem bC_18_31 {d : Nat} {Q : Option Value → ai_H → Prop} {h : ai_H} {x1 x2 x3 y0 : Int32} (k : RC d 18 Q 4 [some (.ref 21), some (.int x1), some (.int y0), some (.int (x3 + 1)), none, none] [] h) : RC d 18 Q 31 [some (.ref 21), some (.int x1), some (.int x2), some (.int x3), none, none] [.int y0] h := by
  obtain ⟨n, e⟩ := k
  exact Exists.intro (n + 3) (Exists.intro _ (And.intro rfl (Exists.intro _ (And.intro rfl (e)))))
theorem bC_18_38 {d : Nat} {Q : Option Value → ai_H → Prop} {h : ai_H} {x1 x2 x3 : Int32} (k : RC d 18 Q 41 [some (.ref 21), some (.int x1), some (.int x2), some (.int x3), some (.int 0), none] [] h) : RC d 18 Q 38 [some (.ref 21), some (.int x1), some (.int x2), some (.int x3), none, none] [] h := by
  obtain ⟨n, e⟩ := k
  exact Exists.intro (n + 2) (Exists.intro _ (And.intro rfl (e)))
theorem bC_18_41 {d : Nat} {Q : Option Value → ai_H → Prop} {h : ai_H} {x1 x2 x3 x4 : Int32} {o5 : Option Value} (kt : 3 < x4 → RC d 18 Q 105 [some (.ref 21), some (.int x1), some (.int x2), some (.int x3), some (.int x4), o5] [] h) (kf : ¬ 3 < x4 → RC d 18 Q 47 [some (.ref 21), some (.int x1), some (.int x2), some (.int x3), some (.int x4), o5] [] h) : RC d 18 Q 41 [some (.ref 21), some (.int x1), some (.int x2), some (.int x3), some (.int x4), o5] [] h := by
  by_cases c : 3 < x4
  · obtain ⟨n, e⟩ := kt c
    exact Exists.intro (n + 3) (Or.inl (And.intro c e))
  · obtain ⟨n, e⟩ := kf c
    exact Exists.intro (n + 3) (Or.inr (And.intro c e))
theorem bC_18_47 {d : Nat} {Q : Option Value → ai_H → Prop} {h h2 : ai_H} {x1 x2 x3 x4 r : Int32} {o5 : Option Value} (hc : CC d 60 [.ref 12, .int x2] h (some (.int r)) h2) (k : RC d 18 Q 55 [some (.ref 21), some (.int x1), some (.int x2), some (.int x3), some (.int x4), o5] [.int r] h2) : RC d 18 Q 47 [some (.ref 21), some (.int x1), some (.int x2), some (.int x3), some (.int x4), o5] [] h := by
  obtain ⟨n, e⟩ := k
  exact Exists.intro (n + 4) (And.intro rfl (Exists.intro [.int x2] (Exists.intro 12 (Exists.intro [] (Exists.intro _ (Exists.intro (some (.int r)) (Exists.intro h2 (And.intro rfl (And.intro rfl (And.intro rfl (And.intro (Nat.le_of_ble_eq_true rfl) (And.intro hc e))))))))))))
theorem bC_18_55 {d : Nat} {Q : Option Value → ai_H → Prop} {h : ai_H} {x1 x2 x3 x4 y0 : Int32} {o5 : Option Value} (kt : ¬ y0 = 3 → RC d 18 Q 105 [some (.ref 21), some (.int x1), some (.int x2), some (.int x3), some (.int x4), o5] [] h) (kf : y0 = 3 → RC d 18 Q 59 [some (.ref 21), some (.int x1), some (.int x2), some (.int x3), some (.int x4), o5] [] h) : RC d 18 Q 55 [some (.ref 21), some (.int x1), some (.int x2), some (.int x3), some (.int x4), o5] [.int y0] h := by
  by_cases c : y0 = 3
  · obtain ⟨n, e⟩ := kf c
    exact Exists.intro (n + 2) (Or.inr (And.intro (fun z => z c) e))
  · obtain ⟨n, e⟩ := kt c
    exact Exists.intro (n + 2) (Or.inl (And.intro c e))
theorem bC_18_59 {d : Nat} {Q : Option Value → ai_H → Prop} {h h2 : ai_H} {x1 x2 x3 x4 r : Int32} {o5 : Option Value} (hc : CC d 61 [.ref 12, .int x2] h (some (.int r)) h2) (k : RC d 18 Q 71 [some (.ref 21), some (.int x1), some (.int x2), some (.int x3), some (.int x4), o5] [.int r, .ref 0] h2) : RC d 18 Q 59 [some (.ref 21), some (.int x1), some (.int x2), some (.int x3), some (.int x4), o5] [] h := by
  obtain ⟨n, e⟩ := k
  exact Exists.intro (n + 6) (And.intro rfl (And.intro rfl (Exists.intro [.int x2] (Exists.intro 12 (Exists.intro [.ref 0] (Exists.intro _ (Exists.intro (some (.int r)) (Exists.intro h2 (And.intro rfl (And.intro rfl (And.intro rfl (And.intro (Nat.le_of_ble_eq_true rfl) (And.intro hc e)))))))))))))
theorem bC_18_71 {d : Nat} {Q : Option Value → ai_H → Prop} {h h2 : ai_H} {x1 x2 x3 x4 y1 r : Int32} {o5 : Option Value} (hc : CC d 62 [.ref 12, .int x2] h (some (.int r)) h2) (k : RC d 18 Q 79 [some (.ref 21), some (.int x1), some (.int x2), some (.int x3), some (.int x4), o5] [.int r, .int y1, .ref 0] h2) : RC d 18 Q 71 [some (.ref 21), some (.int x1), some (.int x2), some (.int x3), some (.int x4), o5] [.int y1, .ref 0] h := by
  obtain ⟨n, e⟩ := k
  exact Exists.intro (n + 4) (And.intro rfl (Exists.intro [.int x2] (Exists.intro 12 (Exists.intro [.int y1, .ref 0] (Exists.intro _ (Exists.intro (some (.int r)) (Exists.intro h2 (And.intro rfl (And.intro rfl (And.intro rfl (And.intro (Nat.le_of_ble_eq_true rfl) (And.intro hc e))))))))))))
theorem bC_18_79 {d : Nat} {Q : Option Value → ai_H → Prop} {h h2 : ai_H} {x1 x2 x3 x4 y1 y2 r : Int32} {o5 : Option Value} (hc : CC d 11 [.ref 0, .int y1, .int y2, .int 0] h (some (.int r)) h2) (k : RC d 18 Q 83 [some (.ref 21), some (.int x1), some (.int x2), some (.int x3), some (.int x4), o5] [.int r] h2) : RC d 18 Q 79 [some (.ref 21), some (.int x1), some (.int x2), some (.int x3), some (.int x4), o5] [.int y2, .int y1, .ref 0] h := by
  obtain ⟨n, e⟩ := k
  exact Exists.intro (n + 2) (Exists.intro [.int y1, .int y2, .int 0] (Exists.intro 0 (Exists.intro [] (Exists.intro _ (Exists.intro (some (.int r)) (Exists.intro h2 (And.intro rfl (And.intro rfl (And.intro rfl (And.intro (Nat.le_of_ble_eq_true rfl) (And.intro hc e)))))))))))
theorem bC_18_83 {d : Nat} {Q : Option Value → ai_H → Prop} {h : ai_H} {x1 x2 x3 x4 y0 : Int32} {o5 : Option Value} (kt : ¬ y0 = (-1) → RC d 18 Q 96 [some (.ref 21), some (.int x1), some (.int x2), some (.int x3), some (.int x4), some (.int y0)] [] h) (kf : y0 = (-1) → RC d 18 Q 91 [some (.ref 21), some (.int x1), some (.int x2), some (.int x3), some (.int x4), some (.int y0)] [] h) : RC d 18 Q 83 [some (.ref 21), some (.int x1), some (.int x2), some (.int x3), some (.int x4), o5] [.int y0] h := by
  by_cases c : y0 = (-1)
  · obtain ⟨n, e⟩ := kf c
    exact Exists.intro (n + 4) (Exists.intro _ (And.intro rfl (Or.inr (And.intro (fun z => z c) e))))
  · obtain ⟨n, e⟩ := kt c
    exact Exists.intro (n + 4) (Exists.intro _ (And.intro rfl (Or.inl (And.intro c e))))
theorem bC_18_91 {d : Nat} {Q : Option Value → ai_H → Prop} {h : ai_H} {x1 x2 x3 x4 x5 : Int32} (k : RC d 18 Q 98 [some (.ref 21), some (.int x1), some (.int x2), some (.int x3), some (.int x4), some (.int x5)] [.int 10] h) : RC d 18 Q 91 [some (.ref 21), some (.int x1), some (.int x2), some (.int x3), some (.int x4), some (.int x5)] [] h := by
  obtain ⟨n, e⟩ := k
  exact Exists.intro (n + 2) (e)
theorem bC_18_96 {d : Nat} {Q : Option Value → ai_H → Prop} {h : ai_H} {x1 x2 x3 x4 x5 : Int32} (k : RC d 18 Q 98 [some (.ref 21), some (.int x1), some (.int x2), some (.int x3), some (.int x4), some (.int x5)] [.int x5] h) : RC d 18 Q 96 [some (.ref 21), some (.int x1), some (.int x2), some (.int x3), some (.int x4), some (.int x5)] [] h := by
  obtain ⟨n, e⟩ := k
  exact Exists.intro (n + 1) (e)
theorem bC_18_98 {d : Nat} {Q : Option Value → ai_H → Prop} {h : ai_H} {x1 x2 x3 x4 x5 y0 : Int32} (k : RC d 18 Q 41 [some (.ref 21), some (.int x1), some (.int y0), some (.int x3), some (.int (x4 + 1)), some (.int x5)] [] h) : RC d 18 Q 98 [some (.ref 21), some (.int x1), some (.int x2), some (.int x3), some (.int x4), some (.int x5)] [.int y0] h := by
  obtain ⟨n, e⟩ := k
  exact Exists.intro (n + 3) (Exists.intro _ (And.intro rfl (Exists.intro _ (And.intro rfl (e)))))
theorem bC_18_105 {d : Nat} {Q : Option Value → ai_H → Prop} {h h2 : ai_H} {x1 x2 x3 x4 r : Int32} {o5 : Option Value} (hc : CC d 60 [.ref 12, .int x2] h (some (.int r)) h2) (k : RC d 18 Q 113 [some (.ref 21), some (.int x1), some (.int x2), some (.int x3), some (.int x4), o5] [.int r] h2) : RC d 18 Q 105 [some (.ref 21), some (.int x1), some (.int x2), some (.int x3), some (.int x4), o5] [] h := by
  obtain ⟨n, e⟩ := k
  exact Exists.intro (n + 4) (And.intro rfl (Exists.intro [.int x2] (Exists.intro 12 (Exists.intro [] (Exists.intro _ (Exists.intro (some (.int r)) (Exists.intro h2 (And.intro rfl (And.intro rfl (And.intro rfl (And.intro (Nat.le_of_ble_eq_true rfl) (And.intro hc e))))))))))))
theorem bC_18_113 {d : Nat} {Q : Option Value → ai_H → Prop} {h : ai_H} {x1 x2 x3 x4 y0 : Int32} {o5 : Option Value} (kt : ¬ y0 = 5 → RC d 18 Q 174 [some (.ref 21), some (.int x1), some (.int x2), some (.int x3), some (.int x4), o5] [] h) (kf : y0 = 5 → RC d 18 Q 117 [some (.ref 21), some (.int x1), some (.int x2), some (.int x3), some (.int x4), o5] [] h) : RC d 18 Q 113 [some (.ref 21), some (.int x1), some (.int x2), some (.int x3), some (.int x4), o5] [.int y0] h := by
  by_cases c : y0 = 5
  · obtain ⟨n, e⟩ := kf c
    exact Exists.intro (n + 2) (Or.inr (And.intro (fun z => z c) e))
  · obtain ⟨n, e⟩ := kt c
    exact Exists.intro (n + 2) (Or.inl (And.intro c e))
theorem bC_18_117 {d : Nat} {Q : Option Value → ai_H → Prop} {h h2 : ai_H} {x1 x2 x3 x4 r : Int32} {o5 : Option Value} (hc : CC d 61 [.ref 12, .int x2] h (some (.int r)) h2) (k : RC d 18 Q 125 [some (.ref 21), some (.int x1), some (.int x2), some (.int x3), some (.int x4), o5] [.int r] h2) : RC d 18 Q 117 [some (.ref 21), some (.int x1), some (.int x2), some (.int x3), some (.int x4), o5] [] h := by
  obtain ⟨n, e⟩ := k
  exact Exists.intro (n + 4) (And.intro rfl (Exists.intro [.int x2] (Exists.intro 12 (Exists.intro [] (Exists.intro _ (Exists.intro (some (.int r)) (Exists.intro h2 (And.intro rfl (And.intro rfl (And.intro rfl (And.intro (Nat.le_of_ble_eq_true rfl) (And.intro hc e))))))))))))
theorem bC_18_125 {d : Nat} {Q : Option Value → ai_H → Prop} {h : ai_H} {x1 x2 x3 x4 y0 : Int32} {o5 : Option Value} (k : RC d 18 Q 132 [some (.ref 21), some (.int x1), some (.int (-1)), some (.int x3), some (.int y0), some (.int 0)] [] h) : RC d 18 Q 125 [some (.ref 21), some (.int x1), some (.int x2), some (.int x3), some (.int x4), o5] [.int y0] h := by
  obtain ⟨n, e⟩ := k
  exact Exists.intro (n + 5) (Exists.intro _ (And.intro rfl (Exists.intro _ (And.intro rfl (Exists.intro _ (And.intro rfl (e)))))))
theorem bC_18_132 {d : Nat} {Q : Option Value → ai_H → Prop} {h : ai_H} {x1 x2 x3 x4 x5 : Int32} (kt : x4 < x5 → RC d 18 Q 174 [some (.ref 21), some (.int x1), some (.int x2), some (.int x3), some (.int x4), some (.int x5)] [] h) (kf : ¬ x4 < x5 → RC d 18 Q 139 [some (.ref 21), some (.int x1), some (.int x2), some (.int x3), some (.int x4), some (.int x5)] [] h) : RC d 18 Q 132 [some (.ref 21), some (.int x1), some (.int x2), some (.int x3), some (.int x4), some (.int x5)] [] h := by
  by_cases c : x4 < x5
  · obtain ⟨n, e⟩ := kt c
    exact Exists.intro (n + 3) (Or.inl (And.intro c e))
  · obtain ⟨n, e⟩ := kf c
    exact Exists.intro (n + 3) (Or.inr (And.intro c e))
theorem bC_18_139 {d : Nat} {Q : Option Value → ai_H → Prop} {h h2 : ai_H} {x1 x2 x3 x4 x5 r : Int32} (hc : CC d 7 [.ref 0, .int x4, .int x5] h (some (.int r)) h2) (k : RC d 18 Q 150 [some (.ref 21), some (.int x1), some (.int x2), some (.int x3), some (.int x4), some (.int x5)] [.int r] h2) : RC d 18 Q 139 [some (.ref 21), some (.int x1), some (.int x2), some (.int x3), some (.int x4), some (.int x5)] [] h := by
  obtain ⟨n, e⟩ := k
  exact Exists.intro (n + 5) (And.intro rfl (Exists.intro [.int x4, .int x5] (Exists.intro 0 (Exists.intro [] (Exists.intro _ (Exists.intro (some (.int r)) (Exists.intro h2 (And.intro rfl (And.intro rfl (And.intro rfl (And.intro (Nat.le_of_ble_eq_true rfl) (And.intro hc e))))))))))))
theorem bC_18_150 {d : Nat} {Q : Option Value → ai_H → Prop} {h : ai_H} {x1 x2 x3 x4 x5 y0 : Int32} (kt : y0 = 0 → RC d 18 Q 168 [some (.ref 21), some (.int x1), some (.int x2), some (.int x3), some (.int x4), some (.int x5)] [] h) (kf : ¬ y0 = 0 → RC d 18 Q 153 [some (.ref 21), some (.int x1), some (.int x2), some (.int x3), some (.int x4), some (.int x5)] [] h) : RC d 18 Q 150 [some (.ref 21), some (.int x1), some (.int x2), some (.int x3), some (.int x4), some (.int x5)] [.int y0] h := by
  by_cases c : y0 = 0
  · obtain ⟨n, e⟩ := kt c
    exact Exists.intro (n + 1) (Or.inl (And.intro c e))
  · obtain ⟨n, e⟩ := kf c
    exact Exists.intro (n + 1) (Or.inr (And.intro c e))
theorem bC_18_153 {d : Nat} {Q : Option Value → ai_H → Prop} {h h2 : ai_H} {x1 x2 x3 x4 x5 r : Int32} (hc : CC d 74 [.ref 12, .int 5, .int x5, .int x2, .int (-1), .int (-1), .int (-1)] h (some (.int r)) h2) (k : RC d 18 Q 167 [some (.ref 21), some (.int x1), some (.int x2), some (.int x3), some (.int x4), some (.int x5)] [.int r] h2) : RC d 18 Q 153 [some (.ref 21), some (.int x1), some (.int x2), some (.int x3), some (.int x4), some (.int x5)] [] h := by
  obtain ⟨n, e⟩ := k
  exact Exists.intro (n + 9) (And.intro rfl (Exists.intro [.int 5, .int x5, .int x2, .int (-1), .int (-1), .int (-1)] (Exists.intro 12 (Exists.intro [] (Exists.intro _ (Exists.intro (some (.int r)) (Exists.intro h2 (And.intro rfl (And.intro rfl (And.intro rfl (And.intro (Nat.le_of_ble_eq_true rfl) (And.intro hc e))))))))))))
theorem bC_18_167 {d : Nat} {Q : Option Value → ai_H → Prop} {h : ai_H} {x1 x2 x3 x4 x5 y0 : Int32} (k : RC d 18 Q 168 [some (.ref 21), some (.int x1), some (.int y0), some (.int x3), some (.int x4), some (.int x5)] [] h) : RC d 18 Q 167 [some (.ref 21), some (.int x1), some (.int x2), some (.int x3), some (.int x4), some (.int x5)] [.int y0] h := by
  obtain ⟨n, e⟩ := k
  exact Exists.intro (n + 1) (Exists.intro _ (And.intro rfl (e)))
theorem bC_18_168 {d : Nat} {Q : Option Value → ai_H → Prop} {h : ai_H} {x1 x2 x3 x4 x5 : Int32} (k : RC d 18 Q 132 [some (.ref 21), some (.int x1), some (.int x2), some (.int x3), some (.int x4), some (.int (x5 + 1))] [] h) : RC d 18 Q 168 [some (.ref 21), some (.int x1), some (.int x2), some (.int x3), some (.int x4), some (.int x5)] [] h := by
  obtain ⟨n, e⟩ := k
  exact Exists.intro (n + 2) (Exists.intro _ (And.intro rfl (e)))
theorem bC_18_174 {d : Nat} {Q : Option Value → ai_H → Prop} {h : ai_H} {x1 x2 x3 x4 : Int32} {o5 : Option Value} (k : RC d 18 Q 177 [some (.ref 21), some (.int x1), some (.int x2), some (.int x3), some (.int 0), o5] [] h) : RC d 18 Q 174 [some (.ref 21), some (.int x1), some (.int x2), some (.int x3), some (.int x4), o5] [] h := by
  obtain ⟨n, e⟩ := k
  exact Exists.intro (n + 2) (Exists.intro _ (And.intro rfl (e)))
theorem bC_18_177 {d : Nat} {Q : Option Value → ai_H → Prop} {h : ai_H} {x1 x2 x3 x4 : Int32} {o5 : Option Value} (kt : x3 ≤ x4 → RC d 18 Q 203 [some (.ref 21), some (.int x1), some (.int x2), some (.int x3), some (.int x4), o5] [] h) (kf : ¬ x3 ≤ x4 → RC d 18 Q 183 [some (.ref 21), some (.int x1), some (.int x2), some (.int x3), some (.int x4), o5] [] h) : RC d 18 Q 177 [some (.ref 21), some (.int x1), some (.int x2), some (.int x3), some (.int x4), o5] [] h := by
  by_cases c : x3 ≤ x4
  · obtain ⟨n, e⟩ := kt c
    exact Exists.intro (n + 3) (Or.inl (And.intro c e))
  · obtain ⟨n, e⟩ := kf c
    exact Exists.intro (n + 3) (Or.inr (And.intro c e))
theorem bC_18_183 {d : Nat} {Q : Option Value → ai_H → Prop} {h h2 : ai_H} {x1 x2 x3 x4 r : Int32} {o5 : Option Value} (hc : CC d 74 [.ref 12, .int 4, .int (-1), .int x2, .int (-1), .int (-1), .int (-1)] h (some (.int r)) h2) (k : RC d 18 Q 196 [some (.ref 21), some (.int x1), some (.int x2), some (.int x3), some (.int x4), o5] [.int r] h2) : RC d 18 Q 183 [some (.ref 21), some (.int x1), some (.int x2), some (.int x3), some (.int x4), o5] [] h := by
  obtain ⟨n, e⟩ := k
  exact Exists.intro (n + 9) (And.intro rfl (Exists.intro [.int 4, .int (-1), .int x2, .int (-1), .int (-1), .int (-1)] (Exists.intro 12 (Exists.intro [] (Exists.intro _ (Exists.intro (some (.int r)) (Exists.intro h2 (And.intro rfl (And.intro rfl (And.intro rfl (And.intro (Nat.le_of_ble_eq_true rfl) (And.intro hc e))))))))))))
theorem bC_18_196 {d : Nat} {Q : Option Value → ai_H → Prop} {h : ai_H} {x1 x2 x3 x4 y0 : Int32} {o5 : Option Value} (k : RC d 18 Q 177 [some (.ref 21), some (.int x1), some (.int y0), some (.int x3), some (.int (x4 + 1)), o5] [] h) : RC d 18 Q 196 [some (.ref 21), some (.int x1), some (.int x2), some (.int x3), some (.int x4), o5] [.int y0] h := by
  obtain ⟨n, e⟩ := k
  exact Exists.intro (n + 3) (Exists.intro _ (And.intro rfl (Exists.intro _ (And.intro rfl (e)))))
theorem bC_18_203 {d : Nat} {Q : Option Value → ai_H → Prop} {h : ai_H} {x1 x2 x3 x4 : Int32} {o5 : Option Value} (k : Q (some (.int x2)) h) : RC d 18 Q 203 [some (.ref 21), some (.int x1), some (.int x2), some (.int x3), some (.int x4), o5] [] h := Exists.intro 2 (And.intro (Or.inl rfl) k)
theorem bC_19_0 {d : Nat} {Q : Option Value → ai_H → Prop} {h h2 : ai_H} {x1 x2 x3 r : Int32} (hc : CC d 67 [.ref 12, .int x2] h (some (.int r)) h2) (k : RC d 19 Q 8 [some (.ref 21), some (.int x1), some (.int x2), some (.int x3), none, none, none, none] [.int r] h2) : RC d 19 Q 0 [some (.ref 21), some (.int x1), some (.int x2), some (.int x3), none, none, none, none] [] h := by
  obtain ⟨n, e⟩ := k
  exact Exists.intro (n + 4) (And.intro rfl (Exists.intro [.int x2] (Exists.intro 12 (Exists.intro [] (Exists.intro _ (Exists.intro (some (.int r)) (Exists.intro h2 (And.intro rfl (And.intro rfl (And.intro rfl (And.intro (Nat.le_of_ble_eq_true rfl) (And.intro hc e))))))))))))
theorem bC_19_8 {d : Nat} {Q : Option Value → ai_H → Prop} {h : ai_H} {x1 x2 x3 y0 : Int32} (kt : y0 = 0 → RC d 19 Q 17 [some (.ref 21), some (.int x1), some (.int x2), some (.int x3), none, none, none, none] [] h) (kf : ¬ y0 = 0 → RC d 19 Q 11 [some (.ref 21), some (.int x1), some (.int x2), some (.int x3), none, none, none, none] [] h) : RC d 19 Q 8 [some (.ref 21), some (.int x1), some (.int x2), some (.int x3), none, none, none, none] [.int y0] h := by
  by_cases c : y0 = 0
  · obtain ⟨n, e⟩ := kt c
    exact Exists.intro (n + 1) (Or.inl (And.intro c e))
  · obtain ⟨n, e⟩ := kf c
    exact Exists.intro (n + 1) (Or.inr (And.intro c e))
theorem bC_19_11 {d : Nat} {Q : Option Value → ai_H → Prop} {h h2 : ai_H} {x1 x2 x3 r : Int32} (hc : CC d 18 [.ref 21, .int x1] h (some (.int r)) h2) (k : RC d 19 Q 16 [some (.ref 21), some (.int x1), some (.int x2), some (.int x3), none, none, none, none] [.int r] h2) : RC d 19 Q 11 [some (.ref 21), some (.int x1), some (.int x2), some (.int x3), none, none, none, none] [] h := by
  obtain ⟨n, e⟩ := k
  exact Exists.intro (n + 3) (Exists.intro [.int x1] (Exists.intro 21 (Exists.intro [] (Exists.intro _ (Exists.intro (some (.int r)) (Exists.intro h2 (And.intro rfl (And.intro rfl (And.intro rfl (And.intro (Nat.le_of_ble_eq_true rfl) (And.intro hc e)))))))))))
theorem bC_19_16 {d : Nat} {Q : Option Value → ai_H → Prop} {h : ai_H} {x1 x2 x3 y0 : Int32} (k : Q (some (.int y0)) h) : RC d 19 Q 16 [some (.ref 21), some (.int x1), some (.int x2), some (.int x3), none, none, none, none] [.int y0] h := Exists.intro 1 (And.intro (Or.inl rfl) k)
theorem bC_19_17 {d : Nat} {Q : Option Value → ai_H → Prop} {h h2 : ai_H} {x1 x2 x3 r : Int32} (hc : CC d 68 [.ref 12, .int x1] h (some (.int r)) h2) (k : RC d 19 Q 25 [some (.ref 21), some (.int x1), some (.int x2), some (.int x3), none, none, none, none] [.int r] h2) : RC d 19 Q 17 [some (.ref 21), some (.int x1), some (.int x2), some (.int x3), none, none, none, none] [] h := by
  obtain ⟨n, e⟩ := k
  exact Exists.intro (n + 4) (And.intro rfl (Exists.intro [.int x1] (Exists.intro 12 (Exists.intro [] (Exists.intro _ (Exists.intro (some (.int r)) (Exists.intro h2 (And.intro rfl (And.intro rfl (And.intro rfl (And.intro (Nat.le_of_ble_eq_true rfl) (And.intro hc e))))))))))))
theorem bC_19_25 {d : Nat} {Q : Option Value → ai_H → Prop} {h : ai_H} {x1 x2 x3 y0 : Int32} (kt : y0 = 0 → RC d 19 Q 34 [some (.ref 21), some (.int x1), some (.int x2), some (.int x3), none, none, none, none] [] h) (kf : ¬ y0 = 0 → RC d 19 Q 28 [some (.ref 21), some (.int x1), some (.int x2), some (.int x3), none, none, none, none] [] h) : RC d 19 Q 25 [some (.ref 21), some (.int x1), some (.int x2), some (.int x3), none, none, none, none] [.int y0] h := by
  by_cases c : y0 = 0
  · obtain ⟨n, e⟩ := kt c
    exact Exists.intro (n + 1) (Or.inl (And.intro c e))
  · obtain ⟨n, e⟩ := kf c
    exact Exists.intro (n + 1) (Or.inr (And.intro c e))
theorem bC_19_28 {d : Nat} {Q : Option Value → ai_H → Prop} {h : ai_H} {x1 x2 x3 : Int32} (kt : x3 ≤ 64 → RC d 19 Q 36 [some (.ref 21), some (.int x1), some (.int x2), some (.int x3), none, none, none, none] [] h) (kf : ¬ x3 ≤ 64 → RC d 19 Q 34 [some (.ref 21), some (.int x1), some (.int x2), some (.int x3), none, none, none, none] [] h) : RC d 19 Q 28 [some (.ref 21), some (.int x1), some (.int x2), some (.int x3), none, none, none, none] [] h := by
  by_cases c : x3 ≤ 64
  · obtain ⟨n, e⟩ := kt c
    exact Exists.intro (n + 3) (Or.inl (And.intro c e))
  · obtain ⟨n, e⟩ := kf c
    exact Exists.intro (n + 3) (Or.inr (And.intro c e))
theorem bC_19_34 {d : Nat} {Q : Option Value → ai_H → Prop} {h : ai_H} {x1 x2 x3 : Int32} (k : Q (some (.int x1)) h) : RC d 19 Q 34 [some (.ref 21), some (.int x1), some (.int x2), some (.int x3), none, none, none, none] [] h := Exists.intro 2 (And.intro (Or.inl rfl) k)
theorem bC_19_36 {d : Nat} {Q : Option Value → ai_H → Prop} {h h2 : ai_H} {x1 x2 x3 r : Int32} (hc : CC d 60 [.ref 12, .int x1] h (some (.int r)) h2) (k : RC d 19 Q 44 [some (.ref 21), some (.int x1), some (.int x2), some (.int x3), none, none, none, none] [.int r] h2) : RC d 19 Q 36 [some (.ref 21), some (.int x1), some (.int x2), some (.int x3), none, none, none, none] [] h := by
  obtain ⟨n, e⟩ := k
  exact Exists.intro (n + 4) (And.intro rfl (Exists.intro [.int x1] (Exists.intro 12 (Exists.intro [] (Exists.intro _ (Exists.intro (some (.int r)) (Exists.intro h2 (And.intro rfl (And.intro rfl (And.intro rfl (And.intro (Nat.le_of_ble_eq_true rfl) (And.intro hc e))))))))))))
theorem bC_19_44 {d : Nat} {Q : Option Value → ai_H → Prop} {h : ai_H} {x1 x2 x3 y0 : Int32} (kt : ¬ y0 = 3 → RC d 19 Q 96 [some (.ref 21), some (.int x1), some (.int x2), some (.int x3), none, none, none, none] [] h) (kf : y0 = 3 → RC d 19 Q 48 [some (.ref 21), some (.int x1), some (.int x2), some (.int x3), none, none, none, none] [] h) : RC d 19 Q 44 [some (.ref 21), some (.int x1), some (.int x2), some (.int x3), none, none, none, none] [.int y0] h := by
  by_cases c : y0 = 3
  · obtain ⟨n, e⟩ := kf c
    exact Exists.intro (n + 2) (Or.inr (And.intro (fun z => z c) e))
  · obtain ⟨n, e⟩ := kt c
    exact Exists.intro (n + 2) (Or.inl (And.intro c e))
theorem bC_19_48 {d : Nat} {Q : Option Value → ai_H → Prop} {h h2 : ai_H} {x1 x2 x3 r : Int32} (hc : CC d 21 [.ref 21, .int x1, .int x2] h (some (.int r)) h2) (k : RC d 19 Q 54 [some (.ref 21), some (.int x1), some (.int x2), some (.int x3), none, none, none, none] [.int r] h2) : RC d 19 Q 48 [some (.ref 21), some (.int x1), some (.int x2), some (.int x3), none, none, none, none] [] h := by
  obtain ⟨n, e⟩ := k
  exact Exists.intro (n + 4) (Exists.intro [.int x1, .int x2] (Exists.intro 21 (Exists.intro [] (Exists.intro _ (Exists.intro (some (.int r)) (Exists.intro h2 (And.intro rfl (And.intro rfl (And.intro rfl (And.intro (Nat.le_of_ble_eq_true rfl) (And.intro hc e)))))))))))
theorem bC_19_54 {d : Nat} {Q : Option Value → ai_H → Prop} {h h2 : ai_H} {x1 x2 x3 y0 r : Int32} (hc : CC d 97 [.int y0] h (some (.int r)) h2) (k : RC d 19 Q 61 [some (.ref 21), some (.int x1), some (.int x2), some (.int x3), some (.int y0), none, none, none] [.int r] h2) : RC d 19 Q 54 [some (.ref 21), some (.int x1), some (.int x2), some (.int x3), none, none, none, none] [.int y0] h := by
  obtain ⟨n, e⟩ := k
  exact Exists.intro (n + 3) (Exists.intro _ (And.intro rfl (Exists.intro [.int y0] (Exists.intro [] (Exists.intro (some (.int r)) (Exists.intro h2 (And.intro rfl (And.intro rfl (And.intro (Nat.le_of_ble_eq_true rfl) (And.intro hc e))))))))))
theorem bC_19_61 {d : Nat} {Q : Option Value → ai_H → Prop} {h : ai_H} {x1 x2 x3 x4 y0 : Int32} (kt : ¬ x4 = (-1) → RC d 19 Q 71 [some (.ref 21), some (.int x1), some (.int x2), some (.int x3), some (.int x4), some (.int y0), none, none] [] h) (kf : x4 = (-1) → RC d 19 Q 69 [some (.ref 21), some (.int x1), some (.int x2), some (.int x3), some (.int x4), some (.int y0), none, none] [] h) : RC d 19 Q 61 [some (.ref 21), some (.int x1), some (.int x2), some (.int x3), some (.int x4), none, none, none] [.int y0] h := by
  by_cases c : x4 = (-1)
  · obtain ⟨n, e⟩ := kf c
    exact Exists.intro (n + 4) (Exists.intro _ (And.intro rfl (Or.inr (And.intro (fun z => z c) e))))
  · obtain ⟨n, e⟩ := kt c
    exact Exists.intro (n + 4) (Exists.intro _ (And.intro rfl (Or.inl (And.intro c e))))
theorem bC_19_69 {d : Nat} {Q : Option Value → ai_H → Prop} {h : ai_H} {x1 x2 x3 x4 x5 : Int32} (k : Q (some (.int x1)) h) : RC d 19 Q 69 [some (.ref 21), some (.int x1), some (.int x2), some (.int x3), some (.int x4), some (.int x5), none, none] [] h := Exists.intro 2 (And.intro (Or.inl rfl) k)
theorem bC_19_71 {d : Nat} {Q : Option Value → ai_H → Prop} {h : ai_H} {x1 x2 x3 x4 x5 : Int32} (kt : x5 = 0 → RC d 19 Q 82 [some (.ref 21), some (.int x1), some (.int x2), some (.int x3), some (.int x4), some (.int x5), none, none] [] h) (kf : ¬ x5 = 0 → RC d 19 Q 76 [some (.ref 21), some (.int x1), some (.int x2), some (.int x3), some (.int x4), some (.int x5), none, none] [] h) : RC d 19 Q 71 [some (.ref 21), some (.int x1), some (.int x2), some (.int x3), some (.int x4), some (.int x5), none, none] [] h := by
  by_cases c : x5 = 0
  · obtain ⟨n, e⟩ := kt c
    exact Exists.intro (n + 2) (Or.inl (And.intro c e))
  · obtain ⟨n, e⟩ := kf c
    exact Exists.intro (n + 2) (Or.inr (And.intro c e))
theorem bC_19_76 {d : Nat} {Q : Option Value → ai_H → Prop} {h : ai_H} {x1 x2 x3 x4 x5 : Int32} (kt : ¬ x5 = 1 → RC d 19 Q 90 [some (.ref 21), some (.int x1), some (.int x2), some (.int x3), some (.int x4), some (.int x5), none, none] [] h) (kf : x5 = 1 → RC d 19 Q 82 [some (.ref 21), some (.int x1), some (.int x2), some (.int x3), some (.int x4), some (.int x5), none, none] [] h) : RC d 19 Q 76 [some (.ref 21), some (.int x1), some (.int x2), some (.int x3), some (.int x4), some (.int x5), none, none] [] h := by
  by_cases c : x5 = 1
  · obtain ⟨n, e⟩ := kf c
    exact Exists.intro (n + 3) (Or.inr (And.intro (fun z => z c) e))
  · obtain ⟨n, e⟩ := kt c
    exact Exists.intro (n + 3) (Or.inl (And.intro c e))
theorem bC_19_82 {d : Nat} {Q : Option Value → ai_H → Prop} {h h2 : ai_H} {x1 x2 x3 x4 x5 r : Int32} (hc : CC d 98 [.int x4] h (some (.int r)) h2) (k : RC d 19 Q 87 [some (.ref 21), some (.int x1), some (.int x2), some (.int x3), some (.int x4), some (.int x5), none, none] [.int r] h2) : RC d 19 Q 82 [some (.ref 21), some (.int x1), some (.int x2), some (.int x3), some (.int x4), some (.int x5), none, none] [] h := by
  obtain ⟨n, e⟩ := k
  exact Exists.intro (n + 2) (Exists.intro [.int x4] (Exists.intro [] (Exists.intro (some (.int r)) (Exists.intro h2 (And.intro rfl (And.intro rfl (And.intro (Nat.le_of_ble_eq_true rfl) (And.intro hc e))))))))
theorem bC_19_87 {d : Nat} {Q : Option Value → ai_H → Prop} {h : ai_H} {x1 x2 x3 x4 x5 y0 : Int32} (k : RC d 19 Q 95 [some (.ref 21), some (.int x1), some (.int x2), some (.int x3), some (.int x4), some (.int x5), none, none] [.int y0] h) : RC d 19 Q 87 [some (.ref 21), some (.int x1), some (.int x2), some (.int x3), some (.int x4), some (.int x5), none, none] [.int y0] h := by
  obtain ⟨n, e⟩ := k
  exact Exists.intro (n + 1) (e)
theorem bC_19_90 {d : Nat} {Q : Option Value → ai_H → Prop} {h h2 : ai_H} {x1 x2 x3 x4 x5 r : Int32} (hc : CC d 18 [.ref 21, .int x1] h (some (.int r)) h2) (k : RC d 19 Q 95 [some (.ref 21), some (.int x1), some (.int x2), some (.int x3), some (.int x4), some (.int x5), none, none] [.int r] h2) : RC d 19 Q 90 [some (.ref 21), some (.int x1), some (.int x2), some (.int x3), some (.int x4), some (.int x5), none, none] [] h := by
  obtain ⟨n, e⟩ := k
  exact Exists.intro (n + 3) (Exists.intro [.int x1] (Exists.intro 21 (Exists.intro [] (Exists.intro _ (Exists.intro (some (.int r)) (Exists.intro h2 (And.intro rfl (And.intro rfl (And.intro rfl (And.intro (Nat.le_of_ble_eq_true rfl) (And.intro hc e)))))))))))
theorem bC_19_95 {d : Nat} {Q : Option Value → ai_H → Prop} {h : ai_H} {x1 x2 x3 x4 x5 y0 : Int32} (k : Q (some (.int y0)) h) : RC d 19 Q 95 [some (.ref 21), some (.int x1), some (.int x2), some (.int x3), some (.int x4), some (.int x5), none, none] [.int y0] h := Exists.intro 1 (And.intro (Or.inl rfl) k)
theorem bC_19_96 {d : Nat} {Q : Option Value → ai_H → Prop} {h h2 : ai_H} {x1 x2 x3 r : Int32} (hc : CC d 60 [.ref 12, .int x1] h (some (.int r)) h2) (k : RC d 19 Q 104 [some (.ref 21), some (.int x1), some (.int x2), some (.int x3), none, none, none, none] [.int r] h2) : RC d 19 Q 96 [some (.ref 21), some (.int x1), some (.int x2), some (.int x3), none, none, none, none] [] h := by
  obtain ⟨n, e⟩ := k
  exact Exists.intro (n + 4) (And.intro rfl (Exists.intro [.int x1] (Exists.intro 12 (Exists.intro [] (Exists.intro _ (Exists.intro (some (.int r)) (Exists.intro h2 (And.intro rfl (And.intro rfl (And.intro rfl (And.intro (Nat.le_of_ble_eq_true rfl) (And.intro hc e))))))))))))
theorem bC_19_104 {d : Nat} {Q : Option Value → ai_H → Prop} {h : ai_H} {x1 x2 x3 y0 : Int32} (kt : ¬ y0 = 4 → RC d 19 Q 141 [some (.ref 21), some (.int x1), some (.int x2), some (.int x3), none, none, none, none] [] h) (kf : y0 = 4 → RC d 19 Q 108 [some (.ref 21), some (.int x1), some (.int x2), some (.int x3), none, none, none, none] [] h) : RC d 19 Q 104 [some (.ref 21), some (.int x1), some (.int x2), some (.int x3), none, none, none, none] [.int y0] h := by
  by_cases c : y0 = 4
  · obtain ⟨n, e⟩ := kf c
    exact Exists.intro (n + 2) (Or.inr (And.intro (fun z => z c) e))
  · obtain ⟨n, e⟩ := kt c
    exact Exists.intro (n + 2) (Or.inl (And.intro c e))
theorem bC_19_108 {d : Nat} {Q : Option Value → ai_H → Prop} {h h2 : ai_H} {x1 x2 x3 r : Int32} (hc : CC d 63 [.ref 12, .int x1] h (some (.int r)) h2) (k : RC d 19 Q 117 [some (.ref 21), some (.int x1), some (.int x2), some (.int x3), none, none, none, none] [.int r, .ref 21] h2) : RC d 19 Q 108 [some (.ref 21), some (.int x1), some (.int x2), some (.int x3), none, none, none, none] [] h := by
  obtain ⟨n, e⟩ := k
  exact Exists.intro (n + 5) (And.intro rfl (Exists.intro [.int x1] (Exists.intro 12 (Exists.intro [.ref 21] (Exists.intro _ (Exists.intro (some (.int r)) (Exists.intro h2 (And.intro rfl (And.intro rfl (And.intro rfl (And.intro (Nat.le_of_ble_eq_true rfl) (And.intro hc e))))))))))))
theorem bC_19_117 {d : Nat} {Q : Option Value → ai_H → Prop} {h h2 : ai_H} {x1 x2 x3 y1 r : Int32} (hc : CC d 19 [.ref 21, .int y1, .int x2, .int (x3 + 1)] h (some (.int r)) h2) (k : RC d 19 Q 124 [some (.ref 21), some (.int x1), some (.int x2), some (.int x3), none, none, none, none] [.int r] h2) : RC d 19 Q 117 [some (.ref 21), some (.int x1), some (.int x2), some (.int x3), none, none, none, none] [.int y1, .ref 21] h := by
  obtain ⟨n, e⟩ := k
  exact Exists.intro (n + 5) (Exists.intro [.int y1, .int x2, .int (x3 + 1)] (Exists.intro 21 (Exists.intro [] (Exists.intro _ (Exists.intro (some (.int r)) (Exists.intro h2 (And.intro rfl (And.intro rfl (And.intro rfl (And.intro (Nat.le_of_ble_eq_true rfl) (And.intro hc e)))))))))))
theorem bC_19_124 {d : Nat} {Q : Option Value → ai_H → Prop} {h h2 : ai_H} {x1 x2 x3 y0 r : Int32} (hc : CC d 74 [.ref 12, .int 4, .int (-1), .int y0, .int (-1), .int (-1), .int (-1)] h (some (.int r)) h2) (k : RC d 19 Q 140 [some (.ref 21), some (.int x1), some (.int x2), some (.int x3), some (.int y0), none, none, none] [.int r] h2) : RC d 19 Q 124 [some (.ref 21), some (.int x1), some (.int x2), some (.int x3), none, none, none, none] [.int y0] h := by
  obtain ⟨n, e⟩ := k
  exact Exists.intro (n + 10) (Exists.intro _ (And.intro rfl (And.intro rfl (Exists.intro [.int 4, .int (-1), .int y0, .int (-1), .int (-1), .int (-1)] (Exists.intro 12 (Exists.intro [] (Exists.intro _ (Exists.intro (some (.int r)) (Exists.intro h2 (And.intro rfl (And.intro rfl (And.intro rfl (And.intro (Nat.le_of_ble_eq_true rfl) (And.intro hc e))))))))))))))
theorem bC_19_140 {d : Nat} {Q : Option Value → ai_H → Prop} {h : ai_H} {x1 x2 x3 x4 y0 : Int32} (k : Q (some (.int y0)) h) : RC d 19 Q 140 [some (.ref 21), some (.int x1), some (.int x2), some (.int x3), some (.int x4), none, none, none] [.int y0] h := Exists.intro 1 (And.intro (Or.inl rfl) k)
theorem bC_19_141 {d : Nat} {Q : Option Value → ai_H → Prop} {h h2 : ai_H} {x1 x2 x3 r : Int32} (hc : CC d 64 [.ref 12, .int x1] h (some (.int r)) h2) (k : RC d 19 Q 150 [some (.ref 21), some (.int x1), some (.int x2), some (.int x3), none, none, none, none] [.int r, .ref 21] h2) : RC d 19 Q 141 [some (.ref 21), some (.int x1), some (.int x2), some (.int x3), none, none, none, none] [] h := by
  obtain ⟨n, e⟩ := k
  exact Exists.intro (n + 5) (And.intro rfl (Exists.intro [.int x1] (Exists.intro 12 (Exists.intro [.ref 21] (Exists.intro _ (Exists.intro (some (.int r)) (Exists.intro h2 (And.intro rfl (And.intro rfl (And.intro rfl (And.intro (Nat.le_of_ble_eq_true rfl) (And.intro hc e))))))))))))
theorem bC_19_150 {d : Nat} {Q : Option Value → ai_H → Prop} {h h2 : ai_H} {x1 x2 x3 y1 r : Int32} (hc : CC d 19 [.ref 21, .int y1, .int x2, .int (x3 + 1)] h (some (.int r)) h2) (k : RC d 19 Q 157 [some (.ref 21), some (.int x1), some (.int x2), some (.int x3), none, none, none, none] [.int r] h2) : RC d 19 Q 150 [some (.ref 21), some (.int x1), some (.int x2), some (.int x3), none, none, none, none] [.int y1, .ref 21] h := by
  obtain ⟨n, e⟩ := k
  exact Exists.intro (n + 5) (Exists.intro [.int y1, .int x2, .int (x3 + 1)] (Exists.intro 21 (Exists.intro [] (Exists.intro _ (Exists.intro (some (.int r)) (Exists.intro h2 (And.intro rfl (And.intro rfl (And.intro rfl (And.intro (Nat.le_of_ble_eq_true rfl) (And.intro hc e)))))))))))
theorem bC_19_157 {d : Nat} {Q : Option Value → ai_H → Prop} {h h2 : ai_H} {x1 x2 x3 y0 r : Int32} (hc : CC d 65 [.ref 12, .int x1, .int 0] h (some (.int r)) h2) (k : RC d 19 Q 169 [some (.ref 21), some (.int x1), some (.int x2), some (.int x3), some (.int y0), none, none, none] [.int r, .ref 21] h2) : RC d 19 Q 157 [some (.ref 21), some (.int x1), some (.int x2), some (.int x3), none, none, none, none] [.int y0] h := by
  obtain ⟨n, e⟩ := k
  exact Exists.intro (n + 7) (Exists.intro _ (And.intro rfl (And.intro rfl (Exists.intro [.int x1, .int 0] (Exists.intro 12 (Exists.intro [.ref 21] (Exists.intro _ (Exists.intro (some (.int r)) (Exists.intro h2 (And.intro rfl (And.intro rfl (And.intro rfl (And.intro (Nat.le_of_ble_eq_true rfl) (And.intro hc e))))))))))))))
theorem bC_19_169 {d : Nat} {Q : Option Value → ai_H → Prop} {h h2 : ai_H} {x1 x2 x3 x4 y1 r : Int32} (hc : CC d 20 [.ref 21, .int y1, .int x2, .int x3] h (some (.int r)) h2) (k : RC d 19 Q 174 [some (.ref 21), some (.int x1), some (.int x2), some (.int x3), some (.int x4), none, none, none] [.int r] h2) : RC d 19 Q 169 [some (.ref 21), some (.int x1), some (.int x2), some (.int x3), some (.int x4), none, none, none] [.int y1, .ref 21] h := by
  obtain ⟨n, e⟩ := k
  exact Exists.intro (n + 3) (Exists.intro [.int y1, .int x2, .int x3] (Exists.intro 21 (Exists.intro [] (Exists.intro _ (Exists.intro (some (.int r)) (Exists.intro h2 (And.intro rfl (And.intro rfl (And.intro rfl (And.intro (Nat.le_of_ble_eq_true rfl) (And.intro hc e)))))))))))
theorem bC_19_174 {d : Nat} {Q : Option Value → ai_H → Prop} {h h2 : ai_H} {x1 x2 x3 x4 y0 r : Int32} (hc : CC d 65 [.ref 12, .int x1, .int 1] h (some (.int r)) h2) (k : RC d 19 Q 186 [some (.ref 21), some (.int x1), some (.int x2), some (.int x3), some (.int x4), some (.int y0), none, none] [.int r, .ref 21] h2) : RC d 19 Q 174 [some (.ref 21), some (.int x1), some (.int x2), some (.int x3), some (.int x4), none, none, none] [.int y0] h := by
  obtain ⟨n, e⟩ := k
  exact Exists.intro (n + 7) (Exists.intro _ (And.intro rfl (And.intro rfl (Exists.intro [.int x1, .int 1] (Exists.intro 12 (Exists.intro [.ref 21] (Exists.intro _ (Exists.intro (some (.int r)) (Exists.intro h2 (And.intro rfl (And.intro rfl (And.intro rfl (And.intro (Nat.le_of_ble_eq_true rfl) (And.intro hc e))))))))))))))
theorem bC_19_186 {d : Nat} {Q : Option Value → ai_H → Prop} {h h2 : ai_H} {x1 x2 x3 x4 x5 y1 r : Int32} (hc : CC d 20 [.ref 21, .int y1, .int x2, .int x3] h (some (.int r)) h2) (k : RC d 19 Q 191 [some (.ref 21), some (.int x1), some (.int x2), some (.int x3), some (.int x4), some (.int x5), none, none] [.int r] h2) : RC d 19 Q 186 [some (.ref 21), some (.int x1), some (.int x2), some (.int x3), some (.int x4), some (.int x5), none, none] [.int y1, .ref 21] h := by
  obtain ⟨n, e⟩ := k
  exact Exists.intro (n + 3) (Exists.intro [.int y1, .int x2, .int x3] (Exists.intro 21 (Exists.intro [] (Exists.intro _ (Exists.intro (some (.int r)) (Exists.intro h2 (And.intro rfl (And.intro rfl (And.intro rfl (And.intro (Nat.le_of_ble_eq_true rfl) (And.intro hc e)))))))))))
theorem bC_19_191 {d : Nat} {Q : Option Value → ai_H → Prop} {h h2 : ai_H} {x1 x2 x3 x4 x5 y0 r : Int32} (hc : CC d 65 [.ref 12, .int x1, .int 2] h (some (.int r)) h2) (k : RC d 19 Q 203 [some (.ref 21), some (.int x1), some (.int x2), some (.int x3), some (.int x4), some (.int x5), some (.int y0), none] [.int r, .ref 21] h2) : RC d 19 Q 191 [some (.ref 21), some (.int x1), some (.int x2), some (.int x3), some (.int x4), some (.int x5), none, none] [.int y0] h := by
  obtain ⟨n, e⟩ := k
  exact Exists.intro (n + 7) (Exists.intro _ (And.intro rfl (And.intro rfl (Exists.intro [.int x1, .int 2] (Exists.intro 12 (Exists.intro [.ref 21] (Exists.intro _ (Exists.intro (some (.int r)) (Exists.intro h2 (And.intro rfl (And.intro rfl (And.intro rfl (And.intro (Nat.le_of_ble_eq_true rfl) (And.intro hc e))))))))))))))
theorem bC_19_203 {d : Nat} {Q : Option Value → ai_H → Prop} {h h2 : ai_H} {x1 x2 x3 x4 x5 x6 y1 r : Int32} (hc : CC d 20 [.ref 21, .int y1, .int x2, .int x3] h (some (.int r)) h2) (k : RC d 19 Q 208 [some (.ref 21), some (.int x1), some (.int x2), some (.int x3), some (.int x4), some (.int x5), some (.int x6), none] [.int r] h2) : RC d 19 Q 203 [some (.ref 21), some (.int x1), some (.int x2), some (.int x3), some (.int x4), some (.int x5), some (.int x6), none] [.int y1, .ref 21] h := by
  obtain ⟨n, e⟩ := k
  exact Exists.intro (n + 3) (Exists.intro [.int y1, .int x2, .int x3] (Exists.intro 21 (Exists.intro [] (Exists.intro _ (Exists.intro (some (.int r)) (Exists.intro h2 (And.intro rfl (And.intro rfl (And.intro rfl (And.intro (Nat.le_of_ble_eq_true rfl) (And.intro hc e)))))))))))
theorem bC_19_208 {d : Nat} {Q : Option Value → ai_H → Prop} {h h2 : ai_H} {x1 x2 x3 x4 x5 x6 y0 r : Int32} (hc : CC d 61 [.ref 12, .int x1] h (some (.int r)) h2) (k : RC d 19 Q 223 [some (.ref 21), some (.int x1), some (.int x2), some (.int x3), some (.int x4), some (.int x5), some (.int x6), some (.int y0)] [.int r, .int 5, .ref 12] h2) : RC d 19 Q 208 [some (.ref 21), some (.int x1), some (.int x2), some (.int x3), some (.int x4), some (.int x5), some (.int x6), none] [.int y0] h := by
  obtain ⟨n, e⟩ := k
  exact Exists.intro (n + 8) (Exists.intro _ (And.intro rfl (And.intro rfl (And.intro rfl (Exists.intro [.int x1] (Exists.intro 12 (Exists.intro [.int 5, .ref 12] (Exists.intro _ (Exists.intro (some (.int r)) (Exists.intro h2 (And.intro rfl (And.intro rfl (And.intro rfl (And.intro (Nat.le_of_ble_eq_true rfl) (And.intro hc e)))))))))))))))
theorem bC_19_223 {d : Nat} {Q : Option Value → ai_H → Prop} {h h2 : ai_H} {x1 x2 x3 x4 x5 x6 x7 y1 y2 r : Int32} (hc : CC d 74 [.ref 12, .int y1, .int y2, .int x4, .int x5, .int x6, .int x7] h (some (.int r)) h2) (k : RC d 19 Q 234 [some (.ref 21), some (.int x1), some (.int x2), some (.int x3), some (.int x4), some (.int x5), some (.int x6), some (.int x7)] [.int r] h2) : RC d 19 Q 223 [some (.ref 21), some (.int x1), some (.int x2), some (.int x3), some (.int x4), some (.int x5), some (.int x6), some (.int x7)] [.int y2, .int y1, .ref 12] h := by
  obtain ⟨n, e⟩ := k
  exact Exists.intro (n + 5) (Exists.intro [.int y1, .int y2, .int x4, .int x5, .int x6, .int x7] (Exists.intro 12 (Exists.intro [] (Exists.intro _ (Exists.intro (some (.int r)) (Exists.intro h2 (And.intro rfl (And.intro rfl (And.intro rfl (And.intro (Nat.le_of_ble_eq_true rfl) (And.intro hc e)))))))))))
theorem bC_19_234 {d : Nat} {Q : Option Value → ai_H → Prop} {h : ai_H} {x1 x2 x3 x4 x5 x6 x7 y0 : Int32} (k : Q (some (.int y0)) h) : RC d 19 Q 234 [some (.ref 21), some (.int x1), some (.int x2), some (.int x3), some (.int x4), some (.int x5), some (.int x6), some (.int x7)] [.int y0] h := Exists.intro 1 (And.intro (Or.inl rfl) k)
theorem bC_20_0 {d : Nat} {Q : Option Value → ai_H → Prop} {h h2 : ai_H} {x1 x2 x3 r : Int32} (hc : CC d 98 [.int x1] h (some (.int r)) h2) (k : RC d 20 Q 4 [some (.ref 21), some (.int x1), some (.int x2), some (.int x3), none, none] [.int r] h2) : RC d 20 Q 0 [some (.ref 21), some (.int x1), some (.int x2), some (.int x3), none, none] [] h := by
  obtain ⟨n, e⟩ := k
  exact Exists.intro (n + 2) (Exists.intro [.int x1] (Exists.intro [] (Exists.intro (some (.int r)) (Exists.intro h2 (And.intro rfl (And.intro rfl (And.intro (Nat.le_of_ble_eq_true rfl) (And.intro hc e))))))))
theorem bC_20_4 {d : Nat} {Q : Option Value → ai_H → Prop} {h : ai_H} {x1 x2 x3 y0 : Int32} (kt : ¬ y0 = (-1) → RC d 20 Q 14 [some (.ref 21), some (.int x1), some (.int x2), some (.int x3), some (.int y0), none] [] h) (kf : y0 = (-1) → RC d 20 Q 12 [some (.ref 21), some (.int x1), some (.int x2), some (.int x3), some (.int y0), none] [] h) : RC d 20 Q 4 [some (.ref 21), some (.int x1), some (.int x2), some (.int x3), none, none] [.int y0] h := by
  by_cases c : y0 = (-1)
  · obtain ⟨n, e⟩ := kf c
    exact Exists.intro (n + 4) (Exists.intro _ (And.intro rfl (Or.inr (And.intro (fun z => z c) e))))
  · obtain ⟨n, e⟩ := kt c
    exact Exists.intro (n + 4) (Exists.intro _ (And.intro rfl (Or.inl (And.intro c e))))
theorem bC_20_12 {d : Nat} {Q : Option Value → ai_H → Prop} {h : ai_H} {x1 x2 x3 x4 : Int32} (k : Q (some (.int x1)) h) : RC d 20 Q 12 [some (.ref 21), some (.int x1), some (.int x2), some (.int x3), some (.int x4), none] [] h := Exists.intro 2 (And.intro (Or.inl rfl) k)
theorem bC_20_14 {d : Nat} {Q : Option Value → ai_H → Prop} {h h2 : ai_H} {x1 x2 x3 x4 r : Int32} (hc : CC d 60 [.ref 12, .int x4] h (some (.int r)) h2) (k : RC d 20 Q 23 [some (.ref 21), some (.int x1), some (.int x2), some (.int x3), some (.int x4), none] [.int r] h2) : RC d 20 Q 14 [some (.ref 21), some (.int x1), some (.int x2), some (.int x3), some (.int x4), none] [] h := by
  obtain ⟨n, e⟩ := k
  exact Exists.intro (n + 4) (And.intro rfl (Exists.intro [.int x4] (Exists.intro 12 (Exists.intro [] (Exists.intro _ (Exists.intro (some (.int r)) (Exists.intro h2 (And.intro rfl (And.intro rfl (And.intro rfl (And.intro (Nat.le_of_ble_eq_true rfl) (And.intro hc e))))))))))))
theorem bC_20_23 {d : Nat} {Q : Option Value → ai_H → Prop} {h : ai_H} {x1 x2 x3 x4 y0 : Int32} (kt : y0 = 3 → RC d 20 Q 45 [some (.ref 21), some (.int x1), some (.int x2), some (.int x3), some (.int x4), none] [] h) (kf : ¬ y0 = 3 → RC d 20 Q 27 [some (.ref 21), some (.int x1), some (.int x2), some (.int x3), some (.int x4), none] [] h) : RC d 20 Q 23 [some (.ref 21), some (.int x1), some (.int x2), some (.int x3), some (.int x4), none] [.int y0] h := by
  by_cases c : y0 = 3
  · obtain ⟨n, e⟩ := kt c
    exact Exists.intro (n + 2) (Or.inl (And.intro c e))
  · obtain ⟨n, e⟩ := kf c
    exact Exists.intro (n + 2) (Or.inr (And.intro c e))
theorem bC_20_27 {d : Nat} {Q : Option Value → ai_H → Prop} {h h2 : ai_H} {x1 x2 x3 x4 r : Int32} (hc : CC d 97 [.int x1] h (some (.int r)) h2) (k : RC d 20 Q 31 [some (.ref 21), some (.int x1), some (.int x2), some (.int x3), some (.int x4), none] [.int r] h2) : RC d 20 Q 27 [some (.ref 21), some (.int x1), some (.int x2), some (.int x3), some (.int x4), none] [] h := by
  obtain ⟨n, e⟩ := k
  exact Exists.intro (n + 2) (Exists.intro [.int x1] (Exists.intro [] (Exists.intro (some (.int r)) (Exists.intro h2 (And.intro rfl (And.intro rfl (And.intro (Nat.le_of_ble_eq_true rfl) (And.intro hc e))))))))
theorem bC_20_31 {d : Nat} {Q : Option Value → ai_H → Prop} {h h2 : ai_H} {x1 x2 x3 x4 y0 r : Int32} (hc : CC d 19 [.ref 21, .int x4, .int x2, .int (x3 + 1)] h (some (.int r)) h2) (k : RC d 20 Q 41 [some (.ref 21), some (.int x1), some (.int x2), some (.int x3), some (.int x4), none] [.int r, .int y0] h2) : RC d 20 Q 31 [some (.ref 21), some (.int x1), some (.int x2), some (.int x3), some (.int x4), none] [.int y0] h := by
  obtain ⟨n, e⟩ := k
  exact Exists.intro (n + 7) (Exists.intro [.int x4, .int x2, .int (x3 + 1)] (Exists.intro 21 (Exists.intro [.int y0] (Exists.intro _ (Exists.intro (some (.int r)) (Exists.intro h2 (And.intro rfl (And.intro rfl (And.intro rfl (And.intro (Nat.le_of_ble_eq_true rfl) (And.intro hc e)))))))))))
theorem bC_20_41 {d : Nat} {Q : Option Value → ai_H → Prop} {h h2 : ai_H} {x1 x2 x3 x4 y0 y1 r : Int32} (hc : CC d 96 [.int y0, .int y1] h (some (.int r)) h2) (k : RC d 20 Q 44 [some (.ref 21), some (.int x1), some (.int x2), some (.int x3), some (.int x4), none] [.int r] h2) : RC d 20 Q 41 [some (.ref 21), some (.int x1), some (.int x2), some (.int x3), some (.int x4), none] [.int y1, .int y0] h := by
  obtain ⟨n, e⟩ := k
  exact Exists.intro (n + 1) (Exists.intro [.int y0, .int y1] (Exists.intro [] (Exists.intro (some (.int r)) (Exists.intro h2 (And.intro rfl (And.intro rfl (And.intro (Nat.le_of_ble_eq_true rfl) (And.intro hc e))))))))
theorem bC_20_44 {d : Nat} {Q : Option Value → ai_H → Prop} {h : ai_H} {x1 x2 x3 x4 y0 : Int32} (k : Q (some (.int y0)) h) : RC d 20 Q 44 [some (.ref 21), some (.int x1), some (.int x2), some (.int x3), some (.int x4), none] [.int y0] h := Exists.intro 1 (And.intro (Or.inl rfl) k)
theorem bC_20_45 {d : Nat} {Q : Option Value → ai_H → Prop} {h h2 : ai_H} {x1 x2 x3 x4 r : Int32} (hc : CC d 21 [.ref 21, .int x4, .int x2] h (some (.int r)) h2) (k : RC d 20 Q 52 [some (.ref 21), some (.int x1), some (.int x2), some (.int x3), some (.int x4), none] [.int r] h2) : RC d 20 Q 45 [some (.ref 21), some (.int x1), some (.int x2), some (.int x3), some (.int x4), none] [] h := by
  obtain ⟨n, e⟩ := k
  exact Exists.intro (n + 4) (Exists.intro [.int x4, .int x2] (Exists.intro 21 (Exists.intro [] (Exists.intro _ (Exists.intro (some (.int r)) (Exists.intro h2 (And.intro rfl (And.intro rfl (And.intro rfl (And.intro (Nat.le_of_ble_eq_true rfl) (And.intro hc e)))))))))))
theorem bC_20_52 {d : Nat} {Q : Option Value → ai_H → Prop} {h : ai_H} {x1 x2 x3 x4 y0 : Int32} (kt : ¬ y0 = (-1) → RC d 20 Q 64 [some (.ref 21), some (.int x1), some (.int x2), some (.int x3), some (.int x4), some (.int y0)] [] h) (kf : y0 = (-1) → RC d 20 Q 60 [some (.ref 21), some (.int x1), some (.int x2), some (.int x3), some (.int x4), some (.int y0)] [] h) : RC d 20 Q 52 [some (.ref 21), some (.int x1), some (.int x2), some (.int x3), some (.int x4), none] [.int y0] h := by
  by_cases c : y0 = (-1)
  · obtain ⟨n, e⟩ := kf c
    exact Exists.intro (n + 4) (Exists.intro _ (And.intro rfl (Or.inr (And.intro (fun z => z c) e))))
  · obtain ⟨n, e⟩ := kt c
    exact Exists.intro (n + 4) (Exists.intro _ (And.intro rfl (Or.inl (And.intro c e))))
theorem bC_20_60 {d : Nat} {Q : Option Value → ai_H → Prop} {h : ai_H} {x1 x2 x3 x4 x5 : Int32} (k : RC d 20 Q 73 [some (.ref 21), some (.int x1), some (.int x2), some (.int x3), some (.int x4), some (.int x5)] [.int x1] h) : RC d 20 Q 60 [some (.ref 21), some (.int x1), some (.int x2), some (.int x3), some (.int x4), some (.int x5)] [] h := by
  obtain ⟨n, e⟩ := k
  exact Exists.intro (n + 2) (e)
theorem bC_20_64 {d : Nat} {Q : Option Value → ai_H → Prop} {h h2 : ai_H} {x1 x2 x3 x4 x5 r : Int32} (hc : CC d 97 [.int x1] h (some (.int r)) h2) (k : RC d 20 Q 68 [some (.ref 21), some (.int x1), some (.int x2), some (.int x3), some (.int x4), some (.int x5)] [.int r] h2) : RC d 20 Q 64 [some (.ref 21), some (.int x1), some (.int x2), some (.int x3), some (.int x4), some (.int x5)] [] h := by
  obtain ⟨n, e⟩ := k
  exact Exists.intro (n + 2) (Exists.intro [.int x1] (Exists.intro [] (Exists.intro (some (.int r)) (Exists.intro h2 (And.intro rfl (And.intro rfl (And.intro (Nat.le_of_ble_eq_true rfl) (And.intro hc e))))))))
theorem bC_20_68 {d : Nat} {Q : Option Value → ai_H → Prop} {h h2 : ai_H} {x1 x2 x3 x4 x5 y0 r : Int32} (hc : CC d 22 [.int y0, .int x5] h (some (.int r)) h2) (k : RC d 20 Q 73 [some (.ref 21), some (.int x1), some (.int x2), some (.int x3), some (.int x4), some (.int x5)] [.int r] h2) : RC d 20 Q 68 [some (.ref 21), some (.int x1), some (.int x2), some (.int x3), some (.int x4), some (.int x5)] [.int y0] h := by
  obtain ⟨n, e⟩ := k
  exact Exists.intro (n + 2) (Exists.intro [.int y0, .int x5] (Exists.intro [] (Exists.intro (some (.int r)) (Exists.intro h2 (And.intro rfl (And.intro rfl (And.intro (Nat.le_of_ble_eq_true rfl) (And.intro hc e))))))))
theorem bC_20_73 {d : Nat} {Q : Option Value → ai_H → Prop} {h : ai_H} {x1 x2 x3 x4 x5 y0 : Int32} (k : Q (some (.int y0)) h) : RC d 20 Q 73 [some (.ref 21), some (.int x1), some (.int x2), some (.int x3), some (.int x4), some (.int x5)] [.int y0] h := Exists.intro 1 (And.intro (Or.inl rfl) k)
theorem bC_21_0 {d : Nat} {Q : Option Value → ai_H → Prop} {h : ai_H} {x1 x2 : Int32} (k : RC d 21 Q 5 [some (.ref 21), some (.int x1), some (.int x2), some (.int x2), some (.int 0)] [] h) : RC d 21 Q 0 [some (.ref 21), some (.int x1), some (.int x2), none, none] [] h := by
  obtain ⟨n, e⟩ := k
  exact Exists.intro (n + 4) (Exists.intro _ (And.intro rfl (Exists.intro _ (And.intro rfl (e)))))
theorem bC_21_5 {d : Nat} {Q : Option Value → ai_H → Prop} {h : ai_H} {x1 x2 x3 x4 : Int32} (kt : 12 ≤ x4 → RC d 21 Q 68 [some (.ref 21), some (.int x1), some (.int x2), some (.int x3), some (.int x4)] [] h) (kf : ¬ 12 ≤ x4 → RC d 21 Q 12 [some (.ref 21), some (.int x1), some (.int x2), some (.int x3), some (.int x4)] [] h) : RC d 21 Q 5 [some (.ref 21), some (.int x1), some (.int x2), some (.int x3), some (.int x4)] [] h := by
  by_cases c : 12 ≤ x4
  · obtain ⟨n, e⟩ := kt c
    exact Exists.intro (n + 3) (Or.inl (And.intro c e))
  · obtain ⟨n, e⟩ := kf c
    exact Exists.intro (n + 3) (Or.inr (And.intro c e))
theorem bC_21_12 {d : Nat} {Q : Option Value → ai_H → Prop} {h : ai_H} {x1 x2 x3 x4 : Int32} (kt : x3 = (-1) → RC d 21 Q 68 [some (.ref 21), some (.int x1), some (.int x2), some (.int x3), some (.int x4)] [] h) (kf : ¬ x3 = (-1) → RC d 21 Q 17 [some (.ref 21), some (.int x1), some (.int x2), some (.int x3), some (.int x4)] [] h) : RC d 21 Q 12 [some (.ref 21), some (.int x1), some (.int x2), some (.int x3), some (.int x4)] [] h := by
  by_cases c : x3 = (-1)
  · obtain ⟨n, e⟩ := kt c
    exact Exists.intro (n + 3) (Or.inl (And.intro c e))
  · obtain ⟨n, e⟩ := kf c
    exact Exists.intro (n + 3) (Or.inr (And.intro c e))
theorem bC_21_17 {d : Nat} {Q : Option Value → ai_H → Prop} {h h2 : ai_H} {x1 x2 x3 x4 r : Int32} (hc : CC d 61 [.ref 12, .int x3] h (some (.int r)) h2) (k : RC d 21 Q 25 [some (.ref 21), some (.int x1), some (.int x2), some (.int x3), some (.int x4)] [.int r] h2) : RC d 21 Q 17 [some (.ref 21), some (.int x1), some (.int x2), some (.int x3), some (.int x4)] [] h := by
  obtain ⟨n, e⟩ := k
  exact Exists.intro (n + 4) (And.intro rfl (Exists.intro [.int x3] (Exists.intro 12 (Exists.intro [] (Exists.intro _ (Exists.intro (some (.int r)) (Exists.intro h2 (And.intro rfl (And.intro rfl (And.intro rfl (And.intro (Nat.le_of_ble_eq_true rfl) (And.intro hc e))))))))))))
theorem bC_21_25 {d : Nat} {Q : Option Value → ai_H → Prop} {h h2 : ai_H} {x1 x2 x3 x4 y0 r : Int32} (hc : CC d 61 [.ref 12, .int x1] h (some (.int r)) h2) (k : RC d 21 Q 33 [some (.ref 21), some (.int x1), some (.int x2), some (.int x3), some (.int x4)] [.int r, .int y0] h2) : RC d 21 Q 25 [some (.ref 21), some (.int x1), some (.int x2), some (.int x3), some (.int x4)] [.int y0] h := by
  obtain ⟨n, e⟩ := k
  exact Exists.intro (n + 4) (And.intro rfl (Exists.intro [.int x1] (Exists.intro 12 (Exists.intro [.int y0] (Exists.intro _ (Exists.intro (some (.int r)) (Exists.intro h2 (And.intro rfl (And.intro rfl (And.intro rfl (And.intro (Nat.le_of_ble_eq_true rfl) (And.intro hc e))))))))))))
theorem bC_21_33 {d : Nat} {Q : Option Value → ai_H → Prop} {h : ai_H} {x1 x2 x3 x4 y0 y1 : Int32} (kt : ¬ y0 = y1 → RC d 21 Q 53 [some (.ref 21), some (.int x1), some (.int x2), some (.int x3), some (.int x4)] [] h) (kf : y0 = y1 → RC d 21 Q 36 [some (.ref 21), some (.int x1), some (.int x2), some (.int x3), some (.int x4)] [] h) : RC d 21 Q 33 [some (.ref 21), some (.int x1), some (.int x2), some (.int x3), some (.int x4)] [.int y1, .int y0] h := by
  by_cases c : y0 = y1
  · obtain ⟨n, e⟩ := kf c
    exact Exists.intro (n + 1) (Or.inr (And.intro (fun z => z c) e))
  · obtain ⟨n, e⟩ := kt c
    exact Exists.intro (n + 1) (Or.inl (And.intro c e))
theorem bC_21_36 {d : Nat} {Q : Option Value → ai_H → Prop} {h h2 : ai_H} {x1 x2 x3 x4 r : Int32} (hc : CC d 62 [.ref 12, .int x1] h (some (.int r)) h2) (k : RC d 21 Q 49 [some (.ref 21), some (.int x1), some (.int x2), some (.int x3), some (.int x4)] [.int r, .int x3, .ref 12] h2) : RC d 21 Q 36 [some (.ref 21), some (.int x1), some (.int x2), some (.int x3), some (.int x4)] [] h := by
  obtain ⟨n, e⟩ := k
  exact Exists.intro (n + 7) (And.intro rfl (And.intro rfl (Exists.intro [.int x1] (Exists.intro 12 (Exists.intro [.int x3, .ref 12] (Exists.intro _ (Exists.intro (some (.int r)) (Exists.intro h2 (And.intro rfl (And.intro rfl (And.intro rfl (And.intro (Nat.le_of_ble_eq_true rfl) (And.intro hc e)))))))))))))
theorem bC_21_49 {d : Nat} {Q : Option Value → ai_H → Prop} {h h2 : ai_H} {x1 x2 x3 x4 y1 y2 r : Int32} (hc : CC d 65 [.ref 12, .int y1, .int y2] h (some (.int r)) h2) (k : RC d 21 Q 52 [some (.ref 21), some (.int x1), some (.int x2), some (.int x3), some (.int x4)] [.int r] h2) : RC d 21 Q 49 [some (.ref 21), some (.int x1), some (.int x2), some (.int x3), some (.int x4)] [.int y2, .int y1, .ref 12] h := by
  obtain ⟨n, e⟩ := k
  exact Exists.intro (n + 1) (Exists.intro [.int y1, .int y2] (Exists.intro 12 (Exists.intro [] (Exists.intro _ (Exists.intro (some (.int r)) (Exists.intro h2 (And.intro rfl (And.intro rfl (And.intro rfl (And.intro (Nat.le_of_ble_eq_true rfl) (And.intro hc e)))))))))))
theorem bC_21_52 {d : Nat} {Q : Option Value → ai_H → Prop} {h : ai_H} {x1 x2 x3 x4 y0 : Int32} (k : Q (some (.int y0)) h) : RC d 21 Q 52 [some (.ref 21), some (.int x1), some (.int x2), some (.int x3), some (.int x4)] [.int y0] h := Exists.intro 1 (And.intro (Or.inl rfl) k)
theorem bC_21_53 {d : Nat} {Q : Option Value → ai_H → Prop} {h h2 : ai_H} {x1 x2 x3 x4 r : Int32} (hc : CC d 64 [.ref 12, .int x3] h (some (.int r)) h2) (k : RC d 21 Q 61 [some (.ref 21), some (.int x1), some (.int x2), some (.int x3), some (.int x4)] [.int r] h2) : RC d 21 Q 53 [some (.ref 21), some (.int x1), some (.int x2), some (.int x3), some (.int x4)] [] h := by
  obtain ⟨n, e⟩ := k
  exact Exists.intro (n + 4) (And.intro rfl (Exists.intro [.int x3] (Exists.intro 12 (Exists.intro [] (Exists.intro _ (Exists.intro (some (.int r)) (Exists.intro h2 (And.intro rfl (And.intro rfl (And.intro rfl (And.intro (Nat.le_of_ble_eq_true rfl) (And.intro hc e))))))))))))
theorem bC_21_61 {d : Nat} {Q : Option Value → ai_H → Prop} {h : ai_H} {x1 x2 x3 x4 y0 : Int32} (k : RC d 21 Q 5 [some (.ref 21), some (.int x1), some (.int x2), some (.int y0), some (.int (x4 + 1))] [] h) : RC d 21 Q 61 [some (.ref 21), some (.int x1), some (.int x2), some (.int x3), some (.int x4)] [.int y0] h := by
  obtain ⟨n, e⟩ := k
  exact Exists.intro (n + 3) (Exists.intro _ (And.intro rfl (Exists.intro _ (And.intro rfl (e)))))
theorem bC_21_68 {d : Nat} {Q : Option Value → ai_H → Prop} {h : ai_H} {x1 x2 x3 x4 : Int32} (k : Q (some (.int (-1))) h) : RC d 21 Q 68 [some (.ref 21), some (.int x1), some (.int x2), some (.int x3), some (.int x4)] [] h := Exists.intro 2 (And.intro (Or.inl rfl) k)
theorem bC_22_0 {d : Nat} {Q : Option Value → ai_H → Prop} {h : ai_H} {x0 x1 : Int32} (kt : ¬ x0 = 0 → RC d 22 Q 6 [some (.int x0), some (.int x1), none] [] h) (kf : x0 = 0 → RC d 22 Q 4 [some (.int x0), some (.int x1), none] [] h) : RC d 22 Q 0 [some (.int x0), some (.int x1), none] [] h := by
  by_cases c : x0 = 0
  · obtain ⟨n, e⟩ := kf c
    exact Exists.intro (n + 2) (Or.inr (And.intro (fun z => z c) e))
  · obtain ⟨n, e⟩ := kt c
    exact Exists.intro (n + 2) (Or.inl (And.intro c e))
theorem bC_22_4 {d : Nat} {Q : Option Value → ai_H → Prop} {h : ai_H} {x0 x1 : Int32} (k : Q (some (.int x1)) h) : RC d 22 Q 4 [some (.int x0), some (.int x1), none] [] h := Exists.intro 2 (And.intro (Or.inl rfl) k)
theorem bC_22_6 {d : Nat} {Q : Option Value → ai_H → Prop} {h h2 : ai_H} {x0 x1 r : Int32} (hc : CC d 97 [.int x1] h (some (.int r)) h2) (k : RC d 22 Q 10 [some (.int x0), some (.int x1), none] [.int r] h2) : RC d 22 Q 6 [some (.int x0), some (.int x1), none] [] h := by
  obtain ⟨n, e⟩ := k
  exact Exists.intro (n + 2) (Exists.intro [.int x1] (Exists.intro [] (Exists.intro (some (.int r)) (Exists.intro h2 (And.intro rfl (And.intro rfl (And.intro (Nat.le_of_ble_eq_true rfl) (And.intro hc e))))))))
theorem bC_22_10 {d : Nat} {Q : Option Value → ai_H → Prop} {h : ai_H} {x0 x1 y0 : Int32} (kt : y0 = 0 → RC d 22 Q 21 [some (.int x0), some (.int x1), none] [] h) (kf : ¬ y0 = 0 → RC d 22 Q 13 [some (.int x0), some (.int x1), none] [] h) : RC d 22 Q 10 [some (.int x0), some (.int x1), none] [.int y0] h := by
  by_cases c : y0 = 0
  · obtain ⟨n, e⟩ := kt c
    exact Exists.intro (n + 1) (Or.inl (And.intro c e))
  · obtain ⟨n, e⟩ := kf c
    exact Exists.intro (n + 1) (Or.inr (And.intro c e))
theorem bC_22_13 {d : Nat} {Q : Option Value → ai_H → Prop} {h h2 : ai_H} {x0 x1 r : Int32} (hc : CC d 97 [.int x1] h (some (.int r)) h2) (k : RC d 22 Q 17 [some (.int x0), some (.int x1), none] [.int r] h2) : RC d 22 Q 13 [some (.int x0), some (.int x1), none] [] h := by
  obtain ⟨n, e⟩ := k
  exact Exists.intro (n + 2) (Exists.intro [.int x1] (Exists.intro [] (Exists.intro (some (.int r)) (Exists.intro h2 (And.intro rfl (And.intro rfl (And.intro (Nat.le_of_ble_eq_true rfl) (And.intro hc e))))))))
theorem bC_22_17 {d : Nat} {Q : Option Value → ai_H → Prop} {h : ai_H} {x0 x1 y0 : Int32} (kt : ¬ y0 = x0 → RC d 22 Q 25 [some (.int x0), some (.int x1), none] [] h) (kf : y0 = x0 → RC d 22 Q 21 [some (.int x0), some (.int x1), none] [] h) : RC d 22 Q 17 [some (.int x0), some (.int x1), none] [.int y0] h := by
  by_cases c : y0 = x0
  · obtain ⟨n, e⟩ := kf c
    exact Exists.intro (n + 2) (Or.inr (And.intro (fun z => z c) e))
  · obtain ⟨n, e⟩ := kt c
    exact Exists.intro (n + 2) (Or.inl (And.intro c e))
theorem bC_22_21 {d : Nat} {Q : Option Value → ai_H → Prop} {h : ai_H} {x0 x1 : Int32} (k : RC d 22 Q 26 [some (.int x0), some (.int x1), none] [.int 1] h) : RC d 22 Q 21 [some (.int x0), some (.int x1), none] [] h := by
  obtain ⟨n, e⟩ := k
  exact Exists.intro (n + 2) (e)
theorem bC_22_25 {d : Nat} {Q : Option Value → ai_H → Prop} {h : ai_H} {x0 x1 : Int32} (k : RC d 22 Q 26 [some (.int x0), some (.int x1), none] [.int 0] h) : RC d 22 Q 25 [some (.int x0), some (.int x1), none] [] h := by
  obtain ⟨n, e⟩ := k
  exact Exists.intro (n + 1) (e)
theorem bC_22_26 {d : Nat} {Q : Option Value → ai_H → Prop} {h : ai_H} {x0 x1 y0 : Int32} (kt : y0 = 0 → RC d 22 Q 42 [some (.int x0), some (.int x1), some (.int y0)] [] h) (kf : ¬ y0 = 0 → RC d 22 Q 31 [some (.int x0), some (.int x1), some (.int y0)] [] h) : RC d 22 Q 26 [some (.int x0), some (.int x1), none] [.int y0] h := by
  by_cases c : y0 = 0
  · obtain ⟨n, e⟩ := kt c
    exact Exists.intro (n + 3) (Exists.intro _ (And.intro rfl (Or.inl (And.intro c e))))
  · obtain ⟨n, e⟩ := kf c
    exact Exists.intro (n + 3) (Exists.intro _ (And.intro rfl (Or.inr (And.intro c e))))
theorem bC_22_31 {d : Nat} {Q : Option Value → ai_H → Prop} {h h2 : ai_H} {x0 x1 x2 r : Int32} (hc : CC d 98 [.int x1] h (some (.int r)) h2) (k : RC d 22 Q 36 [some (.int x0), some (.int x1), some (.int x2)] [.int r, .int x0] h2) : RC d 22 Q 31 [some (.int x0), some (.int x1), some (.int x2)] [] h := by
  obtain ⟨n, e⟩ := k
  exact Exists.intro (n + 3) (Exists.intro [.int x1] (Exists.intro [.int x0] (Exists.intro (some (.int r)) (Exists.intro h2 (And.intro rfl (And.intro rfl (And.intro (Nat.le_of_ble_eq_true rfl) (And.intro hc e))))))))
theorem bC_22_36 {d : Nat} {Q : Option Value → ai_H → Prop} {h h2 : ai_H} {x0 x1 x2 y0 y1 r : Int32} (hc : CC d 96 [.int y0, .int y1] h (some (.int r)) h2) (k : RC d 22 Q 39 [some (.int x0), some (.int x1), some (.int x2)] [.int r] h2) : RC d 22 Q 36 [some (.int x0), some (.int x1), some (.int x2)] [.int y1, .int y0] h := by
  obtain ⟨n, e⟩ := k
  exact Exists.intro (n + 1) (Exists.intro [.int y0, .int y1] (Exists.intro [] (Exists.intro (some (.int r)) (Exists.intro h2 (And.intro rfl (And.intro rfl (And.intro (Nat.le_of_ble_eq_true rfl) (And.intro hc e))))))))
theorem bC_22_39 {d : Nat} {Q : Option Value → ai_H → Prop} {h : ai_H} {x0 x1 x2 y0 : Int32} (k : RC d 22 Q 43 [some (.int x0), some (.int x1), some (.int x2)] [.int y0] h) : RC d 22 Q 39 [some (.int x0), some (.int x1), some (.int x2)] [.int y0] h := by
  obtain ⟨n, e⟩ := k
  exact Exists.intro (n + 1) (e)
theorem bC_22_42 {d : Nat} {Q : Option Value → ai_H → Prop} {h : ai_H} {x0 x1 x2 : Int32} (k : RC d 22 Q 43 [some (.int x0), some (.int x1), some (.int x2)] [.int 3] h) : RC d 22 Q 42 [some (.int x0), some (.int x1), some (.int x2)] [] h := by
  obtain ⟨n, e⟩ := k
  exact Exists.intro (n + 1) (e)
theorem bC_22_43 {d : Nat} {Q : Option Value → ai_H → Prop} {h : ai_H} {x0 x1 x2 y0 : Int32} (k : Q (some (.int y0)) h) : RC d 22 Q 43 [some (.int x0), some (.int x1), some (.int x2)] [.int y0] h := Exists.intro 1 (And.intro (Or.inl rfl) k)
theorem bC_23_0 {d : Nat} {Q : Option Value → ai_H → Prop} {h : ai_H} {x1 x2 : Int32} (k : RC d 23 Q 5 [some (.ref 21), some (.int x1), some (.int x2), some (.int x1), some (.int 0), none] [] h) : RC d 23 Q 0 [some (.ref 21), some (.int x1), some (.int x2), none, none, none] [] h := by
  obtain ⟨n, e⟩ := k
  exact Exists.intro (n + 4) (Exists.intro _ (And.intro rfl (Exists.intro _ (And.intro rfl (e)))))
theorem bC_23_5 {d : Nat} {Q : Option Value → ai_H → Prop} {h : ai_H} {x1 x2 x3 x4 : Int32} {o5 : Option Value} (kt : 12 ≤ x4 → RC d 23 Q 67 [some (.ref 21), some (.int x1), some (.int x2), some (.int x3), some (.int x4), o5] [] h) (kf : ¬ 12 ≤ x4 → RC d 23 Q 12 [some (.ref 21), some (.int x1), some (.int x2), some (.int x3), some (.int x4), o5] [] h) : RC d 23 Q 5 [some (.ref 21), some (.int x1), some (.int x2), some (.int x3), some (.int x4), o5] [] h := by
  by_cases c : 12 ≤ x4
  · obtain ⟨n, e⟩ := kt c
    exact Exists.intro (n + 3) (Or.inl (And.intro c e))
  · obtain ⟨n, e⟩ := kf c
    exact Exists.intro (n + 3) (Or.inr (And.intro c e))
theorem bC_23_12 {d : Nat} {Q : Option Value → ai_H → Prop} {h h2 : ai_H} {x1 x2 x3 x4 r : Int32} {o5 : Option Value} (hc : CC d 61 [.ref 12, .int x3] h (some (.int r)) h2) (k : RC d 23 Q 20 [some (.ref 21), some (.int x1), some (.int x2), some (.int x3), some (.int x4), o5] [.int r] h2) : RC d 23 Q 12 [some (.ref 21), some (.int x1), some (.int x2), some (.int x3), some (.int x4), o5] [] h := by
  obtain ⟨n, e⟩ := k
  exact Exists.intro (n + 4) (And.intro rfl (Exists.intro [.int x3] (Exists.intro 12 (Exists.intro [] (Exists.intro _ (Exists.intro (some (.int r)) (Exists.intro h2 (And.intro rfl (And.intro rfl (And.intro rfl (And.intro (Nat.le_of_ble_eq_true rfl) (And.intro hc e))))))))))))
theorem bC_23_20 {d : Nat} {Q : Option Value → ai_H → Prop} {h : ai_H} {x1 x2 x3 x4 y0 : Int32} {o5 : Option Value} (kt : ¬ y0 = x2 → RC d 23 Q 26 [some (.ref 21), some (.int x1), some (.int x2), some (.int x3), some (.int x4), o5] [] h) (kf : y0 = x2 → RC d 23 Q 24 [some (.ref 21), some (.int x1), some (.int x2), some (.int x3), some (.int x4), o5] [] h) : RC d 23 Q 20 [some (.ref 21), some (.int x1), some (.int x2), some (.int x3), some (.int x4), o5] [.int y0] h := by
  by_cases c : y0 = x2
  · obtain ⟨n, e⟩ := kf c
    exact Exists.intro (n + 2) (Or.inr (And.intro (fun z => z c) e))
  · obtain ⟨n, e⟩ := kt c
    exact Exists.intro (n + 2) (Or.inl (And.intro c e))
theorem bC_23_24 {d : Nat} {Q : Option Value → ai_H → Prop} {h : ai_H} {x1 x2 x3 x4 : Int32} {o5 : Option Value} (k : Q (some (.int x3)) h) : RC d 23 Q 24 [some (.ref 21), some (.int x1), some (.int x2), some (.int x3), some (.int x4), o5] [] h := Exists.intro 2 (And.intro (Or.inl rfl) k)
theorem bC_23_26 {d : Nat} {Q : Option Value → ai_H → Prop} {h h2 : ai_H} {x1 x2 x3 x4 r : Int32} {o5 : Option Value} (hc : CC d 61 [.ref 12, .int x3] h (some (.int r)) h2) (k : RC d 23 Q 38 [some (.ref 21), some (.int x1), some (.int x2), some (.int x3), some (.int x4), o5] [.int r, .ref 0] h2) : RC d 23 Q 26 [some (.ref 21), some (.int x1), some (.int x2), some (.int x3), some (.int x4), o5] [] h := by
  obtain ⟨n, e⟩ := k
  exact Exists.intro (n + 6) (And.intro rfl (And.intro rfl (Exists.intro [.int x3] (Exists.intro 12 (Exists.intro [.ref 0] (Exists.intro _ (Exists.intro (some (.int r)) (Exists.intro h2 (And.intro rfl (And.intro rfl (And.intro rfl (And.intro (Nat.le_of_ble_eq_true rfl) (And.intro hc e)))))))))))))
theorem bC_23_38 {d : Nat} {Q : Option Value → ai_H → Prop} {h h2 : ai_H} {x1 x2 x3 x4 y1 r : Int32} {o5 : Option Value} (hc : CC d 17 [.ref 0, .int y1, .int x2] h (some (.int r)) h2) (k : RC d 23 Q 42 [some (.ref 21), some (.int x1), some (.int x2), some (.int x3), some (.int x4), o5] [.int r] h2) : RC d 23 Q 38 [some (.ref 21), some (.int x1), some (.int x2), some (.int x3), some (.int x4), o5] [.int y1, .ref 0] h := by
  obtain ⟨n, e⟩ := k
  exact Exists.intro (n + 2) (Exists.intro [.int y1, .int x2] (Exists.intro 0 (Exists.intro [] (Exists.intro _ (Exists.intro (some (.int r)) (Exists.intro h2 (And.intro rfl (And.intro rfl (And.intro rfl (And.intro (Nat.le_of_ble_eq_true rfl) (And.intro hc e)))))))))))
theorem bC_23_42 {d : Nat} {Q : Option Value → ai_H → Prop} {h : ai_H} {x1 x2 x3 x4 y0 : Int32} {o5 : Option Value} (kt : ¬ y0 = (-1) → RC d 23 Q 52 [some (.ref 21), some (.int x1), some (.int x2), some (.int x3), some (.int x4), some (.int y0)] [] h) (kf : y0 = (-1) → RC d 23 Q 50 [some (.ref 21), some (.int x1), some (.int x2), some (.int x3), some (.int x4), some (.int y0)] [] h) : RC d 23 Q 42 [some (.ref 21), some (.int x1), some (.int x2), some (.int x3), some (.int x4), o5] [.int y0] h := by
  by_cases c : y0 = (-1)
  · obtain ⟨n, e⟩ := kf c
    exact Exists.intro (n + 4) (Exists.intro _ (And.intro rfl (Or.inr (And.intro (fun z => z c) e))))
  · obtain ⟨n, e⟩ := kt c
    exact Exists.intro (n + 4) (Exists.intro _ (And.intro rfl (Or.inl (And.intro c e))))
theorem bC_23_50 {d : Nat} {Q : Option Value → ai_H → Prop} {h : ai_H} {x1 x2 x3 x4 x5 : Int32} (k : Q (some (.int (-1))) h) : RC d 23 Q 50 [some (.ref 21), some (.int x1), some (.int x2), some (.int x3), some (.int x4), some (.int x5)] [] h := Exists.intro 2 (And.intro (Or.inl rfl) k)
theorem bC_23_52 {d : Nat} {Q : Option Value → ai_H → Prop} {h h2 : ai_H} {x1 x2 x3 x4 x5 r : Int32} (hc : CC d 19 [.ref 21, .int x5, .int x3, .int 0] h (some (.int r)) h2) (k : RC d 23 Q 60 [some (.ref 21), some (.int x1), some (.int x2), some (.int x3), some (.int x4), some (.int x5)] [.int r] h2) : RC d 23 Q 52 [some (.ref 21), some (.int x1), some (.int x2), some (.int x3), some (.int x4), some (.int x5)] [] h := by
  obtain ⟨n, e⟩ := k
  exact Exists.intro (n + 5) (Exists.intro [.int x5, .int x3, .int 0] (Exists.intro 21 (Exists.intro [] (Exists.intro _ (Exists.intro (some (.int r)) (Exists.intro h2 (And.intro rfl (And.intro rfl (And.intro rfl (And.intro (Nat.le_of_ble_eq_true rfl) (And.intro hc e)))))))))))
theorem bC_23_60 {d : Nat} {Q : Option Value → ai_H → Prop} {h : ai_H} {x1 x2 x3 x4 x5 y0 : Int32} (k : RC d 23 Q 5 [some (.ref 21), some (.int x1), some (.int x2), some (.int y0), some (.int (x4 + 1)), some (.int x5)] [] h) : RC d 23 Q 60 [some (.ref 21), some (.int x1), some (.int x2), some (.int x3), some (.int x4), some (.int x5)] [.int y0] h := by
  obtain ⟨n, e⟩ := k
  exact Exists.intro (n + 3) (Exists.intro _ (And.intro rfl (Exists.intro _ (And.intro rfl (e)))))
theorem bC_23_67 {d : Nat} {Q : Option Value → ai_H → Prop} {h : ai_H} {x1 x2 x3 x4 : Int32} {o5 : Option Value} (k : Q (some (.int (-1))) h) : RC d 23 Q 67 [some (.ref 21), some (.int x1), some (.int x2), some (.int x3), some (.int x4), o5] [] h := Exists.intro 2 (And.intro (Or.inl rfl) k)
theorem bC_24_0 {d : Nat} {Q : Option Value → ai_H → Prop} {h : ai_H} {x1 : Int32} (k : RC d 24 Q 4 [some (.ref 21), some (.int x1), some (.int x1), some (.int 0), none] [] h) : RC d 24 Q 0 [some (.ref 21), some (.int x1), none, none, none] [] h := by
  obtain ⟨n, e⟩ := k
  exact Exists.intro (n + 4) (Exists.intro _ (And.intro rfl (Exists.intro _ (And.intro rfl (e)))))
theorem bC_24_4 {d : Nat} {Q : Option Value → ai_H → Prop} {h : ai_H} {x1 x2 x3 : Int32} (kt : 512 ≤ x3 → RC d 24 Q 38 [some (.ref 21), some (.int x1), some (.int x2), some (.int x3), none] [] h) (kf : ¬ 512 ≤ x3 → RC d 24 Q 11 [some (.ref 21), some (.int x1), some (.int x2), some (.int x3), none] [] h) : RC d 24 Q 4 [some (.ref 21), some (.int x1), some (.int x2), some (.int x3), none] [] h := by
  by_cases c : 512 ≤ x3
  · obtain ⟨n, e⟩ := kt c
    exact Exists.intro (n + 3) (Or.inl (And.intro c e))
  · obtain ⟨n, e⟩ := kf c
    exact Exists.intro (n + 3) (Or.inr (And.intro c e))
theorem bC_24_11 {d : Nat} {Q : Option Value → ai_H → Prop} {h h2 : ai_H} {x1 x2 x3 r : Int32} (hc : CC d 60 [.ref 12, .int x2] h (some (.int r)) h2) (k : RC d 24 Q 19 [some (.ref 21), some (.int x1), some (.int x2), some (.int x3), none] [.int r] h2) : RC d 24 Q 11 [some (.ref 21), some (.int x1), some (.int x2), some (.int x3), none] [] h := by
  obtain ⟨n, e⟩ := k
  exact Exists.intro (n + 4) (And.intro rfl (Exists.intro [.int x2] (Exists.intro 12 (Exists.intro [] (Exists.intro _ (Exists.intro (some (.int r)) (Exists.intro h2 (And.intro rfl (And.intro rfl (And.intro rfl (And.intro (Nat.le_of_ble_eq_true rfl) (And.intro hc e))))))))))))
theorem bC_24_19 {d : Nat} {Q : Option Value → ai_H → Prop} {h : ai_H} {x1 x2 x3 y0 : Int32} (kt : ¬ y0 = 4 → RC d 24 Q 38 [some (.ref 21), some (.int x1), some (.int x2), some (.int x3), none] [] h) (kf : y0 = 4 → RC d 24 Q 23 [some (.ref 21), some (.int x1), some (.int x2), some (.int x3), none] [] h) : RC d 24 Q 19 [some (.ref 21), some (.int x1), some (.int x2), some (.int x3), none] [.int y0] h := by
  by_cases c : y0 = 4
  · obtain ⟨n, e⟩ := kf c
    exact Exists.intro (n + 2) (Or.inr (And.intro (fun z => z c) e))
  · obtain ⟨n, e⟩ := kt c
    exact Exists.intro (n + 2) (Or.inl (And.intro c e))
theorem bC_24_23 {d : Nat} {Q : Option Value → ai_H → Prop} {h h2 : ai_H} {x1 x2 x3 r : Int32} (hc : CC d 63 [.ref 12, .int x2] h (some (.int r)) h2) (k : RC d 24 Q 31 [some (.ref 21), some (.int x1), some (.int x2), some (.int x3), none] [.int r] h2) : RC d 24 Q 23 [some (.ref 21), some (.int x1), some (.int x2), some (.int x3), none] [] h := by
  obtain ⟨n, e⟩ := k
  exact Exists.intro (n + 4) (And.intro rfl (Exists.intro [.int x2] (Exists.intro 12 (Exists.intro [] (Exists.intro _ (Exists.intro (some (.int r)) (Exists.intro h2 (And.intro rfl (And.intro rfl (And.intro rfl (And.intro (Nat.le_of_ble_eq_true rfl) (And.intro hc e))))))))))))
theorem bC_24_31 {d : Nat} {Q : Option Value → ai_H → Prop} {h : ai_H} {x1 x2 x3 y0 : Int32} (k : RC d 24 Q 4 [some (.ref 21), some (.int x1), some (.int y0), some (.int (x3 + 1)), none] [] h) : RC d 24 Q 31 [some (.ref 21), some (.int x1), some (.int x2), some (.int x3), none] [.int y0] h := by
  obtain ⟨n, e⟩ := k
  exact Exists.intro (n + 3) (Exists.intro _ (And.intro rfl (Exists.intro _ (And.intro rfl (e)))))
theorem bC_24_38 {d : Nat} {Q : Option Value → ai_H → Prop} {h h2 : ai_H} {x1 x2 x3 r : Int32} (hc : CC d 60 [.ref 12, .int x2] h (some (.int r)) h2) (k : RC d 24 Q 46 [some (.ref 21), some (.int x1), some (.int x2), some (.int x3), none] [.int r] h2) : RC d 24 Q 38 [some (.ref 21), some (.int x1), some (.int x2), some (.int x3), none] [] h := by
  obtain ⟨n, e⟩ := k
  exact Exists.intro (n + 4) (And.intro rfl (Exists.intro [.int x2] (Exists.intro 12 (Exists.intro [] (Exists.intro _ (Exists.intro (some (.int r)) (Exists.intro h2 (And.intro rfl (And.intro rfl (And.intro rfl (And.intro (Nat.le_of_ble_eq_true rfl) (And.intro hc e))))))))))))
theorem bC_24_46 {d : Nat} {Q : Option Value → ai_H → Prop} {h : ai_H} {x1 x2 x3 y0 : Int32} (kt : ¬ y0 = 3 → RC d 24 Q 52 [some (.ref 21), some (.int x1), some (.int x2), some (.int x3), none] [] h) (kf : y0 = 3 → RC d 24 Q 50 [some (.ref 21), some (.int x1), some (.int x2), some (.int x3), none] [] h) : RC d 24 Q 46 [some (.ref 21), some (.int x1), some (.int x2), some (.int x3), none] [.int y0] h := by
  by_cases c : y0 = 3
  · obtain ⟨n, e⟩ := kf c
    exact Exists.intro (n + 2) (Or.inr (And.intro (fun z => z c) e))
  · obtain ⟨n, e⟩ := kt c
    exact Exists.intro (n + 2) (Or.inl (And.intro c e))
theorem bC_24_50 {d : Nat} {Q : Option Value → ai_H → Prop} {h : ai_H} {x1 x2 x3 : Int32} (k : Q (some (.int 0)) h) : RC d 24 Q 50 [some (.ref 21), some (.int x1), some (.int x2), some (.int x3), none] [] h := Exists.intro 2 (And.intro (Or.inr (Or.inl rfl)) k)
theorem bC_24_52 {d : Nat} {Q : Option Value → ai_H → Prop} {h h2 : ai_H} {x1 x2 x3 r : Int32} (hc : CC d 67 [.ref 12, .int x2] h (some (.int r)) h2) (k : RC d 24 Q 60 [some (.ref 21), some (.int x1), some (.int x2), some (.int x3), none] [.int r] h2) : RC d 24 Q 52 [some (.ref 21), some (.int x1), some (.int x2), some (.int x3), none] [] h := by
  obtain ⟨n, e⟩ := k
  exact Exists.intro (n + 4) (And.intro rfl (Exists.intro [.int x2] (Exists.intro 12 (Exists.intro [] (Exists.intro _ (Exists.intro (some (.int r)) (Exists.intro h2 (And.intro rfl (And.intro rfl (And.intro rfl (And.intro (Nat.le_of_ble_eq_true rfl) (And.intro hc e))))))))))))
theorem bC_24_60 {d : Nat} {Q : Option Value → ai_H → Prop} {h : ai_H} {x1 x2 x3 y0 : Int32} (kt : y0 = 0 → RC d 24 Q 65 [some (.ref 21), some (.int x1), some (.int x2), some (.int x3), none] [] h) (kf : ¬ y0 = 0 → RC d 24 Q 63 [some (.ref 21), some (.int x1), some (.int x2), some (.int x3), none] [] h) : RC d 24 Q 60 [some (.ref 21), some (.int x1), some (.int x2), some (.int x3), none] [.int y0] h := by
  by_cases c : y0 = 0
  · obtain ⟨n, e⟩ := kt c
    exact Exists.intro (n + 1) (Or.inl (And.intro c e))
  · obtain ⟨n, e⟩ := kf c
    exact Exists.intro (n + 1) (Or.inr (And.intro c e))
theorem bC_24_63 {d : Nat} {Q : Option Value → ai_H → Prop} {h : ai_H} {x1 x2 x3 : Int32} (k : Q (some (.int 1)) h) : RC d 24 Q 63 [some (.ref 21), some (.int x1), some (.int x2), some (.int x3), none] [] h := Exists.intro 2 (And.intro (Or.inr (Or.inr rfl)) k)
theorem bC_24_65 {d : Nat} {Q : Option Value → ai_H → Prop} {h : ai_H} {x1 x2 x3 : Int32} (k : RC d 24 Q 67 [some (.ref 21), some (.int x1), some (.int x2), some (.int 0), none] [] h) : RC d 24 Q 65 [some (.ref 21), some (.int x1), some (.int x2), some (.int x3), none] [] h := by
  obtain ⟨n, e⟩ := k
  exact Exists.intro (n + 2) (Exists.intro _ (And.intro rfl (e)))
theorem bC_24_67 {d : Nat} {Q : Option Value → ai_H → Prop} {h : ai_H} {x1 x2 x3 : Int32} {o4 : Option Value} (kt : 12 ≤ x3 → RC d 24 Q 131 [some (.ref 21), some (.int x1), some (.int x2), some (.int x3), o4] [] h) (kf : ¬ 12 ≤ x3 → RC d 24 Q 73 [some (.ref 21), some (.int x1), some (.int x2), some (.int x3), o4] [] h) : RC d 24 Q 67 [some (.ref 21), some (.int x1), some (.int x2), some (.int x3), o4] [] h := by
  by_cases c : 12 ≤ x3
  · obtain ⟨n, e⟩ := kt c
    exact Exists.intro (n + 3) (Or.inl (And.intro c e))
  · obtain ⟨n, e⟩ := kf c
    exact Exists.intro (n + 3) (Or.inr (And.intro c e))
theorem bC_24_73 {d : Nat} {Q : Option Value → ai_H → Prop} {h : ai_H} {x1 x2 x3 : Int32} {o4 : Option Value} (kt : x2 = (-1) → RC d 24 Q 131 [some (.ref 21), some (.int x1), some (.int x2), some (.int x3), o4] [] h) (kf : ¬ x2 = (-1) → RC d 24 Q 78 [some (.ref 21), some (.int x1), some (.int x2), some (.int x3), o4] [] h) : RC d 24 Q 73 [some (.ref 21), some (.int x1), some (.int x2), some (.int x3), o4] [] h := by
  by_cases c : x2 = (-1)
  · obtain ⟨n, e⟩ := kt c
    exact Exists.intro (n + 3) (Or.inl (And.intro c e))
  · obtain ⟨n, e⟩ := kf c
    exact Exists.intro (n + 3) (Or.inr (And.intro c e))
theorem bC_24_78 {d : Nat} {Q : Option Value → ai_H → Prop} {h : ai_H} {x1 x2 x3 : Int32} {o4 : Option Value} (k : RC d 24 Q 81 [some (.ref 21), some (.int x1), some (.int x2), some (.int x3), some (.int 0)] [] h) : RC d 24 Q 78 [some (.ref 21), some (.int x1), some (.int x2), some (.int x3), o4] [] h := by
  obtain ⟨n, e⟩ := k
  exact Exists.intro (n + 2) (Exists.intro _ (And.intro rfl (e)))
theorem bC_24_81 {d : Nat} {Q : Option Value → ai_H → Prop} {h h2 : ai_H} {x1 x2 x3 x4 r : Int32} (hc : CC d 66 [.ref 12, .int x2] h (some (.int r)) h2) (k : RC d 24 Q 91 [some (.ref 21), some (.int x1), some (.int x2), some (.int x3), some (.int x4)] [.int r, .int x4] h2) : RC d 24 Q 81 [some (.ref 21), some (.int x1), some (.int x2), some (.int x3), some (.int x4)] [] h := by
  obtain ⟨n, e⟩ := k
  exact Exists.intro (n + 5) (And.intro rfl (Exists.intro [.int x2] (Exists.intro 12 (Exists.intro [.int x4] (Exists.intro _ (Exists.intro (some (.int r)) (Exists.intro h2 (And.intro rfl (And.intro rfl (And.intro rfl (And.intro (Nat.le_of_ble_eq_true rfl) (And.intro hc e))))))))))))
theorem bC_24_91 {d : Nat} {Q : Option Value → ai_H → Prop} {h : ai_H} {x1 x2 x3 x4 y0 y1 : Int32} (kt : y1 ≤ y0 → RC d 24 Q 116 [some (.ref 21), some (.int x1), some (.int x2), some (.int x3), some (.int x4)] [] h) (kf : ¬ y1 ≤ y0 → RC d 24 Q 94 [some (.ref 21), some (.int x1), some (.int x2), some (.int x3), some (.int x4)] [] h) : RC d 24 Q 91 [some (.ref 21), some (.int x1), some (.int x2), some (.int x3), some (.int x4)] [.int y1, .int y0] h := by
  by_cases c : y1 ≤ y0
  · obtain ⟨n, e⟩ := kt c
    exact Exists.intro (n + 1) (Or.inl (And.intro c e))
  · obtain ⟨n, e⟩ := kf c
    exact Exists.intro (n + 1) (Or.inr (And.intro c e))
theorem bC_24_94 {d : Nat} {Q : Option Value → ai_H → Prop} {h h2 : ai_H} {x1 x2 x3 x4 r : Int32} (hc : CC d 65 [.ref 12, .int x2, .int x4] h (some (.int r)) h2) (k : RC d 24 Q 104 [some (.ref 21), some (.int x1), some (.int x2), some (.int x3), some (.int x4)] [.int r] h2) : RC d 24 Q 94 [some (.ref 21), some (.int x1), some (.int x2), some (.int x3), some (.int x4)] [] h := by
  obtain ⟨n, e⟩ := k
  exact Exists.intro (n + 5) (And.intro rfl (Exists.intro [.int x2, .int x4] (Exists.intro 12 (Exists.intro [] (Exists.intro _ (Exists.intro (some (.int r)) (Exists.intro h2 (And.intro rfl (And.intro rfl (And.intro rfl (And.intro (Nat.le_of_ble_eq_true rfl) (And.intro hc e))))))))))))
theorem bC_24_104 {d : Nat} {Q : Option Value → ai_H → Prop} {h : ai_H} {x1 x2 x3 x4 y0 : Int32} (kt : y0 = 3 → RC d 24 Q 110 [some (.ref 21), some (.int x1), some (.int x2), some (.int x3), some (.int x4)] [] h) (kf : ¬ y0 = 3 → RC d 24 Q 108 [some (.ref 21), some (.int x1), some (.int x2), some (.int x3), some (.int x4)] [] h) : RC d 24 Q 104 [some (.ref 21), some (.int x1), some (.int x2), some (.int x3), some (.int x4)] [.int y0] h := by
  by_cases c : y0 = 3
  · obtain ⟨n, e⟩ := kt c
    exact Exists.intro (n + 2) (Or.inl (And.intro c e))
  · obtain ⟨n, e⟩ := kf c
    exact Exists.intro (n + 2) (Or.inr (And.intro c e))
theorem bC_24_108 {d : Nat} {Q : Option Value → ai_H → Prop} {h : ai_H} {x1 x2 x3 x4 : Int32} (k : Q (some (.int 0)) h) : RC d 24 Q 108 [some (.ref 21), some (.int x1), some (.int x2), some (.int x3), some (.int x4)] [] h := Exists.intro 2 (And.intro (Or.inr (Or.inl rfl)) k)
theorem bC_24_110 {d : Nat} {Q : Option Value → ai_H → Prop} {h : ai_H} {x1 x2 x3 x4 : Int32} (k : RC d 24 Q 81 [some (.ref 21), some (.int x1), some (.int x2), some (.int x3), some (.int (x4 + 1))] [] h) : RC d 24 Q 110 [some (.ref 21), some (.int x1), some (.int x2), some (.int x3), some (.int x4)] [] h := by
  obtain ⟨n, e⟩ := k
  exact Exists.intro (n + 2) (Exists.intro _ (And.intro rfl (e)))
theorem bC_24_116 {d : Nat} {Q : Option Value → ai_H → Prop} {h h2 : ai_H} {x1 x2 x3 x4 r : Int32} (hc : CC d 64 [.ref 12, .int x2] h (some (.int r)) h2) (k : RC d 24 Q 124 [some (.ref 21), some (.int x1), some (.int x2), some (.int x3), some (.int x4)] [.int r] h2) : RC d 24 Q 116 [some (.ref 21), some (.int x1), some (.int x2), some (.int x3), some (.int x4)] [] h := by
  obtain ⟨n, e⟩ := k
  exact Exists.intro (n + 4) (And.intro rfl (Exists.intro [.int x2] (Exists.intro 12 (Exists.intro [] (Exists.intro _ (Exists.intro (some (.int r)) (Exists.intro h2 (And.intro rfl (And.intro rfl (And.intro rfl (And.intro (Nat.le_of_ble_eq_true rfl) (And.intro hc e))))))))))))
theorem bC_24_124 {d : Nat} {Q : Option Value → ai_H → Prop} {h : ai_H} {x1 x2 x3 x4 y0 : Int32} (k : RC d 24 Q 67 [some (.ref 21), some (.int x1), some (.int y0), some (.int (x3 + 1)), some (.int x4)] [] h) : RC d 24 Q 124 [some (.ref 21), some (.int x1), some (.int x2), some (.int x3), some (.int x4)] [.int y0] h := by
  obtain ⟨n, e⟩ := k
  exact Exists.intro (n + 3) (Exists.intro _ (And.intro rfl (Exists.intro _ (And.intro rfl (e)))))
theorem bC_24_131 {d : Nat} {Q : Option Value → ai_H → Prop} {h : ai_H} {x1 x2 x3 : Int32} {o4 : Option Value} (k : Q (some (.int 1)) h) : RC d 24 Q 131 [some (.ref 21), some (.int x1), some (.int x2), some (.int x3), o4] [] h := Exists.intro 2 (And.intro (Or.inr (Or.inr rfl)) k)
theorem bC_25_0 {d : Nat} {Q : Option Value → ai_H → Prop} {h : ai_H} {x1 x2 x3 : Int32} (kt : x3 < 5 → RC d 25 Q 7 [some (.ref 22), some (.int x1), some (.int x2), some (.int x3), none, none] [] h) (kf : ¬ x3 < 5 → RC d 25 Q 5 [some (.ref 22), some (.int x1), some (.int x2), some (.int x3), none, none] [] h) : RC d 25 Q 0 [some (.ref 22), some (.int x1), some (.int x2), some (.int x3), none, none] [] h := by
  by_cases c : x3 < 5
  · obtain ⟨n, e⟩ := kt c
    exact Exists.intro (n + 3) (Or.inl (And.intro c e))
  · obtain ⟨n, e⟩ := kf c
    exact Exists.intro (n + 3) (Or.inr (And.intro c e))
theorem bC_25_5 {d : Nat} {Q : Option Value → ai_H → Prop} {h : ai_H} {x1 x2 x3 : Int32} (k : Q (some (.int 0)) h) : RC d 25 Q 5 [some (.ref 22), some (.int x1), some (.int x2), some (.int x3), none, none] [] h := Exists.intro 2 (And.intro (Or.inl rfl) k)
theorem bC_25_7 {d : Nat} {Q : Option Value → ai_H → Prop} {h : ai_H} {x1 x2 x3 : Int32} (kt : ¬ x1 = x2 → RC d 25 Q 14 [some (.ref 22), some (.int x1), some (.int x2), some (.int x3), none, none] [] h) (kf : x1 = x2 → RC d 25 Q 12 [some (.ref 22), some (.int x1), some (.int x2), some (.int x3), none, none] [] h) : RC d 25 Q 7 [some (.ref 22), some (.int x1), some (.int x2), some (.int x3), none, none] [] h := by
  by_cases c : x1 = x2
  · obtain ⟨n, e⟩ := kf c
    exact Exists.intro (n + 3) (Or.inr (And.intro (fun z => z c) e))
  · obtain ⟨n, e⟩ := kt c
    exact Exists.intro (n + 3) (Or.inl (And.intro c e))
theorem bC_25_12 {d : Nat} {Q : Option Value → ai_H → Prop} {h : ai_H} {x1 x2 x3 : Int32} (k : Q (some (.int 1)) h) : RC d 25 Q 12 [some (.ref 22), some (.int x1), some (.int x2), some (.int x3), none, none] [] h := Exists.intro 2 (And.intro (Or.inl rfl) k)
theorem bC_25_14 {d : Nat} {Q : Option Value → ai_H → Prop} {h h2 : ai_H} {x1 x2 x3 r : Int32} (hc : CC d 60 [.ref 12, .int x1] h (some (.int r)) h2) (k : RC d 25 Q 22 [some (.ref 22), some (.int x1), some (.int x2), some (.int x3), none, none] [.int r] h2) : RC d 25 Q 14 [some (.ref 22), some (.int x1), some (.int x2), some (.int x3), none, none] [] h := by
  obtain ⟨n, e⟩ := k
  exact Exists.intro (n + 4) (And.intro rfl (Exists.intro [.int x1] (Exists.intro 12 (Exists.intro [] (Exists.intro _ (Exists.intro (some (.int r)) (Exists.intro h2 (And.intro rfl (And.intro rfl (And.intro rfl (And.intro (Nat.le_of_ble_eq_true rfl) (And.intro hc e))))))))))))
theorem bC_25_22 {d : Nat} {Q : Option Value → ai_H → Prop} {h h2 : ai_H} {x1 x2 x3 y0 r : Int32} (hc : CC d 60 [.ref 12, .int x2] h (some (.int r)) h2) (k : RC d 25 Q 32 [some (.ref 22), some (.int x1), some (.int x2), some (.int x3), some (.int y0), none] [.int r] h2) : RC d 25 Q 22 [some (.ref 22), some (.int x1), some (.int x2), some (.int x3), none, none] [.int y0] h := by
  obtain ⟨n, e⟩ := k
  exact Exists.intro (n + 5) (Exists.intro _ (And.intro rfl (And.intro rfl (Exists.intro [.int x2] (Exists.intro 12 (Exists.intro [] (Exists.intro _ (Exists.intro (some (.int r)) (Exists.intro h2 (And.intro rfl (And.intro rfl (And.intro rfl (And.intro (Nat.le_of_ble_eq_true rfl) (And.intro hc e))))))))))))))
theorem bC_25_32 {d : Nat} {Q : Option Value → ai_H → Prop} {h : ai_H} {x1 x2 x3 x4 y0 : Int32} (kt : ¬ x4 = 0 → RC d 25 Q 58 [some (.ref 22), some (.int x1), some (.int x2), some (.int x3), some (.int x4), some (.int y0)] [] h) (kf : x4 = 0 → RC d 25 Q 39 [some (.ref 22), some (.int x1), some (.int x2), some (.int x3), some (.int x4), some (.int y0)] [] h) : RC d 25 Q 32 [some (.ref 22), some (.int x1), some (.int x2), some (.int x3), some (.int x4), none] [.int y0] h := by
  by_cases c : x4 = 0
  · obtain ⟨n, e⟩ := kf c
    exact Exists.intro (n + 3) (Exists.intro _ (And.intro rfl (Or.inr (And.intro (fun z => z c) e))))
  · obtain ⟨n, e⟩ := kt c
    exact Exists.intro (n + 3) (Exists.intro _ (And.intro rfl (Or.inl (And.intro c e))))
theorem bC_25_39 {d : Nat} {Q : Option Value → ai_H → Prop} {h : ai_H} {x1 x2 x3 x4 x5 : Int32} (kt : ¬ x5 = 0 → RC d 25 Q 58 [some (.ref 22), some (.int x1), some (.int x2), some (.int x3), some (.int x4), some (.int x5)] [] h) (kf : x5 = 0 → RC d 25 Q 44 [some (.ref 22), some (.int x1), some (.int x2), some (.int x3), some (.int x4), some (.int x5)] [] h) : RC d 25 Q 39 [some (.ref 22), some (.int x1), some (.int x2), some (.int x3), some (.int x4), some (.int x5)] [] h := by
  by_cases c : x5 = 0
  · obtain ⟨n, e⟩ := kf c
    exact Exists.intro (n + 2) (Or.inr (And.intro (fun z => z c) e))
  · obtain ⟨n, e⟩ := kt c
    exact Exists.intro (n + 2) (Or.inl (And.intro c e))
theorem bC_25_44 {d : Nat} {Q : Option Value → ai_H → Prop} {h h2 : ai_H} {x1 x2 x3 x4 x5 r : Int32} (hc : CC d 26 [.int x1, .int x2] h (some (.int r)) h2) (k : RC d 25 Q 49 [some (.ref 22), some (.int x1), some (.int x2), some (.int x3), some (.int x4), some (.int x5)] [.int r] h2) : RC d 25 Q 44 [some (.ref 22), some (.int x1), some (.int x2), some (.int x3), some (.int x4), some (.int x5)] [] h := by
  obtain ⟨n, e⟩ := k
  exact Exists.intro (n + 3) (Exists.intro [.int x1, .int x2] (Exists.intro [] (Exists.intro (some (.int r)) (Exists.intro h2 (And.intro rfl (And.intro rfl (And.intro (Nat.le_of_ble_eq_true rfl) (And.intro hc e))))))))
theorem bC_25_49 {d : Nat} {Q : Option Value → ai_H → Prop} {h : ai_H} {x1 x2 x3 x4 x5 y0 : Int32} (kt : y0 = 0 → RC d 25 Q 56 [some (.ref 22), some (.int x1), some (.int x2), some (.int x3), some (.int x4), some (.int x5)] [] h) (kf : ¬ y0 = 0 → RC d 25 Q 52 [some (.ref 22), some (.int x1), some (.int x2), some (.int x3), some (.int x4), some (.int x5)] [] h) : RC d 25 Q 49 [some (.ref 22), some (.int x1), some (.int x2), some (.int x3), some (.int x4), some (.int x5)] [.int y0] h := by
  by_cases c : y0 = 0
  · obtain ⟨n, e⟩ := kt c
    exact Exists.intro (n + 1) (Or.inl (And.intro c e))
  · obtain ⟨n, e⟩ := kf c
    exact Exists.intro (n + 1) (Or.inr (And.intro c e))
theorem bC_25_52 {d : Nat} {Q : Option Value → ai_H → Prop} {h : ai_H} {x1 x2 x3 x4 x5 : Int32} (k : RC d 25 Q 57 [some (.ref 22), some (.int x1), some (.int x2), some (.int x3), some (.int x4), some (.int x5)] [.int 1] h) : RC d 25 Q 52 [some (.ref 22), some (.int x1), some (.int x2), some (.int x3), some (.int x4), some (.int x5)] [] h := by
  obtain ⟨n, e⟩ := k
  exact Exists.intro (n + 2) (e)
theorem bC_25_56 {d : Nat} {Q : Option Value → ai_H → Prop} {h : ai_H} {x1 x2 x3 x4 x5 : Int32} (k : RC d 25 Q 57 [some (.ref 22), some (.int x1), some (.int x2), some (.int x3), some (.int x4), some (.int x5)] [.int 0] h) : RC d 25 Q 56 [some (.ref 22), some (.int x1), some (.int x2), some (.int x3), some (.int x4), some (.int x5)] [] h := by
  obtain ⟨n, e⟩ := k
  exact Exists.intro (n + 1) (e)
theorem bC_25_57 {d : Nat} {Q : Option Value → ai_H → Prop} {h : ai_H} {x1 x2 x3 x4 x5 y0 : Int32} (k : Q (some (.int y0)) h) : RC d 25 Q 57 [some (.ref 22), some (.int x1), some (.int x2), some (.int x3), some (.int x4), some (.int x5)] [.int y0] h := Exists.intro 1 (And.intro (Or.inl rfl) k)
theorem bC_25_58 {d : Nat} {Q : Option Value → ai_H → Prop} {h : ai_H} {x1 x2 x3 x4 x5 : Int32} (kt : x4 ≤ 1 → RC d 25 Q 70 [some (.ref 22), some (.int x1), some (.int x2), some (.int x3), some (.int x4), some (.int x5)] [] h) (kf : ¬ x4 ≤ 1 → RC d 25 Q 64 [some (.ref 22), some (.int x1), some (.int x2), some (.int x3), some (.int x4), some (.int x5)] [] h) : RC d 25 Q 58 [some (.ref 22), some (.int x1), some (.int x2), some (.int x3), some (.int x4), some (.int x5)] [] h := by
  by_cases c : x4 ≤ 1
  · obtain ⟨n, e⟩ := kt c
    exact Exists.intro (n + 3) (Or.inl (And.intro c e))
  · obtain ⟨n, e⟩ := kf c
    exact Exists.intro (n + 3) (Or.inr (And.intro c e))
theorem bC_25_64 {d : Nat} {Q : Option Value → ai_H → Prop} {h : ai_H} {x1 x2 x3 x4 x5 : Int32} (kt : 2 < x5 → RC d 25 Q 72 [some (.ref 22), some (.int x1), some (.int x2), some (.int x3), some (.int x4), some (.int x5)] [] h) (kf : ¬ 2 < x5 → RC d 25 Q 70 [some (.ref 22), some (.int x1), some (.int x2), some (.int x3), some (.int x4), some (.int x5)] [] h) : RC d 25 Q 64 [some (.ref 22), some (.int x1), some (.int x2), some (.int x3), some (.int x4), some (.int x5)] [] h := by
  by_cases c : 2 < x5
  · obtain ⟨n, e⟩ := kt c
    exact Exists.intro (n + 3) (Or.inl (And.intro c e))
  · obtain ⟨n, e⟩ := kf c
    exact Exists.intro (n + 3) (Or.inr (And.intro c e))
theorem bC_25_70 {d : Nat} {Q : Option Value → ai_H → Prop} {h : ai_H} {x1 x2 x3 x4 x5 : Int32} (k : Q (some (.int 0)) h) : RC d 25 Q 70 [some (.ref 22), some (.int x1), some (.int x2), some (.int x3), some (.int x4), some (.int x5)] [] h := Exists.intro 2 (And.intro (Or.inl rfl) k)
theorem bC_25_72 {d : Nat} {Q : Option Value → ai_H → Prop} {h : ai_H} {x1 x2 x3 x4 x5 : Int32} (kt : x4 = 2 → RC d 25 Q 84 [some (.ref 22), some (.int x1), some (.int x2), some (.int x3), some (.int x4), some (.int x5)] [] h) (kf : ¬ x4 = 2 → RC d 25 Q 78 [some (.ref 22), some (.int x1), some (.int x2), some (.int x3), some (.int x4), some (.int x5)] [] h) : RC d 25 Q 72 [some (.ref 22), some (.int x1), some (.int x2), some (.int x3), some (.int x4), some (.int x5)] [] h := by
  by_cases c : x4 = 2
  · obtain ⟨n, e⟩ := kt c
    exact Exists.intro (n + 3) (Or.inl (And.intro c e))
  · obtain ⟨n, e⟩ := kf c
    exact Exists.intro (n + 3) (Or.inr (And.intro c e))
theorem bC_25_78 {d : Nat} {Q : Option Value → ai_H → Prop} {h : ai_H} {x1 x2 x3 x4 x5 : Int32} (kt : ¬ x2 = 10 → RC d 25 Q 86 [some (.ref 22), some (.int x1), some (.int x2), some (.int x3), some (.int x4), some (.int x5)] [] h) (kf : x2 = 10 → RC d 25 Q 84 [some (.ref 22), some (.int x1), some (.int x2), some (.int x3), some (.int x4), some (.int x5)] [] h) : RC d 25 Q 78 [some (.ref 22), some (.int x1), some (.int x2), some (.int x3), some (.int x4), some (.int x5)] [] h := by
  by_cases c : x2 = 10
  · obtain ⟨n, e⟩ := kf c
    exact Exists.intro (n + 3) (Or.inr (And.intro (fun z => z c) e))
  · obtain ⟨n, e⟩ := kt c
    exact Exists.intro (n + 3) (Or.inl (And.intro c e))
theorem bC_25_84 {d : Nat} {Q : Option Value → ai_H → Prop} {h : ai_H} {x1 x2 x3 x4 x5 : Int32} (k : Q (some (.int 1)) h) : RC d 25 Q 84 [some (.ref 22), some (.int x1), some (.int x2), some (.int x3), some (.int x4), some (.int x5)] [] h := Exists.intro 2 (And.intro (Or.inl rfl) k)
theorem bC_25_86 {d : Nat} {Q : Option Value → ai_H → Prop} {h : ai_H} {x1 x2 x3 x4 x5 : Int32} (kt : ¬ x4 = 3 → RC d 25 Q 100 [some (.ref 22), some (.int x1), some (.int x2), some (.int x3), some (.int x4), some (.int x5)] [] h) (kf : x4 = 3 → RC d 25 Q 92 [some (.ref 22), some (.int x1), some (.int x2), some (.int x3), some (.int x4), some (.int x5)] [] h) : RC d 25 Q 86 [some (.ref 22), some (.int x1), some (.int x2), some (.int x3), some (.int x4), some (.int x5)] [] h := by
  by_cases c : x4 = 3
  · obtain ⟨n, e⟩ := kf c
    exact Exists.intro (n + 3) (Or.inr (And.intro (fun z => z c) e))
  · obtain ⟨n, e⟩ := kt c
    exact Exists.intro (n + 3) (Or.inl (And.intro c e))
theorem bC_25_92 {d : Nat} {Q : Option Value → ai_H → Prop} {h h2 : ai_H} {x1 x2 x3 x4 x5 r : Int32} (hc : CC d 27 [.ref 22, .int x1, .int x2, .int x3] h (some (.int r)) h2) (k : RC d 25 Q 99 [some (.ref 22), some (.int x1), some (.int x2), some (.int x3), some (.int x4), some (.int x5)] [.int r] h2) : RC d 25 Q 92 [some (.ref 22), some (.int x1), some (.int x2), some (.int x3), some (.int x4), some (.int x5)] [] h := by
  obtain ⟨n, e⟩ := k
  exact Exists.intro (n + 5) (Exists.intro [.int x1, .int x2, .int x3] (Exists.intro 22 (Exists.intro [] (Exists.intro _ (Exists.intro (some (.int r)) (Exists.intro h2 (And.intro rfl (And.intro rfl (And.intro rfl (And.intro (Nat.le_of_ble_eq_true rfl) (And.intro hc e)))))))))))
theorem bC_25_99 {d : Nat} {Q : Option Value → ai_H → Prop} {h : ai_H} {x1 x2 x3 x4 x5 y0 : Int32} (k : Q (some (.int y0)) h) : RC d 25 Q 99 [some (.ref 22), some (.int x1), some (.int x2), some (.int x3), some (.int x4), some (.int x5)] [.int y0] h := Exists.intro 1 (And.intro (Or.inl rfl) k)
theorem bC_25_100 {d : Nat} {Q : Option Value → ai_H → Prop} {h : ai_H} {x1 x2 x3 x4 x5 : Int32} (kt : ¬ x4 = 4 → RC d 25 Q 134 [some (.ref 22), some (.int x1), some (.int x2), some (.int x3), some (.int x4), some (.int x5)] [] h) (kf : x4 = 4 → RC d 25 Q 106 [some (.ref 22), some (.int x1), some (.int x2), some (.int x3), some (.int x4), some (.int x5)] [] h) : RC d 25 Q 100 [some (.ref 22), some (.int x1), some (.int x2), some (.int x3), some (.int x4), some (.int x5)] [] h := by
  by_cases c : x4 = 4
  · obtain ⟨n, e⟩ := kf c
    exact Exists.intro (n + 3) (Or.inr (And.intro (fun z => z c) e))
  · obtain ⟨n, e⟩ := kt c
    exact Exists.intro (n + 3) (Or.inl (And.intro c e))
theorem bC_25_106 {d : Nat} {Q : Option Value → ai_H → Prop} {h : ai_H} {x1 x2 x3 x4 x5 : Int32} (kt : ¬ x5 = 4 → RC d 25 Q 134 [some (.ref 22), some (.int x1), some (.int x2), some (.int x3), some (.int x4), some (.int x5)] [] h) (kf : x5 = 4 → RC d 25 Q 112 [some (.ref 22), some (.int x1), some (.int x2), some (.int x3), some (.int x4), some (.int x5)] [] h) : RC d 25 Q 106 [some (.ref 22), some (.int x1), some (.int x2), some (.int x3), some (.int x4), some (.int x5)] [] h := by
  by_cases c : x5 = 4
  · obtain ⟨n, e⟩ := kf c
    exact Exists.intro (n + 3) (Or.inr (And.intro (fun z => z c) e))
  · obtain ⟨n, e⟩ := kt c
    exact Exists.intro (n + 3) (Or.inl (And.intro c e))
theorem bC_25_112 {d : Nat} {Q : Option Value → ai_H → Prop} {h h2 : ai_H} {x1 x2 x3 x4 x5 r : Int32} (hc : CC d 63 [.ref 12, .int x1] h (some (.int r)) h2) (k : RC d 25 Q 121 [some (.ref 22), some (.int x1), some (.int x2), some (.int x3), some (.int x4), some (.int x5)] [.int r, .ref 22] h2) : RC d 25 Q 112 [some (.ref 22), some (.int x1), some (.int x2), some (.int x3), some (.int x4), some (.int x5)] [] h := by
  obtain ⟨n, e⟩ := k
  exact Exists.intro (n + 5) (And.intro rfl (Exists.intro [.int x1] (Exists.intro 12 (Exists.intro [.ref 22] (Exists.intro _ (Exists.intro (some (.int r)) (Exists.intro h2 (And.intro rfl (And.intro rfl (And.intro rfl (And.intro (Nat.le_of_ble_eq_true rfl) (And.intro hc e))))))))))))
theorem bC_25_121 {d : Nat} {Q : Option Value → ai_H → Prop} {h h2 : ai_H} {x1 x2 x3 x4 x5 y1 r : Int32} (hc : CC d 63 [.ref 12, .int x2] h (some (.int r)) h2) (k : RC d 25 Q 129 [some (.ref 22), some (.int x1), some (.int x2), some (.int x3), some (.int x4), some (.int x5)] [.int r, .int y1, .ref 22] h2) : RC d 25 Q 121 [some (.ref 22), some (.int x1), some (.int x2), some (.int x3), some (.int x4), some (.int x5)] [.int y1, .ref 22] h := by
  obtain ⟨n, e⟩ := k
  exact Exists.intro (n + 4) (And.intro rfl (Exists.intro [.int x2] (Exists.intro 12 (Exists.intro [.int y1, .ref 22] (Exists.intro _ (Exists.intro (some (.int r)) (Exists.intro h2 (And.intro rfl (And.intro rfl (And.intro rfl (And.intro (Nat.le_of_ble_eq_true rfl) (And.intro hc e))))))))))))
theorem bC_25_129 {d : Nat} {Q : Option Value → ai_H → Prop} {h h2 : ai_H} {x1 x2 x3 x4 x5 y1 y2 r : Int32} (hc : CC d 28 [.ref 22, .int y1, .int y2, .int x3] h (some (.int r)) h2) (k : RC d 25 Q 133 [some (.ref 22), some (.int x1), some (.int x2), some (.int x3), some (.int x4), some (.int x5)] [.int r] h2) : RC d 25 Q 129 [some (.ref 22), some (.int x1), some (.int x2), some (.int x3), some (.int x4), some (.int x5)] [.int y2, .int y1, .ref 22] h := by
  obtain ⟨n, e⟩ := k
  exact Exists.intro (n + 2) (Exists.intro [.int y1, .int y2, .int x3] (Exists.intro 22 (Exists.intro [] (Exists.intro _ (Exists.intro (some (.int r)) (Exists.intro h2 (And.intro rfl (And.intro rfl (And.intro rfl (And.intro (Nat.le_of_ble_eq_true rfl) (And.intro hc e)))))))))))
theorem bC_25_133 {d : Nat} {Q : Option Value → ai_H → Prop} {h : ai_H} {x1 x2 x3 x4 x5 y0 : Int32} (k : Q (some (.int y0)) h) : RC d 25 Q 133 [some (.ref 22), some (.int x1), some (.int x2), some (.int x3), some (.int x4), some (.int x5)] [.int y0] h := Exists.intro 1 (And.intro (Or.inl rfl) k)
theorem bC_25_134 {d : Nat} {Q : Option Value → ai_H → Prop} {h : ai_H} {x1 x2 x3 x4 x5 : Int32} (kt : ¬ x4 = 5 → RC d 25 Q 156 [some (.ref 22), some (.int x1), some (.int x2), some (.int x3), some (.int x4), some (.int x5)] [] h) (kf : x4 = 5 → RC d 25 Q 140 [some (.ref 22), some (.int x1), some (.int x2), some (.int x3), some (.int x4), some (.int x5)] [] h) : RC d 25 Q 134 [some (.ref 22), some (.int x1), some (.int x2), some (.int x3), some (.int x4), some (.int x5)] [] h := by
  by_cases c : x4 = 5
  · obtain ⟨n, e⟩ := kf c
    exact Exists.intro (n + 3) (Or.inr (And.intro (fun z => z c) e))
  · obtain ⟨n, e⟩ := kt c
    exact Exists.intro (n + 3) (Or.inl (And.intro c e))
theorem bC_25_140 {d : Nat} {Q : Option Value → ai_H → Prop} {h : ai_H} {x1 x2 x3 x4 x5 : Int32} (kt : ¬ x5 = 5 → RC d 25 Q 156 [some (.ref 22), some (.int x1), some (.int x2), some (.int x3), some (.int x4), some (.int x5)] [] h) (kf : x5 = 5 → RC d 25 Q 146 [some (.ref 22), some (.int x1), some (.int x2), some (.int x3), some (.int x4), some (.int x5)] [] h) : RC d 25 Q 140 [some (.ref 22), some (.int x1), some (.int x2), some (.int x3), some (.int x4), some (.int x5)] [] h := by
  by_cases c : x5 = 5
  · obtain ⟨n, e⟩ := kf c
    exact Exists.intro (n + 3) (Or.inr (And.intro (fun z => z c) e))
  · obtain ⟨n, e⟩ := kt c
    exact Exists.intro (n + 3) (Or.inl (And.intro c e))
theorem bC_25_146 {d : Nat} {Q : Option Value → ai_H → Prop} {h h2 : ai_H} {x1 x2 x3 x4 x5 r : Int32} (hc : CC d 29 [.ref 22, .int x1, .int x2, .int x3] h (some (.int r)) h2) (k : RC d 25 Q 153 [some (.ref 22), some (.int x1), some (.int x2), some (.int x3), some (.int x4), some (.int x5)] [.int r] h2) : RC d 25 Q 146 [some (.ref 22), some (.int x1), some (.int x2), some (.int x3), some (.int x4), some (.int x5)] [] h := by
  obtain ⟨n, e⟩ := k
  exact Exists.intro (n + 5) (Exists.intro [.int x1, .int x2, .int x3] (Exists.intro 22 (Exists.intro [] (Exists.intro _ (Exists.intro (some (.int r)) (Exists.intro h2 (And.intro rfl (And.intro rfl (And.intro rfl (And.intro (Nat.le_of_ble_eq_true rfl) (And.intro hc e)))))))))))
theorem bC_25_153 {d : Nat} {Q : Option Value → ai_H → Prop} {h : ai_H} {x1 x2 x3 x4 x5 y0 : Int32} (k : RC d 25 Q 157 [some (.ref 22), some (.int x1), some (.int x2), some (.int x3), some (.int x4), some (.int x5)] [.int y0] h) : RC d 25 Q 153 [some (.ref 22), some (.int x1), some (.int x2), some (.int x3), some (.int x4), some (.int x5)] [.int y0] h := by
  obtain ⟨n, e⟩ := k
  exact Exists.intro (n + 1) (e)
theorem bC_25_156 {d : Nat} {Q : Option Value → ai_H → Prop} {h : ai_H} {x1 x2 x3 x4 x5 : Int32} (k : RC d 25 Q 157 [some (.ref 22), some (.int x1), some (.int x2), some (.int x3), some (.int x4), some (.int x5)] [.int 0] h) : RC d 25 Q 156 [some (.ref 22), some (.int x1), some (.int x2), some (.int x3), some (.int x4), some (.int x5)] [] h := by
  obtain ⟨n, e⟩ := k
  exact Exists.intro (n + 1) (e)
theorem bC_25_157 {d : Nat} {Q : Option Value → ai_H → Prop} {h : ai_H} {x1 x2 x3 x4 x5 y0 : Int32} (k : Q (some (.int y0)) h) : RC d 25 Q 157 [some (.ref 22), some (.int x1), some (.int x2), some (.int x3), some (.int x4), some (.int x5)] [.int y0] h := Exists.intro 1 (And.intro (Or.inl rfl) k)
theorem bC_26_0 {d : Nat} {Q : Option Value → ai_H → Prop} {h : ai_H} {x0 x1 : Int32} (kt : x0 = 3 → RC d 26 Q 10 [some (.int x0), some (.int x1)] [] h) (kf : ¬ x0 = 3 → RC d 26 Q 5 [some (.int x0), some (.int x1)] [] h) : RC d 26 Q 0 [some (.int x0), some (.int x1)] [] h := by
  by_cases c : x0 = 3
  · obtain ⟨n, e⟩ := kt c
    exact Exists.intro (n + 3) (Or.inl (And.intro c e))
  · obtain ⟨n, e⟩ := kf c
    exact Exists.intro (n + 3) (Or.inr (And.intro c e))
theorem bC_26_5 {d : Nat} {Q : Option Value → ai_H → Prop} {h : ai_H} {x0 x1 : Int32} (kt : ¬ x1 = 3 → RC d 26 Q 26 [some (.int x0), some (.int x1)] [] h) (kf : x1 = 3 → RC d 26 Q 10 [some (.int x0), some (.int x1)] [] h) : RC d 26 Q 5 [some (.int x0), some (.int x1)] [] h := by
  by_cases c : x1 = 3
  · obtain ⟨n, e⟩ := kf c
    exact Exists.intro (n + 3) (Or.inr (And.intro (fun z => z c) e))
  · obtain ⟨n, e⟩ := kt c
    exact Exists.intro (n + 3) (Or.inl (And.intro c e))
theorem bC_26_10 {d : Nat} {Q : Option Value → ai_H → Prop} {h : ai_H} {x0 x1 : Int32} (kt : ¬ x0 = 3 → RC d 26 Q 24 [some (.int x0), some (.int x1)] [] h) (kf : x0 = 3 → RC d 26 Q 15 [some (.int x0), some (.int x1)] [] h) : RC d 26 Q 10 [some (.int x0), some (.int x1)] [] h := by
  by_cases c : x0 = 3
  · obtain ⟨n, e⟩ := kf c
    exact Exists.intro (n + 3) (Or.inr (And.intro (fun z => z c) e))
  · obtain ⟨n, e⟩ := kt c
    exact Exists.intro (n + 3) (Or.inl (And.intro c e))
theorem bC_26_15 {d : Nat} {Q : Option Value → ai_H → Prop} {h : ai_H} {x0 x1 : Int32} (kt : x1 < 4 → RC d 26 Q 24 [some (.int x0), some (.int x1)] [] h) (kf : ¬ x1 < 4 → RC d 26 Q 20 [some (.int x0), some (.int x1)] [] h) : RC d 26 Q 15 [some (.int x0), some (.int x1)] [] h := by
  by_cases c : x1 < 4
  · obtain ⟨n, e⟩ := kt c
    exact Exists.intro (n + 3) (Or.inl (And.intro c e))
  · obtain ⟨n, e⟩ := kf c
    exact Exists.intro (n + 3) (Or.inr (And.intro c e))
theorem bC_26_20 {d : Nat} {Q : Option Value → ai_H → Prop} {h : ai_H} {x0 x1 : Int32} (k : RC d 26 Q 25 [some (.int x0), some (.int x1)] [.int 1] h) : RC d 26 Q 20 [some (.int x0), some (.int x1)] [] h := by
  obtain ⟨n, e⟩ := k
  exact Exists.intro (n + 2) (e)
theorem bC_26_24 {d : Nat} {Q : Option Value → ai_H → Prop} {h : ai_H} {x0 x1 : Int32} (k : RC d 26 Q 25 [some (.int x0), some (.int x1)] [.int 0] h) : RC d 26 Q 24 [some (.int x0), some (.int x1)] [] h := by
  obtain ⟨n, e⟩ := k
  exact Exists.intro (n + 1) (e)
theorem bC_26_25 {d : Nat} {Q : Option Value → ai_H → Prop} {h : ai_H} {x0 x1 y0 : Int32} (hz : y0 = 0 ∨ y0 = 1) (k : Q (some (.int y0)) h) : RC d 26 Q 25 [some (.int x0), some (.int x1)] [.int y0] h := Exists.intro 1 (And.intro (Or.inr hz) k)
theorem bC_26_26 {d : Nat} {Q : Option Value → ai_H → Prop} {h : ai_H} {x0 x1 : Int32} (kt : x0 < 1 → RC d 26 Q 40 [some (.int x0), some (.int x1)] [] h) (kf : ¬ x0 < 1 → RC d 26 Q 31 [some (.int x0), some (.int x1)] [] h) : RC d 26 Q 26 [some (.int x0), some (.int x1)] [] h := by
  by_cases c : x0 < 1
  · obtain ⟨n, e⟩ := kt c
    exact Exists.intro (n + 3) (Or.inl (And.intro c e))
  · obtain ⟨n, e⟩ := kf c
    exact Exists.intro (n + 3) (Or.inr (And.intro c e))
theorem bC_26_31 {d : Nat} {Q : Option Value → ai_H → Prop} {h : ai_H} {x0 x1 : Int32} (kt : x1 ≤ x0 → RC d 26 Q 40 [some (.int x0), some (.int x1)] [] h) (kf : ¬ x1 ≤ x0 → RC d 26 Q 36 [some (.int x0), some (.int x1)] [] h) : RC d 26 Q 31 [some (.int x0), some (.int x1)] [] h := by
  by_cases c : x1 ≤ x0
  · obtain ⟨n, e⟩ := kt c
    exact Exists.intro (n + 3) (Or.inl (And.intro c e))
  · obtain ⟨n, e⟩ := kf c
    exact Exists.intro (n + 3) (Or.inr (And.intro c e))
theorem bC_26_36 {d : Nat} {Q : Option Value → ai_H → Prop} {h : ai_H} {x0 x1 : Int32} (k : RC d 26 Q 41 [some (.int x0), some (.int x1)] [.int 1] h) : RC d 26 Q 36 [some (.int x0), some (.int x1)] [] h := by
  obtain ⟨n, e⟩ := k
  exact Exists.intro (n + 2) (e)
theorem bC_26_40 {d : Nat} {Q : Option Value → ai_H → Prop} {h : ai_H} {x0 x1 : Int32} (k : RC d 26 Q 41 [some (.int x0), some (.int x1)] [.int 0] h) : RC d 26 Q 40 [some (.int x0), some (.int x1)] [] h := by
  obtain ⟨n, e⟩ := k
  exact Exists.intro (n + 1) (e)
theorem bC_26_41 {d : Nat} {Q : Option Value → ai_H → Prop} {h : ai_H} {x0 x1 y0 : Int32} (hz : y0 = 0 ∨ y0 = 1) (k : Q (some (.int y0)) h) : RC d 26 Q 41 [some (.int x0), some (.int x1)] [.int y0] h := Exists.intro 1 (And.intro (Or.inr hz) k)
theorem bC_27_0 {d : Nat} {Q : Option Value → ai_H → Prop} {h h2 : ai_H} {x1 x2 x3 r : Int32} (hc : CC d 61 [.ref 12, .int x1] h (some (.int r)) h2) (k : RC d 27 Q 8 [some (.ref 22), some (.int x1), some (.int x2), some (.int x3), none, none, none, none] [.int r] h2) : RC d 27 Q 0 [some (.ref 22), some (.int x1), some (.int x2), some (.int x3), none, none, none, none] [] h := by
  obtain ⟨n, e⟩ := k
  exact Exists.intro (n + 4) (And.intro rfl (Exists.intro [.int x1] (Exists.intro 12 (Exists.intro [] (Exists.intro _ (Exists.intro (some (.int r)) (Exists.intro h2 (And.intro rfl (And.intro rfl (And.intro rfl (And.intro (Nat.le_of_ble_eq_true rfl) (And.intro hc e))))))))))))
theorem bC_27_8 {d : Nat} {Q : Option Value → ai_H → Prop} {h h2 : ai_H} {x1 x2 x3 y0 r : Int32} (hc : CC d 62 [.ref 12, .int x1] h (some (.int r)) h2) (k : RC d 27 Q 18 [some (.ref 22), some (.int x1), some (.int x2), some (.int x3), some (.int y0), none, none, none] [.int r] h2) : RC d 27 Q 8 [some (.ref 22), some (.int x1), some (.int x2), some (.int x3), none, none, none, none] [.int y0] h := by
  obtain ⟨n, e⟩ := k
  exact Exists.intro (n + 5) (Exists.intro _ (And.intro rfl (And.intro rfl (Exists.intro [.int x1] (Exists.intro 12 (Exists.intro [] (Exists.intro _ (Exists.intro (some (.int r)) (Exists.intro h2 (And.intro rfl (And.intro rfl (And.intro rfl (And.intro (Nat.le_of_ble_eq_true rfl) (And.intro hc e))))))))))))))
theorem bC_27_18 {d : Nat} {Q : Option Value → ai_H → Prop} {h : ai_H} {x1 x2 x3 x4 y0 : Int32} (k : RC d 27 Q 23 [some (.ref 22), some (.int x1), some (.int x2), some (.int x3), some (.int x4), some (.int y0), some (.int 0), none] [] h) : RC d 27 Q 18 [some (.ref 22), some (.int x1), some (.int x2), some (.int x3), some (.int x4), none, none, none] [.int y0] h := by
  obtain ⟨n, e⟩ := k
  exact Exists.intro (n + 3) (Exists.intro _ (And.intro rfl (Exists.intro _ (And.intro rfl (e)))))
theorem bC_27_23 {d : Nat} {Q : Option Value → ai_H → Prop} {h h2 : ai_H} {x1 x2 x3 x4 x5 x6 r : Int32} {o7 : Option Value} (hc : CC d 10 [.ref 0, .int x4, .int x5] h (some (.int r)) h2) (k : RC d 27 Q 36 [some (.ref 22), some (.int x1), some (.int x2), some (.int x3), some (.int x4), some (.int x5), some (.int x6), o7] [.int r, .int x6] h2) : RC d 27 Q 23 [some (.ref 22), some (.int x1), some (.int x2), some (.int x3), some (.int x4), some (.int x5), some (.int x6), o7] [] h := by
  obtain ⟨n, e⟩ := k
  exact Exists.intro (n + 6) (And.intro rfl (Exists.intro [.int x4, .int x5] (Exists.intro 0 (Exists.intro [.int x6] (Exists.intro _ (Exists.intro (some (.int r)) (Exists.intro h2 (And.intro rfl (And.intro rfl (And.intro rfl (And.intro (Nat.le_of_ble_eq_true rfl) (And.intro hc e))))))))))))
theorem bC_27_36 {d : Nat} {Q : Option Value → ai_H → Prop} {h : ai_H} {x1 x2 x3 x4 x5 x6 y0 y1 : Int32} {o7 : Option Value} (kt : y1 ≤ y0 → RC d 27 Q 76 [some (.ref 22), some (.int x1), some (.int x2), some (.int x3), some (.int x4), some (.int x5), some (.int x6), o7] [] h) (kf : ¬ y1 ≤ y0 → RC d 27 Q 39 [some (.ref 22), some (.int x1), some (.int x2), some (.int x3), some (.int x4), some (.int x5), some (.int x6), o7] [] h) : RC d 27 Q 36 [some (.ref 22), some (.int x1), some (.int x2), some (.int x3), some (.int x4), some (.int x5), some (.int x6), o7] [.int y1, .int y0] h := by
  by_cases c : y1 ≤ y0
  · obtain ⟨n, e⟩ := kt c
    exact Exists.intro (n + 1) (Or.inl (And.intro c e))
  · obtain ⟨n, e⟩ := kf c
    exact Exists.intro (n + 1) (Or.inr (And.intro c e))
theorem bC_27_39 {d : Nat} {Q : Option Value → ai_H → Prop} {h h2 : ai_H} {x1 x2 x3 x4 x5 x6 r : Int32} {o7 : Option Value} (hc : CC d 11 [.ref 0, .int x4, .int x5, .int x6] h (some (.int r)) h2) (k : RC d 27 Q 53 [some (.ref 22), some (.int x1), some (.int x2), some (.int x3), some (.int x4), some (.int x5), some (.int x6), o7] [.int r, .ref 22] h2) : RC d 27 Q 39 [some (.ref 22), some (.int x1), some (.int x2), some (.int x3), some (.int x4), some (.int x5), some (.int x6), o7] [] h := by
  obtain ⟨n, e⟩ := k
  exact Exists.intro (n + 7) (And.intro rfl (Exists.intro [.int x4, .int x5, .int x6] (Exists.intro 0 (Exists.intro [.ref 22] (Exists.intro _ (Exists.intro (some (.int r)) (Exists.intro h2 (And.intro rfl (And.intro rfl (And.intro rfl (And.intro (Nat.le_of_ble_eq_true rfl) (And.intro hc e))))))))))))
theorem bC_27_53 {d : Nat} {Q : Option Value → ai_H → Prop} {h h2 : ai_H} {x1 x2 x3 x4 x5 x6 y1 r : Int32} {o7 : Option Value} (hc : CC d 25 [.ref 22, .int y1, .int x2, .int (x3 + 1)] h (some (.int r)) h2) (k : RC d 27 Q 60 [some (.ref 22), some (.int x1), some (.int x2), some (.int x3), some (.int x4), some (.int x5), some (.int x6), o7] [.int r] h2) : RC d 27 Q 53 [some (.ref 22), some (.int x1), some (.int x2), some (.int x3), some (.int x4), some (.int x5), some (.int x6), o7] [.int y1, .ref 22] h := by
  obtain ⟨n, e⟩ := k
  exact Exists.intro (n + 5) (Exists.intro [.int y1, .int x2, .int (x3 + 1)] (Exists.intro 22 (Exists.intro [] (Exists.intro _ (Exists.intro (some (.int r)) (Exists.intro h2 (And.intro rfl (And.intro rfl (And.intro rfl (And.intro (Nat.le_of_ble_eq_true rfl) (And.intro hc e)))))))))))
theorem bC_27_60 {d : Nat} {Q : Option Value → ai_H → Prop} {h : ai_H} {x1 x2 x3 x4 x5 x6 y0 : Int32} {o7 : Option Value} (kt : y0 = 0 → RC d 27 Q 70 [some (.ref 22), some (.int x1), some (.int x2), some (.int x3), some (.int x4), some (.int x5), some (.int x6), some (.int y0)] [] h) (kf : ¬ y0 = 0 → RC d 27 Q 67 [some (.ref 22), some (.int x1), some (.int x2), some (.int x3), some (.int x4), some (.int x5), some (.int x6), some (.int y0)] [] h) : RC d 27 Q 60 [some (.ref 22), some (.int x1), some (.int x2), some (.int x3), some (.int x4), some (.int x5), some (.int x6), o7] [.int y0] h := by
  by_cases c : y0 = 0
  · obtain ⟨n, e⟩ := kt c
    exact Exists.intro (n + 3) (Exists.intro _ (And.intro rfl (Or.inl (And.intro c e))))
  · obtain ⟨n, e⟩ := kf c
    exact Exists.intro (n + 3) (Exists.intro _ (And.intro rfl (Or.inr (And.intro c e))))
theorem bC_27_67 {d : Nat} {Q : Option Value → ai_H → Prop} {h : ai_H} {x1 x2 x3 x4 x5 x6 x7 : Int32} (k : Q (some (.int x7)) h) : RC d 27 Q 67 [some (.ref 22), some (.int x1), some (.int x2), some (.int x3), some (.int x4), some (.int x5), some (.int x6), some (.int x7)] [] h := Exists.intro 2 (And.intro (Or.inl rfl) k)
theorem bC_27_70 {d : Nat} {Q : Option Value → ai_H → Prop} {h : ai_H} {x1 x2 x3 x4 x5 x6 x7 : Int32} (k : RC d 27 Q 23 [some (.ref 22), some (.int x1), some (.int x2), some (.int x3), some (.int x4), some (.int x5), some (.int (x6 + 1)), some (.int x7)] [] h) : RC d 27 Q 70 [some (.ref 22), some (.int x1), some (.int x2), some (.int x3), some (.int x4), some (.int x5), some (.int x6), some (.int x7)] [] h := by
  obtain ⟨n, e⟩ := k
  exact Exists.intro (n + 2) (Exists.intro _ (And.intro rfl (e)))
theorem bC_27_76 {d : Nat} {Q : Option Value → ai_H → Prop} {h : ai_H} {x1 x2 x3 x4 x5 x6 : Int32} {o7 : Option Value} (k : Q (some (.int 0)) h) : RC d 27 Q 76 [some (.ref 22), some (.int x1), some (.int x2), some (.int x3), some (.int x4), some (.int x5), some (.int x6), o7] [] h := Exists.intro 2 (And.intro (Or.inl rfl) k)
theorem bC_28_0 {d : Nat} {Q : Option Value → ai_H → Prop} {h h2 : ai_H} {x1 x2 x3 r : Int32} (hc : CC d 60 [.ref 12, .int x1] h (some (.int r)) h2) (k : RC d 28 Q 8 [some (.ref 22), some (.int x1), some (.int x2), some (.int x3), none] [.int r] h2) : RC d 28 Q 0 [some (.ref 22), some (.int x1), some (.int x2), some (.int x3), none] [] h := by
  obtain ⟨n, e⟩ := k
  exact Exists.intro (n + 4) (And.intro rfl (Exists.intro [.int x1] (Exists.intro 12 (Exists.intro [] (Exists.intro _ (Exists.intro (some (.int r)) (Exists.intro h2 (And.intro rfl (And.intro rfl (And.intro rfl (And.intro (Nat.le_of_ble_eq_true rfl) (And.intro hc e))))))))))))
theorem bC_28_8 {d : Nat} {Q : Option Value → ai_H → Prop} {h : ai_H} {x1 x2 x3 y0 : Int32} (kt : y0 ≤ 2 → RC d 28 Q 24 [some (.ref 22), some (.int x1), some (.int x2), some (.int x3), none] [] h) (kf : ¬ y0 ≤ 2 → RC d 28 Q 12 [some (.ref 22), some (.int x1), some (.int x2), some (.int x3), none] [] h) : RC d 28 Q 8 [some (.ref 22), some (.int x1), some (.int x2), some (.int x3), none] [.int y0] h := by
  by_cases c : y0 ≤ 2
  · obtain ⟨n, e⟩ := kt c
    exact Exists.intro (n + 2) (Or.inl (And.intro c e))
  · obtain ⟨n, e⟩ := kf c
    exact Exists.intro (n + 2) (Or.inr (And.intro c e))
theorem bC_28_12 {d : Nat} {Q : Option Value → ai_H → Prop} {h h2 : ai_H} {x1 x2 x3 r : Int32} (hc : CC d 60 [.ref 12, .int x2] h (some (.int r)) h2) (k : RC d 28 Q 20 [some (.ref 22), some (.int x1), some (.int x2), some (.int x3), none] [.int r] h2) : RC d 28 Q 12 [some (.ref 22), some (.int x1), some (.int x2), some (.int x3), none] [] h := by
  obtain ⟨n, e⟩ := k
  exact Exists.intro (n + 4) (And.intro rfl (Exists.intro [.int x2] (Exists.intro 12 (Exists.intro [] (Exists.intro _ (Exists.intro (some (.int r)) (Exists.intro h2 (And.intro rfl (And.intro rfl (And.intro rfl (And.intro (Nat.le_of_ble_eq_true rfl) (And.intro hc e))))))))))))
theorem bC_28_20 {d : Nat} {Q : Option Value → ai_H → Prop} {h : ai_H} {x1 x2 x3 y0 : Int32} (kt : 2 < y0 → RC d 28 Q 28 [some (.ref 22), some (.int x1), some (.int x2), some (.int x3), none] [] h) (kf : ¬ 2 < y0 → RC d 28 Q 24 [some (.ref 22), some (.int x1), some (.int x2), some (.int x3), none] [] h) : RC d 28 Q 20 [some (.ref 22), some (.int x1), some (.int x2), some (.int x3), none] [.int y0] h := by
  by_cases c : 2 < y0
  · obtain ⟨n, e⟩ := kt c
    exact Exists.intro (n + 2) (Or.inl (And.intro c e))
  · obtain ⟨n, e⟩ := kf c
    exact Exists.intro (n + 2) (Or.inr (And.intro c e))
theorem bC_28_24 {d : Nat} {Q : Option Value → ai_H → Prop} {h : ai_H} {x1 x2 x3 : Int32} (k : RC d 28 Q 29 [some (.ref 22), some (.int x1), some (.int x2), some (.int x3), none] [.int 1] h) : RC d 28 Q 24 [some (.ref 22), some (.int x1), some (.int x2), some (.int x3), none] [] h := by
  obtain ⟨n, e⟩ := k
  exact Exists.intro (n + 2) (e)
theorem bC_28_28 {d : Nat} {Q : Option Value → ai_H → Prop} {h : ai_H} {x1 x2 x3 : Int32} (k : RC d 28 Q 29 [some (.ref 22), some (.int x1), some (.int x2), some (.int x3), none] [.int 0] h) : RC d 28 Q 28 [some (.ref 22), some (.int x1), some (.int x2), some (.int x3), none] [] h := by
  obtain ⟨n, e⟩ := k
  exact Exists.intro (n + 1) (e)
theorem bC_28_29 {d : Nat} {Q : Option Value → ai_H → Prop} {h : ai_H} {x1 x2 x3 y0 : Int32} (kt : y0 = 0 → RC d 28 Q 40 [some (.ref 22), some (.int x1), some (.int x2), some (.int x3), some (.int y0)] [] h) (kf : ¬ y0 = 0 → RC d 28 Q 36 [some (.ref 22), some (.int x1), some (.int x2), some (.int x3), some (.int y0)] [] h) : RC d 28 Q 29 [some (.ref 22), some (.int x1), some (.int x2), some (.int x3), none] [.int y0] h := by
  by_cases c : y0 = 0
  · obtain ⟨n, e⟩ := kt c
    exact Exists.intro (n + 3) (Exists.intro _ (And.intro rfl (Or.inl (And.intro c e))))
  · obtain ⟨n, e⟩ := kf c
    exact Exists.intro (n + 3) (Exists.intro _ (And.intro rfl (Or.inr (And.intro c e))))
theorem bC_28_36 {d : Nat} {Q : Option Value → ai_H → Prop} {h : ai_H} {x1 x2 x3 x4 : Int32} (k : RC d 28 Q 49 [some (.ref 22), some (.int x1), some (.int x2), some (.int x3), some (.int x4)] [.int 0] h) : RC d 28 Q 36 [some (.ref 22), some (.int x1), some (.int x2), some (.int x3), some (.int x4)] [] h := by
  obtain ⟨n, e⟩ := k
  exact Exists.intro (n + 2) (e)
theorem bC_28_40 {d : Nat} {Q : Option Value → ai_H → Prop} {h h2 : ai_H} {x1 x2 x3 x4 r : Int32} (hc : CC d 25 [.ref 22, .int x1, .int x2, .int (x3 + 1)] h (some (.int r)) h2) (k : RC d 28 Q 49 [some (.ref 22), some (.int x1), some (.int x2), some (.int x3), some (.int x4)] [.int r] h2) : RC d 28 Q 40 [some (.ref 22), some (.int x1), some (.int x2), some (.int x3), some (.int x4)] [] h := by
  obtain ⟨n, e⟩ := k
  exact Exists.intro (n + 7) (Exists.intro [.int x1, .int x2, .int (x3 + 1)] (Exists.intro 22 (Exists.intro [] (Exists.intro _ (Exists.intro (some (.int r)) (Exists.intro h2 (And.intro rfl (And.intro rfl (And.intro rfl (And.intro (Nat.le_of_ble_eq_true rfl) (And.intro hc e)))))))))))
theorem bC_28_49 {d : Nat} {Q : Option Value → ai_H → Prop} {h : ai_H} {x1 x2 x3 x4 y0 : Int32} (k : Q (some (.int y0)) h) : RC d 28 Q 49 [some (.ref 22), some (.int x1), some (.int x2), some (.int x3), some (.int x4)] [.int y0] h := Exists.intro 1 (And.intro (Or.inl rfl) k)
theorem bC_29_0 {d : Nat} {Q : Option Value → ai_H → Prop} {h h2 : ai_H} {x1 x2 x3 r : Int32} (hc : CC d 71 [.ref 12] h (some (.int r)) h2) (k : RC d 29 Q 7 [some (.ref 22), some (.int x1), some (.int x2), some (.int x3), none, none, none] [.int r] h2) : RC d 29 Q 0 [some (.ref 22), some (.int x1), some (.int x2), some (.int x3), none, none, none] [] h := by
  obtain ⟨n, e⟩ := k
  exact Exists.intro (n + 3) (And.intro rfl (Exists.intro [] (Exists.intro 12 (Exists.intro [] (Exists.intro _ (Exists.intro (some (.int r)) (Exists.intro h2 (And.intro rfl (And.intro rfl (And.intro rfl (And.intro (Nat.le_of_ble_eq_true rfl) (And.intro hc e))))))))))))
theorem bC_29_7 {d : Nat} {Q : Option Value → ai_H → Prop} {h h2 : ai_H} {x1 x2 x3 y0 r : Int32} (hc : CC d 61 [.ref 12, .int x2] h (some (.int r)) h2) (k : RC d 29 Q 22 [some (.ref 22), some (.int x1), some (.int x2), some (.int x3), some (.int y0), none, none] [.int r, .int x1, .ref 21] h2) : RC d 29 Q 7 [some (.ref 22), some (.int x1), some (.int x2), some (.int x3), none, none, none] [.int y0] h := by
  obtain ⟨n, e⟩ := k
  exact Exists.intro (n + 8) (Exists.intro _ (And.intro rfl (And.intro rfl (And.intro rfl (Exists.intro [.int x2] (Exists.intro 12 (Exists.intro [.int x1, .ref 21] (Exists.intro _ (Exists.intro (some (.int r)) (Exists.intro h2 (And.intro rfl (And.intro rfl (And.intro rfl (And.intro (Nat.le_of_ble_eq_true rfl) (And.intro hc e)))))))))))))))
theorem bC_29_22 {d : Nat} {Q : Option Value → ai_H → Prop} {h h2 : ai_H} {x1 x2 x3 x4 y1 y2 r : Int32} (hc : CC d 23 [.ref 21, .int y1, .int y2] h (some (.int r)) h2) (k : RC d 29 Q 25 [some (.ref 22), some (.int x1), some (.int x2), some (.int x3), some (.int x4), none, none] [.int r] h2) : RC d 29 Q 22 [some (.ref 22), some (.int x1), some (.int x2), some (.int x3), some (.int x4), none, none] [.int y2, .int y1, .ref 21] h := by
  obtain ⟨n, e⟩ := k
  exact Exists.intro (n + 1) (Exists.intro [.int y1, .int y2] (Exists.intro 21 (Exists.intro [] (Exists.intro _ (Exists.intro (some (.int r)) (Exists.intro h2 (And.intro rfl (And.intro rfl (And.intro rfl (And.intro (Nat.le_of_ble_eq_true rfl) (And.intro hc e)))))))))))
theorem bC_29_25 {d : Nat} {Q : Option Value → ai_H → Prop} {h : ai_H} {x1 x2 x3 x4 y0 : Int32} (kt : ¬ y0 = (-1) → RC d 29 Q 37 [some (.ref 22), some (.int x1), some (.int x2), some (.int x3), some (.int x4), some (.int y0), none] [] h) (kf : y0 = (-1) → RC d 29 Q 33 [some (.ref 22), some (.int x1), some (.int x2), some (.int x3), some (.int x4), some (.int y0), none] [] h) : RC d 29 Q 25 [some (.ref 22), some (.int x1), some (.int x2), some (.int x3), some (.int x4), none, none] [.int y0] h := by
  by_cases c : y0 = (-1)
  · obtain ⟨n, e⟩ := kf c
    exact Exists.intro (n + 4) (Exists.intro _ (And.intro rfl (Or.inr (And.intro (fun z => z c) e))))
  · obtain ⟨n, e⟩ := kt c
    exact Exists.intro (n + 4) (Exists.intro _ (And.intro rfl (Or.inl (And.intro c e))))
theorem bC_29_33 {d : Nat} {Q : Option Value → ai_H → Prop} {h : ai_H} {x1 x2 x3 x4 x5 : Int32} (k : RC d 29 Q 45 [some (.ref 22), some (.int x1), some (.int x2), some (.int x3), some (.int x4), some (.int x5), none] [.int 0] h) : RC d 29 Q 33 [some (.ref 22), some (.int x1), some (.int x2), some (.int x3), some (.int x4), some (.int x5), none] [] h := by
  obtain ⟨n, e⟩ := k
  exact Exists.intro (n + 2) (e)
theorem bC_29_37 {d : Nat} {Q : Option Value → ai_H → Prop} {h h2 : ai_H} {x1 x2 x3 x4 x5 r : Int32} (hc : CC d 30 [.ref 22, .int x5, .int x2, .int x3] h (some (.int r)) h2) (k : RC d 29 Q 45 [some (.ref 22), some (.int x1), some (.int x2), some (.int x3), some (.int x4), some (.int x5), none] [.int r] h2) : RC d 29 Q 37 [some (.ref 22), some (.int x1), some (.int x2), some (.int x3), some (.int x4), some (.int x5), none] [] h := by
  obtain ⟨n, e⟩ := k
  exact Exists.intro (n + 5) (Exists.intro [.int x5, .int x2, .int x3] (Exists.intro 22 (Exists.intro [] (Exists.intro _ (Exists.intro (some (.int r)) (Exists.intro h2 (And.intro rfl (And.intro rfl (And.intro rfl (And.intro (Nat.le_of_ble_eq_true rfl) (And.intro hc e)))))))))))
theorem bC_29_45 {d : Nat} {Q : Option Value → ai_H → Prop} {h h2 : ai_H} {x1 x2 x3 x4 x5 y0 : Int32} (hc : CC d 72 [.ref 12, .int x4] h (none) h2) (k : RC d 29 Q 56 [some (.ref 22), some (.int x1), some (.int x2), some (.int x3), some (.int x4), some (.int x5), some (.int y0)] [] h2) : RC d 29 Q 45 [some (.ref 22), some (.int x1), some (.int x2), some (.int x3), some (.int x4), some (.int x5), none] [.int y0] h := by
  obtain ⟨n, e⟩ := k
  exact Exists.intro (n + 5) (Exists.intro _ (And.intro rfl (And.intro rfl (Exists.intro [.int x4] (Exists.intro 12 (Exists.intro [] (Exists.intro _ (Exists.intro (none) (Exists.intro h2 (And.intro rfl (And.intro rfl (And.intro rfl (And.intro (Nat.le_of_ble_eq_true rfl) (And.intro hc e))))))))))))))
theorem bC_29_56 {d : Nat} {Q : Option Value → ai_H → Prop} {h : ai_H} {x1 x2 x3 x4 x5 x6 : Int32} (k : Q (some (.int x6)) h) : RC d 29 Q 56 [some (.ref 22), some (.int x1), some (.int x2), some (.int x3), some (.int x4), some (.int x5), some (.int x6)] [] h := Exists.intro 2 (And.intro (Or.inl rfl) k)
theorem bC_30_0 {d : Nat} {Q : Option Value → ai_H → Prop} {h h2 : ai_H} {x1 x2 x3 r : Int32} (hc : CC d 67 [.ref 12, .int x2] h (some (.int r)) h2) (k : RC d 30 Q 8 [some (.ref 22), some (.int x1), some (.int x2), some (.int x3), none, none, none] [.int r] h2) : RC d 30 Q 0 [some (.ref 22), some (.int x1), some (.int x2), some (.int x3), none, none, none] [] h := by
  obtain ⟨n, e⟩ := k
  exact Exists.intro (n + 4) (And.intro rfl (Exists.intro [.int x2] (Exists.intro 12 (Exists.intro [] (Exists.intro _ (Exists.intro (some (.int r)) (Exists.intro h2 (And.intro rfl (And.intro rfl (And.intro rfl (And.intro (Nat.le_of_ble_eq_true rfl) (And.intro hc e))))))))))))
theorem bC_30_8 {d : Nat} {Q : Option Value → ai_H → Prop} {h : ai_H} {x1 x2 x3 y0 : Int32} (kt : y0 = 0 → RC d 30 Q 13 [some (.ref 22), some (.int x1), some (.int x2), some (.int x3), none, none, none] [] h) (kf : ¬ y0 = 0 → RC d 30 Q 11 [some (.ref 22), some (.int x1), some (.int x2), some (.int x3), none, none, none] [] h) : RC d 30 Q 8 [some (.ref 22), some (.int x1), some (.int x2), some (.int x3), none, none, none] [.int y0] h := by
  by_cases c : y0 = 0
  · obtain ⟨n, e⟩ := kt c
    exact Exists.intro (n + 1) (Or.inl (And.intro c e))
  · obtain ⟨n, e⟩ := kf c
    exact Exists.intro (n + 1) (Or.inr (And.intro c e))
theorem bC_30_11 {d : Nat} {Q : Option Value → ai_H → Prop} {h : ai_H} {x1 x2 x3 : Int32} (k : Q (some (.int 1)) h) : RC d 30 Q 11 [some (.ref 22), some (.int x1), some (.int x2), some (.int x3), none, none, none] [] h := Exists.intro 2 (And.intro (Or.inl rfl) k)
theorem bC_30_13 {d : Nat} {Q : Option Value → ai_H → Prop} {h h2 : ai_H} {x1 x2 x3 r : Int32} (hc : CC d 67 [.ref 12, .int x1] h (some (.int r)) h2) (k : RC d 30 Q 21 [some (.ref 22), some (.int x1), some (.int x2), some (.int x3), none, none, none] [.int r] h2) : RC d 30 Q 13 [some (.ref 22), some (.int x1), some (.int x2), some (.int x3), none, none, none] [] h := by
  obtain ⟨n, e⟩ := k
  exact Exists.intro (n + 4) (And.intro rfl (Exists.intro [.int x1] (Exists.intro 12 (Exists.intro [] (Exists.intro _ (Exists.intro (some (.int r)) (Exists.intro h2 (And.intro rfl (And.intro rfl (And.intro rfl (And.intro (Nat.le_of_ble_eq_true rfl) (And.intro hc e))))))))))))
theorem bC_30_21 {d : Nat} {Q : Option Value → ai_H → Prop} {h : ai_H} {x1 x2 x3 y0 : Int32} (kt : y0 = 0 → RC d 30 Q 26 [some (.ref 22), some (.int x1), some (.int x2), some (.int x3), none, none, none] [] h) (kf : ¬ y0 = 0 → RC d 30 Q 24 [some (.ref 22), some (.int x1), some (.int x2), some (.int x3), none, none, none] [] h) : RC d 30 Q 21 [some (.ref 22), some (.int x1), some (.int x2), some (.int x3), none, none, none] [.int y0] h := by
  by_cases c : y0 = 0
  · obtain ⟨n, e⟩ := kt c
    exact Exists.intro (n + 1) (Or.inl (And.intro c e))
  · obtain ⟨n, e⟩ := kf c
    exact Exists.intro (n + 1) (Or.inr (And.intro c e))
theorem bC_30_24 {d : Nat} {Q : Option Value → ai_H → Prop} {h : ai_H} {x1 x2 x3 : Int32} (k : Q (some (.int 2)) h) : RC d 30 Q 24 [some (.ref 22), some (.int x1), some (.int x2), some (.int x3), none, none, none] [] h := Exists.intro 2 (And.intro (Or.inl rfl) k)
theorem bC_30_26 {d : Nat} {Q : Option Value → ai_H → Prop} {h h2 : ai_H} {x1 x2 x3 r : Int32} (hc : CC d 64 [.ref 12, .int x1] h (some (.int r)) h2) (k : RC d 30 Q 34 [some (.ref 22), some (.int x1), some (.int x2), some (.int x3), none, none, none] [.int r] h2) : RC d 30 Q 26 [some (.ref 22), some (.int x1), some (.int x2), some (.int x3), none, none, none] [] h := by
  obtain ⟨n, e⟩ := k
  exact Exists.intro (n + 4) (And.intro rfl (Exists.intro [.int x1] (Exists.intro 12 (Exists.intro [] (Exists.intro _ (Exists.intro (some (.int r)) (Exists.intro h2 (And.intro rfl (And.intro rfl (And.intro rfl (And.intro (Nat.le_of_ble_eq_true rfl) (And.intro hc e))))))))))))
theorem bC_30_34 {d : Nat} {Q : Option Value → ai_H → Prop} {h h2 : ai_H} {x1 x2 x3 y0 r : Int32} (hc : CC d 64 [.ref 12, .int x2] h (some (.int r)) h2) (k : RC d 30 Q 42 [some (.ref 22), some (.int x1), some (.int x2), some (.int x3), none, none, none] [.int r, .int y0] h2) : RC d 30 Q 34 [some (.ref 22), some (.int x1), some (.int x2), some (.int x3), none, none, none] [.int y0] h := by
  obtain ⟨n, e⟩ := k
  exact Exists.intro (n + 4) (And.intro rfl (Exists.intro [.int x2] (Exists.intro 12 (Exists.intro [.int y0] (Exists.intro _ (Exists.intro (some (.int r)) (Exists.intro h2 (And.intro rfl (And.intro rfl (And.intro rfl (And.intro (Nat.le_of_ble_eq_true rfl) (And.intro hc e))))))))))))
theorem bC_30_42 {d : Nat} {Q : Option Value → ai_H → Prop} {h : ai_H} {x1 x2 x3 y0 y1 : Int32} (kt : y0 = y1 → RC d 30 Q 47 [some (.ref 22), some (.int x1), some (.int x2), some (.int x3), none, none, none] [] h) (kf : ¬ y0 = y1 → RC d 30 Q 45 [some (.ref 22), some (.int x1), some (.int x2), some (.int x3), none, none, none] [] h) : RC d 30 Q 42 [some (.ref 22), some (.int x1), some (.int x2), some (.int x3), none, none, none] [.int y1, .int y0] h := by
  by_cases c : y0 = y1
  · obtain ⟨n, e⟩ := kt c
    exact Exists.intro (n + 1) (Or.inl (And.intro c e))
  · obtain ⟨n, e⟩ := kf c
    exact Exists.intro (n + 1) (Or.inr (And.intro c e))
theorem bC_30_45 {d : Nat} {Q : Option Value → ai_H → Prop} {h : ai_H} {x1 x2 x3 : Int32} (k : Q (some (.int 0)) h) : RC d 30 Q 45 [some (.ref 22), some (.int x1), some (.int x2), some (.int x3), none, none, none] [] h := Exists.intro 2 (And.intro (Or.inl rfl) k)
theorem bC_30_47 {d : Nat} {Q : Option Value → ai_H → Prop} {h : ai_H} {x1 x2 x3 : Int32} (k : RC d 30 Q 53 [some (.ref 22), some (.int x1), some (.int x2), some (.int x3), some (.int 1), some (.int 0), none] [] h) : RC d 30 Q 47 [some (.ref 22), some (.int x1), some (.int x2), some (.int x3), none, none, none] [] h := by
  obtain ⟨n, e⟩ := k
  exact Exists.intro (n + 4) (Exists.intro _ (And.intro rfl (Exists.intro _ (And.intro rfl (e)))))
theorem bC_30_53 {d : Nat} {Q : Option Value → ai_H → Prop} {h h2 : ai_H} {x1 x2 x3 x4 x5 r : Int32} {o6 : Option Value} (hc : CC d 66 [.ref 12, .int x2] h (some (.int r)) h2) (k : RC d 30 Q 63 [some (.ref 22), some (.int x1), some (.int x2), some (.int x3), some (.int x4), some (.int x5), o6] [.int r, .int x5] h2) : RC d 30 Q 53 [some (.ref 22), some (.int x1), some (.int x2), some (.int x3), some (.int x4), some (.int x5), o6] [] h := by
  obtain ⟨n, e⟩ := k
  exact Exists.intro (n + 5) (And.intro rfl (Exists.intro [.int x2] (Exists.intro 12 (Exists.intro [.int x5] (Exists.intro _ (Exists.intro (some (.int r)) (Exists.intro h2 (And.intro rfl (And.intro rfl (And.intro rfl (And.intro (Nat.le_of_ble_eq_true rfl) (And.intro hc e))))))))))))
theorem bC_30_63 {d : Nat} {Q : Option Value → ai_H → Prop} {h : ai_H} {x1 x2 x3 x4 x5 y0 y1 : Int32} {o6 : Option Value} (kt : y1 ≤ y0 → RC d 30 Q 115 [some (.ref 22), some (.int x1), some (.int x2), some (.int x3), some (.int x4), some (.int x5), o6] [] h) (kf : ¬ y1 ≤ y0 → RC d 30 Q 66 [some (.ref 22), some (.int x1), some (.int x2), some (.int x3), some (.int x4), some (.int x5), o6] [] h) : RC d 30 Q 63 [some (.ref 22), some (.int x1), some (.int x2), some (.int x3), some (.int x4), some (.int x5), o6] [.int y1, .int y0] h := by
  by_cases c : y1 ≤ y0
  · obtain ⟨n, e⟩ := kt c
    exact Exists.intro (n + 1) (Or.inl (And.intro c e))
  · obtain ⟨n, e⟩ := kf c
    exact Exists.intro (n + 1) (Or.inr (And.intro c e))
theorem bC_30_66 {d : Nat} {Q : Option Value → ai_H → Prop} {h h2 : ai_H} {x1 x2 x3 x4 x5 r : Int32} {o6 : Option Value} (hc : CC d 65 [.ref 12, .int x1, .int x5] h (some (.int r)) h2) (k : RC d 30 Q 77 [some (.ref 22), some (.int x1), some (.int x2), some (.int x3), some (.int x4), some (.int x5), o6] [.int r, .ref 22] h2) : RC d 30 Q 66 [some (.ref 22), some (.int x1), some (.int x2), some (.int x3), some (.int x4), some (.int x5), o6] [] h := by
  obtain ⟨n, e⟩ := k
  exact Exists.intro (n + 6) (And.intro rfl (Exists.intro [.int x1, .int x5] (Exists.intro 12 (Exists.intro [.ref 22] (Exists.intro _ (Exists.intro (some (.int r)) (Exists.intro h2 (And.intro rfl (And.intro rfl (And.intro rfl (And.intro (Nat.le_of_ble_eq_true rfl) (And.intro hc e))))))))))))
theorem bC_30_77 {d : Nat} {Q : Option Value → ai_H → Prop} {h h2 : ai_H} {x1 x2 x3 x4 x5 y1 r : Int32} {o6 : Option Value} (hc : CC d 65 [.ref 12, .int x2, .int x5] h (some (.int r)) h2) (k : RC d 30 Q 87 [some (.ref 22), some (.int x1), some (.int x2), some (.int x3), some (.int x4), some (.int x5), o6] [.int r, .int y1, .ref 22] h2) : RC d 30 Q 77 [some (.ref 22), some (.int x1), some (.int x2), some (.int x3), some (.int x4), some (.int x5), o6] [.int y1, .ref 22] h := by
  obtain ⟨n, e⟩ := k
  exact Exists.intro (n + 5) (And.intro rfl (Exists.intro [.int x2, .int x5] (Exists.intro 12 (Exists.intro [.int y1, .ref 22] (Exists.intro _ (Exists.intro (some (.int r)) (Exists.intro h2 (And.intro rfl (And.intro rfl (And.intro rfl (And.intro (Nat.le_of_ble_eq_true rfl) (And.intro hc e))))))))))))
theorem bC_30_87 {d : Nat} {Q : Option Value → ai_H → Prop} {h h2 : ai_H} {x1 x2 x3 x4 x5 y1 y2 r : Int32} {o6 : Option Value} (hc : CC d 31 [.ref 22, .int y1, .int y2, .int x3] h (some (.int r)) h2) (k : RC d 30 Q 91 [some (.ref 22), some (.int x1), some (.int x2), some (.int x3), some (.int x4), some (.int x5), o6] [.int r] h2) : RC d 30 Q 87 [some (.ref 22), some (.int x1), some (.int x2), some (.int x3), some (.int x4), some (.int x5), o6] [.int y2, .int y1, .ref 22] h := by
  obtain ⟨n, e⟩ := k
  exact Exists.intro (n + 2) (Exists.intro [.int y1, .int y2, .int x3] (Exists.intro 22 (Exists.intro [] (Exists.intro _ (Exists.intro (some (.int r)) (Exists.intro h2 (And.intro rfl (And.intro rfl (And.intro rfl (And.intro (Nat.le_of_ble_eq_true rfl) (And.intro hc e)))))))))))
theorem bC_30_91 {d : Nat} {Q : Option Value → ai_H → Prop} {h : ai_H} {x1 x2 x3 x4 x5 y0 : Int32} {o6 : Option Value} (kt : ¬ y0 = 0 → RC d 30 Q 100 [some (.ref 22), some (.int x1), some (.int x2), some (.int x3), some (.int x4), some (.int x5), some (.int y0)] [] h) (kf : y0 = 0 → RC d 30 Q 98 [some (.ref 22), some (.int x1), some (.int x2), some (.int x3), some (.int x4), some (.int x5), some (.int y0)] [] h) : RC d 30 Q 91 [some (.ref 22), some (.int x1), some (.int x2), some (.int x3), some (.int x4), some (.int x5), o6] [.int y0] h := by
  by_cases c : y0 = 0
  · obtain ⟨n, e⟩ := kf c
    exact Exists.intro (n + 3) (Exists.intro _ (And.intro rfl (Or.inr (And.intro (fun z => z c) e))))
  · obtain ⟨n, e⟩ := kt c
    exact Exists.intro (n + 3) (Exists.intro _ (And.intro rfl (Or.inl (And.intro c e))))
theorem bC_30_98 {d : Nat} {Q : Option Value → ai_H → Prop} {h : ai_H} {x1 x2 x3 x4 x5 x6 : Int32} (k : Q (some (.int 0)) h) : RC d 30 Q 98 [some (.ref 22), some (.int x1), some (.int x2), some (.int x3), some (.int x4), some (.int x5), some (.int x6)] [] h := Exists.intro 2 (And.intro (Or.inl rfl) k)
theorem bC_30_100 {d : Nat} {Q : Option Value → ai_H → Prop} {h : ai_H} {x1 x2 x3 x4 x5 x6 : Int32} (k : RC d 30 Q 53 [some (.ref 22), some (.int x1), some (.int x2), some (.int x3), some (.int (if x4 < x6 then x6 else x4)), some (.int (x5 + 1)), some (.int x6)] [] h) : RC d 30 Q 100 [some (.ref 22), some (.int x1), some (.int x2), some (.int x3), some (.int x4), some (.int x5), some (.int x6)] [] h := by
  obtain ⟨n, e⟩ := k
  exact Exists.intro (n + 6) (And.intro (Nat.le_of_ble_eq_true rfl) (Exists.intro _ (And.intro rfl (Exists.intro _ (And.intro rfl (e))))))
theorem bC_30_115 {d : Nat} {Q : Option Value → ai_H → Prop} {h : ai_H} {x1 x2 x3 x4 x5 : Int32} {o6 : Option Value} (k : Q (some (.int x4)) h) : RC d 30 Q 115 [some (.ref 22), some (.int x1), some (.int x2), some (.int x3), some (.int x4), some (.int x5), o6] [] h := Exists.intro 2 (And.intro (Or.inl rfl) k)
theorem bC_31_0 {d : Nat} {Q : Option Value → ai_H → Prop} {h h2 : ai_H} {x1 x2 x3 r : Int32} (hc : CC d 97 [.int x2] h (some (.int r)) h2) (k : RC d 31 Q 4 [some (.ref 22), some (.int x1), some (.int x2), some (.int x3), none] [.int r] h2) : RC d 31 Q 0 [some (.ref 22), some (.int x1), some (.int x2), some (.int x3), none] [] h := by
  obtain ⟨n, e⟩ := k
  exact Exists.intro (n + 2) (Exists.intro [.int x2] (Exists.intro [] (Exists.intro (some (.int r)) (Exists.intro h2 (And.intro rfl (And.intro rfl (And.intro (Nat.le_of_ble_eq_true rfl) (And.intro hc e))))))))
theorem bC_31_4 {d : Nat} {Q : Option Value → ai_H → Prop} {h : ai_H} {x1 x2 x3 y0 : Int32} (kt : ¬ y0 = 3 → RC d 31 Q 14 [some (.ref 22), some (.int x1), some (.int x2), some (.int x3), some (.int y0)] [] h) (kf : y0 = 3 → RC d 31 Q 12 [some (.ref 22), some (.int x1), some (.int x2), some (.int x3), some (.int y0)] [] h) : RC d 31 Q 4 [some (.ref 22), some (.int x1), some (.int x2), some (.int x3), none] [.int y0] h := by
  by_cases c : y0 = 3
  · obtain ⟨n, e⟩ := kf c
    exact Exists.intro (n + 4) (Exists.intro _ (And.intro rfl (Or.inr (And.intro (fun z => z c) e))))
  · obtain ⟨n, e⟩ := kt c
    exact Exists.intro (n + 4) (Exists.intro _ (And.intro rfl (Or.inl (And.intro c e))))
theorem bC_31_12 {d : Nat} {Q : Option Value → ai_H → Prop} {h : ai_H} {x1 x2 x3 x4 : Int32} (k : Q (some (.int 1)) h) : RC d 31 Q 12 [some (.ref 22), some (.int x1), some (.int x2), some (.int x3), some (.int x4)] [] h := Exists.intro 2 (And.intro (Or.inl rfl) k)
theorem bC_31_14 {d : Nat} {Q : Option Value → ai_H → Prop} {h : ai_H} {x1 x2 x3 x4 : Int32} (kt : ¬ x4 = 0 → RC d 31 Q 30 [some (.ref 22), some (.int x1), some (.int x2), some (.int x3), some (.int x4)] [] h) (kf : x4 = 0 → RC d 31 Q 19 [some (.ref 22), some (.int x1), some (.int x2), some (.int x3), some (.int x4)] [] h) : RC d 31 Q 14 [some (.ref 22), some (.int x1), some (.int x2), some (.int x3), some (.int x4)] [] h := by
  by_cases c : x4 = 0
  · obtain ⟨n, e⟩ := kf c
    exact Exists.intro (n + 2) (Or.inr (And.intro (fun z => z c) e))
  · obtain ⟨n, e⟩ := kt c
    exact Exists.intro (n + 2) (Or.inl (And.intro c e))
theorem bC_31_19 {d : Nat} {Q : Option Value → ai_H → Prop} {h : ai_H} {x1 x2 x3 x4 : Int32} (kt : ¬ x1 = x2 → RC d 31 Q 28 [some (.ref 22), some (.int x1), some (.int x2), some (.int x3), some (.int x4)] [] h) (kf : x1 = x2 → RC d 31 Q 24 [some (.ref 22), some (.int x1), some (.int x2), some (.int x3), some (.int x4)] [] h) : RC d 31 Q 19 [some (.ref 22), some (.int x1), some (.int x2), some (.int x3), some (.int x4)] [] h := by
  by_cases c : x1 = x2
  · obtain ⟨n, e⟩ := kf c
    exact Exists.intro (n + 3) (Or.inr (And.intro (fun z => z c) e))
  · obtain ⟨n, e⟩ := kt c
    exact Exists.intro (n + 3) (Or.inl (And.intro c e))
theorem bC_31_24 {d : Nat} {Q : Option Value → ai_H → Prop} {h : ai_H} {x1 x2 x3 x4 : Int32} (k : RC d 31 Q 29 [some (.ref 22), some (.int x1), some (.int x2), some (.int x3), some (.int x4)] [.int 1] h) : RC d 31 Q 24 [some (.ref 22), some (.int x1), some (.int x2), some (.int x3), some (.int x4)] [] h := by
  obtain ⟨n, e⟩ := k
  exact Exists.intro (n + 2) (e)
theorem bC_31_28 {d : Nat} {Q : Option Value → ai_H → Prop} {h : ai_H} {x1 x2 x3 x4 : Int32} (k : RC d 31 Q 29 [some (.ref 22), some (.int x1), some (.int x2), some (.int x3), some (.int x4)] [.int 0] h) : RC d 31 Q 28 [some (.ref 22), some (.int x1), some (.int x2), some (.int x3), some (.int x4)] [] h := by
  obtain ⟨n, e⟩ := k
  exact Exists.intro (n + 1) (e)
theorem bC_31_29 {d : Nat} {Q : Option Value → ai_H → Prop} {h : ai_H} {x1 x2 x3 x4 y0 : Int32} (k : Q (some (.int y0)) h) : RC d 31 Q 29 [some (.ref 22), some (.int x1), some (.int x2), some (.int x3), some (.int x4)] [.int y0] h := Exists.intro 1 (And.intro (Or.inl rfl) k)
theorem bC_31_30 {d : Nat} {Q : Option Value → ai_H → Prop} {h h2 : ai_H} {x1 x2 x3 x4 r : Int32} (hc : CC d 97 [.int x1] h (some (.int r)) h2) (k : RC d 31 Q 34 [some (.ref 22), some (.int x1), some (.int x2), some (.int x3), some (.int x4)] [.int r] h2) : RC d 31 Q 30 [some (.ref 22), some (.int x1), some (.int x2), some (.int x3), some (.int x4)] [] h := by
  obtain ⟨n, e⟩ := k
  exact Exists.intro (n + 2) (Exists.intro [.int x1] (Exists.intro [] (Exists.intro (some (.int r)) (Exists.intro h2 (And.intro rfl (And.intro rfl (And.intro (Nat.le_of_ble_eq_true rfl) (And.intro hc e))))))))
theorem bC_31_34 {d : Nat} {Q : Option Value → ai_H → Prop} {h : ai_H} {x1 x2 x3 x4 y0 : Int32} (kt : y0 = 0 → RC d 31 Q 48 [some (.ref 22), some (.int x1), some (.int x2), some (.int x3), some (.int x4)] [] h) (kf : ¬ y0 = 0 → RC d 31 Q 37 [some (.ref 22), some (.int x1), some (.int x2), some (.int x3), some (.int x4)] [] h) : RC d 31 Q 34 [some (.ref 22), some (.int x1), some (.int x2), some (.int x3), some (.int x4)] [.int y0] h := by
  by_cases c : y0 = 0
  · obtain ⟨n, e⟩ := kt c
    exact Exists.intro (n + 1) (Or.inl (And.intro c e))
  · obtain ⟨n, e⟩ := kf c
    exact Exists.intro (n + 1) (Or.inr (And.intro c e))
theorem bC_31_37 {d : Nat} {Q : Option Value → ai_H → Prop} {h h2 : ai_H} {x1 x2 x3 x4 r : Int32} (hc : CC d 97 [.int x1] h (some (.int r)) h2) (k : RC d 31 Q 41 [some (.ref 22), some (.int x1), some (.int x2), some (.int x3), some (.int x4)] [.int r] h2) : RC d 31 Q 37 [some (.ref 22), some (.int x1), some (.int x2), some (.int x3), some (.int x4)] [] h := by
  obtain ⟨n, e⟩ := k
  exact Exists.intro (n + 2) (Exists.intro [.int x1] (Exists.intro [] (Exists.intro (some (.int r)) (Exists.intro h2 (And.intro rfl (And.intro rfl (And.intro (Nat.le_of_ble_eq_true rfl) (And.intro hc e))))))))
theorem bC_31_41 {d : Nat} {Q : Option Value → ai_H → Prop} {h : ai_H} {x1 x2 x3 x4 y0 : Int32} (kt : y0 = x4 → RC d 31 Q 48 [some (.ref 22), some (.int x1), some (.int x2), some (.int x3), some (.int x4)] [] h) (kf : ¬ y0 = x4 → RC d 31 Q 46 [some (.ref 22), some (.int x1), some (.int x2), some (.int x3), some (.int x4)] [] h) : RC d 31 Q 41 [some (.ref 22), some (.int x1), some (.int x2), some (.int x3), some (.int x4)] [.int y0] h := by
  by_cases c : y0 = x4
  · obtain ⟨n, e⟩ := kt c
    exact Exists.intro (n + 2) (Or.inl (And.intro c e))
  · obtain ⟨n, e⟩ := kf c
    exact Exists.intro (n + 2) (Or.inr (And.intro c e))
theorem bC_31_46 {d : Nat} {Q : Option Value → ai_H → Prop} {h : ai_H} {x1 x2 x3 x4 : Int32} (k : Q (some (.int 0)) h) : RC d 31 Q 46 [some (.ref 22), some (.int x1), some (.int x2), some (.int x3), some (.int x4)] [] h := Exists.intro 2 (And.intro (Or.inl rfl) k)
theorem bC_31_48 {d : Nat} {Q : Option Value → ai_H → Prop} {h : ai_H} {x1 x2 x3 x4 : Int32} (kt : ¬ x4 = 1 → RC d 31 Q 72 [some (.ref 22), some (.int x1), some (.int x2), some (.int x3), some (.int x4)] [] h) (kf : x4 = 1 → RC d 31 Q 54 [some (.ref 22), some (.int x1), some (.int x2), some (.int x3), some (.int x4)] [] h) : RC d 31 Q 48 [some (.ref 22), some (.int x1), some (.int x2), some (.int x3), some (.int x4)] [] h := by
  by_cases c : x4 = 1
  · obtain ⟨n, e⟩ := kf c
    exact Exists.intro (n + 3) (Or.inr (And.intro (fun z => z c) e))
  · obtain ⟨n, e⟩ := kt c
    exact Exists.intro (n + 3) (Or.inl (And.intro c e))
theorem bC_31_54 {d : Nat} {Q : Option Value → ai_H → Prop} {h h2 : ai_H} {x1 x2 x3 x4 r : Int32} (hc : CC d 98 [.int x1] h (some (.int r)) h2) (k : RC d 31 Q 59 [some (.ref 22), some (.int x1), some (.int x2), some (.int x3), some (.int x4)] [.int r, .ref 22] h2) : RC d 31 Q 54 [some (.ref 22), some (.int x1), some (.int x2), some (.int x3), some (.int x4)] [] h := by
  obtain ⟨n, e⟩ := k
  exact Exists.intro (n + 3) (Exists.intro [.int x1] (Exists.intro [.ref 22] (Exists.intro (some (.int r)) (Exists.intro h2 (And.intro rfl (And.intro rfl (And.intro (Nat.le_of_ble_eq_true rfl) (And.intro hc e))))))))
theorem bC_31_59 {d : Nat} {Q : Option Value → ai_H → Prop} {h h2 : ai_H} {x1 x2 x3 x4 y1 r : Int32} (hc : CC d 98 [.int x2] h (some (.int r)) h2) (k : RC d 31 Q 63 [some (.ref 22), some (.int x1), some (.int x2), some (.int x3), some (.int x4)] [.int r, .int y1, .ref 22] h2) : RC d 31 Q 59 [some (.ref 22), some (.int x1), some (.int x2), some (.int x3), some (.int x4)] [.int y1, .ref 22] h := by
  obtain ⟨n, e⟩ := k
  exact Exists.intro (n + 2) (Exists.intro [.int x2] (Exists.intro [.int y1, .ref 22] (Exists.intro (some (.int r)) (Exists.intro h2 (And.intro rfl (And.intro rfl (And.intro (Nat.le_of_ble_eq_true rfl) (And.intro hc e))))))))
theorem bC_31_63 {d : Nat} {Q : Option Value → ai_H → Prop} {h h2 : ai_H} {x1 x2 x3 x4 y1 y2 r : Int32} (hc : CC d 25 [.ref 22, .int y1, .int y2, .int (x3 + 1)] h (some (.int r)) h2) (k : RC d 31 Q 69 [some (.ref 22), some (.int x1), some (.int x2), some (.int x3), some (.int x4)] [.int r] h2) : RC d 31 Q 63 [some (.ref 22), some (.int x1), some (.int x2), some (.int x3), some (.int x4)] [.int y2, .int y1, .ref 22] h := by
  obtain ⟨n, e⟩ := k
  exact Exists.intro (n + 4) (Exists.intro [.int y1, .int y2, .int (x3 + 1)] (Exists.intro 22 (Exists.intro [] (Exists.intro _ (Exists.intro (some (.int r)) (Exists.intro h2 (And.intro rfl (And.intro rfl (And.intro rfl (And.intro (Nat.le_of_ble_eq_true rfl) (And.intro hc e)))))))))))
theorem bC_31_69 {d : Nat} {Q : Option Value → ai_H → Prop} {h : ai_H} {x1 x2 x3 x4 y0 : Int32} (k : RC d 31 Q 87 [some (.ref 22), some (.int x1), some (.int x2), some (.int x3), some (.int x4)] [.int y0] h) : RC d 31 Q 69 [some (.ref 22), some (.int x1), some (.int x2), some (.int x3), some (.int x4)] [.int y0] h := by
  obtain ⟨n, e⟩ := k
  exact Exists.intro (n + 1) (e)
theorem bC_31_72 {d : Nat} {Q : Option Value → ai_H → Prop} {h h2 : ai_H} {x1 x2 x3 x4 r : Int32} (hc : CC d 98 [.int x2] h (some (.int r)) h2) (k : RC d 31 Q 77 [some (.ref 22), some (.int x1), some (.int x2), some (.int x3), some (.int x4)] [.int r, .ref 22] h2) : RC d 31 Q 72 [some (.ref 22), some (.int x1), some (.int x2), some (.int x3), some (.int x4)] [] h := by
  obtain ⟨n, e⟩ := k
  exact Exists.intro (n + 3) (Exists.intro [.int x2] (Exists.intro [.ref 22] (Exists.intro (some (.int r)) (Exists.intro h2 (And.intro rfl (And.intro rfl (And.intro (Nat.le_of_ble_eq_true rfl) (And.intro hc e))))))))
theorem bC_31_77 {d : Nat} {Q : Option Value → ai_H → Prop} {h h2 : ai_H} {x1 x2 x3 x4 y1 r : Int32} (hc : CC d 98 [.int x1] h (some (.int r)) h2) (k : RC d 31 Q 81 [some (.ref 22), some (.int x1), some (.int x2), some (.int x3), some (.int x4)] [.int r, .int y1, .ref 22] h2) : RC d 31 Q 77 [some (.ref 22), some (.int x1), some (.int x2), some (.int x3), some (.int x4)] [.int y1, .ref 22] h := by
  obtain ⟨n, e⟩ := k
  exact Exists.intro (n + 2) (Exists.intro [.int x1] (Exists.intro [.int y1, .ref 22] (Exists.intro (some (.int r)) (Exists.intro h2 (And.intro rfl (And.intro rfl (And.intro (Nat.le_of_ble_eq_true rfl) (And.intro hc e))))))))
theorem bC_31_81 {d : Nat} {Q : Option Value → ai_H → Prop} {h h2 : ai_H} {x1 x2 x3 x4 y1 y2 r : Int32} (hc : CC d 25 [.ref 22, .int y1, .int y2, .int (x3 + 1)] h (some (.int r)) h2) (k : RC d 31 Q 87 [some (.ref 22), some (.int x1), some (.int x2), some (.int x3), some (.int x4)] [.int r] h2) : RC d 31 Q 81 [some (.ref 22), some (.int x1), some (.int x2), some (.int x3), some (.int x4)] [.int y2, .int y1, .ref 22] h := by
  obtain ⟨n, e⟩ := k
  exact Exists.intro (n + 4) (Exists.intro [.int y1, .int y2, .int (x3 + 1)] (Exists.intro 22 (Exists.intro [] (Exists.intro _ (Exists.intro (some (.int r)) (Exists.intro h2 (And.intro rfl (And.intro rfl (And.intro rfl (And.intro (Nat.le_of_ble_eq_true rfl) (And.intro hc e)))))))))))
theorem bC_31_87 {d : Nat} {Q : Option Value → ai_H → Prop} {h : ai_H} {x1 x2 x3 x4 y0 : Int32} (k : Q (some (.int y0)) h) : RC d 31 Q 87 [some (.ref 22), some (.int x1), some (.int x2), some (.int x3), some (.int x4)] [.int y0] h := Exists.intro 1 (And.intro (Or.inl rfl) k)
theorem bC_32_0 {d : Nat} {Q : Option Value → ai_H → Prop} {h : ai_H} (k : Q (some (.int (h 26 3))) h) : RC d 32 Q 0 [some (.ref 26)] [] h := Exists.intro 3 (And.intro rfl (And.intro (Or.inl rfl) k))
theorem bC_33_0 {d : Nat} {Q : Option Value → ai_H → Prop} {h : ai_H} {x1 : Int32} (kt : x1 < 0 → RC d 33 Q 28 [some (.ref 26), some (.int x1)] [] h) (kf : ¬ x1 < 0 → RC d 33 Q 4 [some (.ref 26), some (.int x1)] [] h) : RC d 33 Q 0 [some (.ref 26), some (.int x1)] [] h := by
  by_cases c : x1 < 0
  · obtain ⟨n, e⟩ := kt c
    exact Exists.intro (n + 2) (Or.inl (And.intro c e))
  · obtain ⟨n, e⟩ := kf c
    exact Exists.intro (n + 2) (Or.inr (And.intro c e))
theorem bC_33_4 {d : Nat} {Q : Option Value → ai_H → Prop} {h : ai_H} {x1 : Int32} (kt : (h 26 3) ≤ x1 → RC d 33 Q 28 [some (.ref 26), some (.int x1)] [] h) (kf : ¬ (h 26 3) ≤ x1 → RC d 33 Q 12 [some (.ref 26), some (.int x1)] [] h) : RC d 33 Q 4 [some (.ref 26), some (.int x1)] [] h := by
  by_cases c : (h 26 3) ≤ x1
  · obtain ⟨n, e⟩ := kt c
    exact Exists.intro (n + 4) (And.intro rfl (Or.inl (And.intro c e)))
  · obtain ⟨n, e⟩ := kf c
    exact Exists.intro (n + 4) (And.intro rfl (Or.inr (And.intro c e)))
theorem bC_33_12 {d : Nat} {Q : Option Value → ai_H → Prop} {h : ai_H} {x1 : Int32} (kt : 200 ≤ x1 → RC d 33 Q 28 [some (.ref 26), some (.int x1)] [] h) (kf : ¬ 200 ≤ x1 → RC d 33 Q 19 [some (.ref 26), some (.int x1)] [] h) : RC d 33 Q 12 [some (.ref 26), some (.int x1)] [] h := by
  by_cases c : 200 ≤ x1
  · obtain ⟨n, e⟩ := kt c
    exact Exists.intro (n + 3) (Or.inl (And.intro c e))
  · obtain ⟨n, e⟩ := kf c
    exact Exists.intro (n + 3) (Or.inr (And.intro c e))
theorem bC_33_19 {d : Nat} {Q : Option Value → ai_H → Prop} {h : ai_H} {x1 : Int32} (hi1 : vp_in x1 200) (k : RC d 33 Q 29 [some (.ref 26), some (.int x1)] [.int (h 27 (Int32.toNatClampNeg x1))] h) : RC d 33 Q 19 [some (.ref 26), some (.int x1)] [] h := by
  obtain ⟨n, e⟩ := k
  exact Exists.intro (n + 5) (And.intro rfl (Exists.intro 200 (And.intro rfl (And.intro hi1 (e)))))
theorem bC_33_28 {d : Nat} {Q : Option Value → ai_H → Prop} {h : ai_H} {x1 : Int32} (k : RC d 33 Q 29 [some (.ref 26), some (.int x1)] [.int (-1)] h) : RC d 33 Q 28 [some (.ref 26), some (.int x1)] [] h := by
  obtain ⟨n, e⟩ := k
  exact Exists.intro (n + 1) (e)
theorem bC_33_29 {d : Nat} {Q : Option Value → ai_H → Prop} {h : ai_H} {x1 y0 : Int32} (k : Q (some (.int y0)) h) : RC d 33 Q 29 [some (.ref 26), some (.int x1)] [.int y0] h := Exists.intro 1 (And.intro (Or.inl rfl) k)
theorem bC_34_0 {d : Nat} {Q : Option Value → ai_H → Prop} {h h2 : ai_H} {x1 : Int32} (hc : CC d 36 [.ref 26, .int x1, .int 0] (ai_up h 26 4 0) (none) h2) (k : RC d 34 Q 11 [some (.ref 26), some (.int x1)] [] h2) : RC d 34 Q 0 [some (.ref 26), some (.int x1)] [] h := by
  obtain ⟨n, e⟩ := k
  exact Exists.intro (n + 7) (And.intro (Exists.intro _ (And.intro rfl rfl)) (And.intro (Or.inl rfl) (Exists.intro [.int x1, .int 0] (Exists.intro 26 (Exists.intro [] (Exists.intro _ (Exists.intro (none) (Exists.intro h2 (And.intro rfl (And.intro rfl (And.intro rfl (And.intro (Nat.le_of_ble_eq_true rfl) (And.intro hc e)))))))))))))
theorem bC_34_11 {d : Nat} {Q : Option Value → ai_H → Prop} {h : ai_H} {x1 : Int32} (kt : (h 26 4) ≤ 200 → RC d 34 Q 24 [some (.ref 26), some (.int x1)] [] h) (kf : ¬ (h 26 4) ≤ 200 → RC d 34 Q 21 [some (.ref 26), some (.int x1)] [] h) : RC d 34 Q 11 [some (.ref 26), some (.int x1)] [] h := by
  by_cases c : (h 26 4) ≤ 200
  · obtain ⟨n, e⟩ := kt c
    exact Exists.intro (n + 4) (And.intro rfl (Or.inl (And.intro c e)))
  · obtain ⟨n, e⟩ := kf c
    exact Exists.intro (n + 4) (And.intro rfl (Or.inr (And.intro c e)))
theorem bC_34_21 {d : Nat} {Q : Option Value → ai_H → Prop} {h : ai_H} {x1 : Int32} (k : Q (some (.int (-5))) h) : RC d 34 Q 21 [some (.ref 26), some (.int x1)] [] h := Exists.intro 2 (And.intro (Or.inl rfl) k)
theorem bC_34_24 {d : Nat} {Q : Option Value → ai_H → Prop} {h : ai_H} {x1 : Int32} (hcp : ¬ (0 : Int32) < 0 ∧ ¬ (0 : Int32) < 0 ∧ ¬ (h 26 4) < 0 ∧ Int32.toNatClampNeg 0 + Int32.toNatClampNeg (h 26 4) ≤ 200 ∧ Int32.toNatClampNeg 0 + Int32.toNatClampNeg (h 26 4) ≤ 200) (k : Q (some (.int ((ai_up (ai_cp h 28 27 (Int32.toNatClampNeg 0) (Int32.toNatClampNeg 0) (Int32.toNatClampNeg (h 26 4))) 26 3 ((ai_cp h 28 27 (Int32.toNatClampNeg 0) (Int32.toNatClampNeg 0) (Int32.toNatClampNeg (h 26 4))) 26 4)) 26 3))) (ai_up (ai_cp h 28 27 (Int32.toNatClampNeg 0) (Int32.toNatClampNeg 0) (Int32.toNatClampNeg (h 26 4))) 26 3 ((ai_cp h 28 27 (Int32.toNatClampNeg 0) (Int32.toNatClampNeg 0) (Int32.toNatClampNeg (h 26 4))) 26 4))) : RC d 34 Q 24 [some (.ref 26), some (.int x1)] [] h := Exists.intro 16 (And.intro rfl (And.intro rfl (And.intro rfl (Exists.intro _ (Exists.intro _ (And.intro rfl (And.intro rfl (And.intro hcp.1 (And.intro hcp.2.1 (And.intro hcp.2.2.1 (And.intro hcp.2.2.2.1 (And.intro hcp.2.2.2.2 (And.intro (Nat.le_of_ble_eq_true rfl) (And.intro rfl (And.intro (Exists.intro _ (And.intro rfl rfl)) (And.intro (Or.inl rfl) (And.intro rfl (And.intro (Or.inl rfl) k))))))))))))))))))
theorem bC_35_0 {d : Nat} {Q : Option Value → ai_H → Prop} {h : ai_H} {x1 : Int32} (kt : 200 ≤ (h 26 4) → RC d 35 Q 20 [some (.ref 26), some (.int x1)] [] h) (kf : ¬ 200 ≤ (h 26 4) → RC d 35 Q 10 [some (.ref 26), some (.int x1)] [] h) : RC d 35 Q 0 [some (.ref 26), some (.int x1)] [] h := by
  by_cases c : 200 ≤ (h 26 4)
  · obtain ⟨n, e⟩ := kt c
    exact Exists.intro (n + 4) (And.intro rfl (Or.inl (And.intro c e)))
  · obtain ⟨n, e⟩ := kf c
    exact Exists.intro (n + 4) (And.intro rfl (Or.inr (And.intro c e)))
theorem bC_35_10 {d : Nat} {Q : Option Value → ai_H → Prop} {h : ai_H} {x1 : Int32} (hi1 : vp_in (h 26 4) 200) (k : RC d 35 Q 20 [some (.ref 26), some (.int x1)] [] (ai_up h 28 (Int32.toNatClampNeg (h 26 4)) x1)) : RC d 35 Q 10 [some (.ref 26), some (.int x1)] [] h := by
  obtain ⟨n, e⟩ := k
  exact Exists.intro (n + 6) (And.intro rfl (And.intro rfl (Exists.intro 200 (And.intro rfl (And.intro hi1 (e))))))
theorem bC_35_20 {d : Nat} {Q : Option Value → ai_H → Prop} {h : ai_H} {x1 : Int32} (k : Q none (ai_up h 26 4 ((h 26 4) + 1))) : RC d 35 Q 20 [some (.ref 26), some (.int x1)] [] h := Exists.intro 7 (And.intro rfl (And.intro rfl (And.intro (Exists.intro _ (And.intro rfl rfl)) (And.intro (Or.inl rfl) (k)))))
theorem bC_36_0 {d : Nat} {Q : Option Value → ai_H → Prop} {h h2 : ai_H} {x1 x2 r : Int32} (hc : CC d 60 [.ref 12, .int x1] h (some (.int r)) h2) (k : RC d 36 Q 8 [some (.ref 26), some (.int x1), some (.int x2), none] [.int r] h2) : RC d 36 Q 0 [some (.ref 26), some (.int x1), some (.int x2), none] [] h := by
  obtain ⟨n, e⟩ := k
  exact Exists.intro (n + 4) (And.intro rfl (Exists.intro [.int x1] (Exists.intro 12 (Exists.intro [] (Exists.intro _ (Exists.intro (some (.int r)) (Exists.intro h2 (And.intro rfl (And.intro rfl (And.intro rfl (And.intro (Nat.le_of_ble_eq_true rfl) (And.intro hc e))))))))))))
theorem bC_36_8 {d : Nat} {Q : Option Value → ai_H → Prop} {h : ai_H} {x1 x2 y0 : Int32} (kt : x2 ≤ 64 → RC d 36 Q 16 [some (.ref 26), some (.int x1), some (.int x2), some (.int y0)] [] h) (kf : ¬ x2 ≤ 64 → RC d 36 Q 15 [some (.ref 26), some (.int x1), some (.int x2), some (.int y0)] [] h) : RC d 36 Q 8 [some (.ref 26), some (.int x1), some (.int x2), none] [.int y0] h := by
  by_cases c : x2 ≤ 64
  · obtain ⟨n, e⟩ := kt c
    exact Exists.intro (n + 4) (Exists.intro _ (And.intro rfl (Or.inl (And.intro c e))))
  · obtain ⟨n, e⟩ := kf c
    exact Exists.intro (n + 4) (Exists.intro _ (And.intro rfl (Or.inr (And.intro c e))))
theorem bC_36_15 {d : Nat} {Q : Option Value → ai_H → Prop} {h : ai_H} {x1 x2 x3 : Int32} (k : Q none h) : RC d 36 Q 15 [some (.ref 26), some (.int x1), some (.int x2), some (.int x3)] [] h := Exists.intro 1 (k)
theorem bC_36_16 {d : Nat} {Q : Option Value → ai_H → Prop} {h : ai_H} {x1 x2 x3 : Int32} (kt : 2 < x3 → RC d 36 Q 32 [some (.ref 26), some (.int x1), some (.int x2), some (.int x3)] [] h) (kf : ¬ 2 < x3 → RC d 36 Q 21 [some (.ref 26), some (.int x1), some (.int x2), some (.int x3)] [] h) : RC d 36 Q 16 [some (.ref 26), some (.int x1), some (.int x2), some (.int x3)] [] h := by
  by_cases c : 2 < x3
  · obtain ⟨n, e⟩ := kt c
    exact Exists.intro (n + 3) (Or.inl (And.intro c e))
  · obtain ⟨n, e⟩ := kf c
    exact Exists.intro (n + 3) (Or.inr (And.intro c e))
theorem bC_36_21 {d : Nat} {Q : Option Value → ai_H → Prop} {h h2 : ai_H} {x1 x2 x3 : Int32} (hc : CC d 35 [.ref 26, .int (48 + x1)] h (none) h2) (k : RC d 36 Q 29 [some (.ref 26), some (.int x1), some (.int x2), some (.int x3)] [] h2) : RC d 36 Q 21 [some (.ref 26), some (.int x1), some (.int x2), some (.int x3)] [] h := by
  obtain ⟨n, e⟩ := k
  exact Exists.intro (n + 5) (Exists.intro [.int (48 + x1)] (Exists.intro 26 (Exists.intro [] (Exists.intro _ (Exists.intro (none) (Exists.intro h2 (And.intro rfl (And.intro rfl (And.intro rfl (And.intro (Nat.le_of_ble_eq_true rfl) (And.intro hc e)))))))))))
theorem bC_36_29 {d : Nat} {Q : Option Value → ai_H → Prop} {h : ai_H} {x1 x2 x3 : Int32} (k : RC d 36 Q 159 [some (.ref 26), some (.int x1), some (.int x2), some (.int x3)] [] h) : RC d 36 Q 29 [some (.ref 26), some (.int x1), some (.int x2), some (.int x3)] [] h := by
  obtain ⟨n, e⟩ := k
  exact Exists.intro (n + 1) (e)
theorem bC_36_32 {d : Nat} {Q : Option Value → ai_H → Prop} {h : ai_H} {x1 x2 x3 : Int32} (kt : ¬ x3 = 3 → RC d 36 Q 70 [some (.ref 26), some (.int x1), some (.int x2), some (.int x3)] [] h) (kf : x3 = 3 → RC d 36 Q 37 [some (.ref 26), some (.int x1), some (.int x2), some (.int x3)] [] h) : RC d 36 Q 32 [some (.ref 26), some (.int x1), some (.int x2), some (.int x3)] [] h := by
  by_cases c : x3 = 3
  · obtain ⟨n, e⟩ := kf c
    exact Exists.intro (n + 3) (Or.inr (And.intro (fun z => z c) e))
  · obtain ⟨n, e⟩ := kt c
    exact Exists.intro (n + 3) (Or.inl (And.intro c e))
theorem bC_36_37 {d : Nat} {Q : Option Value → ai_H → Prop} {h h2 : ai_H} {x1 x2 x3 r : Int32} (hc : CC d 61 [.ref 12, .int x1] h (some (.int r)) h2) (k : RC d 36 Q 48 [some (.ref 26), some (.int x1), some (.int x2), some (.int x3)] [.int r, .int 97, .ref 26] h2) : RC d 36 Q 37 [some (.ref 26), some (.int x1), some (.int x2), some (.int x3)] [] h := by
  obtain ⟨n, e⟩ := k
  exact Exists.intro (n + 6) (And.intro rfl (Exists.intro [.int x1] (Exists.intro 12 (Exists.intro [.int 97, .ref 26] (Exists.intro _ (Exists.intro (some (.int r)) (Exists.intro h2 (And.intro rfl (And.intro rfl (And.intro rfl (And.intro (Nat.le_of_ble_eq_true rfl) (And.intro hc e))))))))))))
theorem bC_36_48 {d : Nat} {Q : Option Value → ai_H → Prop} {h h2 : ai_H} {x1 x2 x3 y1 y2 : Int32} (hc : CC d 35 [.ref 26, .int (y1 + y2)] h (none) h2) (k : RC d 36 Q 52 [some (.ref 26), some (.int x1), some (.int x2), some (.int x3)] [] h2) : RC d 36 Q 48 [some (.ref 26), some (.int x1), some (.int x2), some (.int x3)] [.int y2, .int y1, .ref 26] h := by
  obtain ⟨n, e⟩ := k
  exact Exists.intro (n + 2) (Exists.intro [.int (y1 + y2)] (Exists.intro 26 (Exists.intro [] (Exists.intro _ (Exists.intro (none) (Exists.intro h2 (And.intro rfl (And.intro rfl (And.intro rfl (And.intro (Nat.le_of_ble_eq_true rfl) (And.intro hc e)))))))))))
theorem bC_36_52 {d : Nat} {Q : Option Value → ai_H → Prop} {h h2 : ai_H} {x1 x2 x3 r : Int32} (hc : CC d 62 [.ref 12, .int x1] h (some (.int r)) h2) (k : RC d 36 Q 63 [some (.ref 26), some (.int x1), some (.int x2), some (.int x3)] [.int r, .int 48, .ref 26] h2) : RC d 36 Q 52 [some (.ref 26), some (.int x1), some (.int x2), some (.int x3)] [] h := by
  obtain ⟨n, e⟩ := k
  exact Exists.intro (n + 6) (And.intro rfl (Exists.intro [.int x1] (Exists.intro 12 (Exists.intro [.int 48, .ref 26] (Exists.intro _ (Exists.intro (some (.int r)) (Exists.intro h2 (And.intro rfl (And.intro rfl (And.intro rfl (And.intro (Nat.le_of_ble_eq_true rfl) (And.intro hc e))))))))))))
theorem bC_36_63 {d : Nat} {Q : Option Value → ai_H → Prop} {h h2 : ai_H} {x1 x2 x3 y1 y2 : Int32} (hc : CC d 35 [.ref 26, .int (y1 + y2)] h (none) h2) (k : RC d 36 Q 67 [some (.ref 26), some (.int x1), some (.int x2), some (.int x3)] [] h2) : RC d 36 Q 63 [some (.ref 26), some (.int x1), some (.int x2), some (.int x3)] [.int y2, .int y1, .ref 26] h := by
  obtain ⟨n, e⟩ := k
  exact Exists.intro (n + 2) (Exists.intro [.int (y1 + y2)] (Exists.intro 26 (Exists.intro [] (Exists.intro _ (Exists.intro (none) (Exists.intro h2 (And.intro rfl (And.intro rfl (And.intro rfl (And.intro (Nat.le_of_ble_eq_true rfl) (And.intro hc e)))))))))))
theorem bC_36_67 {d : Nat} {Q : Option Value → ai_H → Prop} {h : ai_H} {x1 x2 x3 : Int32} (k : RC d 36 Q 159 [some (.ref 26), some (.int x1), some (.int x2), some (.int x3)] [] h) : RC d 36 Q 67 [some (.ref 26), some (.int x1), some (.int x2), some (.int x3)] [] h := by
  obtain ⟨n, e⟩ := k
  exact Exists.intro (n + 1) (e)
theorem bC_36_70 {d : Nat} {Q : Option Value → ai_H → Prop} {h : ai_H} {x1 x2 x3 : Int32} (kt : ¬ x3 = 4 → RC d 36 Q 105 [some (.ref 26), some (.int x1), some (.int x2), some (.int x3)] [] h) (kf : x3 = 4 → RC d 36 Q 75 [some (.ref 26), some (.int x1), some (.int x2), some (.int x3)] [] h) : RC d 36 Q 70 [some (.ref 26), some (.int x1), some (.int x2), some (.int x3)] [] h := by
  by_cases c : x3 = 4
  · obtain ⟨n, e⟩ := kf c
    exact Exists.intro (n + 3) (Or.inr (And.intro (fun z => z c) e))
  · obtain ⟨n, e⟩ := kt c
    exact Exists.intro (n + 3) (Or.inl (And.intro c e))
theorem bC_36_75 {d : Nat} {Q : Option Value → ai_H → Prop} {h h2 : ai_H} {x1 x2 x3 r : Int32} (hc : CC d 63 [.ref 12, .int x1] h (some (.int r)) h2) (k : RC d 36 Q 84 [some (.ref 26), some (.int x1), some (.int x2), some (.int x3)] [.int r, .ref 26] h2) : RC d 36 Q 75 [some (.ref 26), some (.int x1), some (.int x2), some (.int x3)] [] h := by
  obtain ⟨n, e⟩ := k
  exact Exists.intro (n + 5) (And.intro rfl (Exists.intro [.int x1] (Exists.intro 12 (Exists.intro [.ref 26] (Exists.intro _ (Exists.intro (some (.int r)) (Exists.intro h2 (And.intro rfl (And.intro rfl (And.intro rfl (And.intro (Nat.le_of_ble_eq_true rfl) (And.intro hc e))))))))))))
theorem bC_36_84 {d : Nat} {Q : Option Value → ai_H → Prop} {h h2 : ai_H} {x1 x2 x3 y1 : Int32} (hc : CC d 36 [.ref 26, .int y1, .int (x2 + 1)] h (none) h2) (k : RC d 36 Q 90 [some (.ref 26), some (.int x1), some (.int x2), some (.int x3)] [] h2) : RC d 36 Q 84 [some (.ref 26), some (.int x1), some (.int x2), some (.int x3)] [.int y1, .ref 26] h := by
  obtain ⟨n, e⟩ := k
  exact Exists.intro (n + 4) (Exists.intro [.int y1, .int (x2 + 1)] (Exists.intro 26 (Exists.intro [] (Exists.intro _ (Exists.intro (none) (Exists.intro h2 (And.intro rfl (And.intro rfl (And.intro rfl (And.intro (Nat.le_of_ble_eq_true rfl) (And.intro hc e)))))))))))
theorem bC_36_90 {d : Nat} {Q : Option Value → ai_H → Prop} {h h2 : ai_H} {x1 x2 x3 : Int32} (hc : CC d 35 [.ref 26, .int 91] h (none) h2) (k : RC d 36 Q 96 [some (.ref 26), some (.int x1), some (.int x2), some (.int x3)] [] h2) : RC d 36 Q 90 [some (.ref 26), some (.int x1), some (.int x2), some (.int x3)] [] h := by
  obtain ⟨n, e⟩ := k
  exact Exists.intro (n + 3) (Exists.intro [.int 91] (Exists.intro 26 (Exists.intro [] (Exists.intro _ (Exists.intro (none) (Exists.intro h2 (And.intro rfl (And.intro rfl (And.intro rfl (And.intro (Nat.le_of_ble_eq_true rfl) (And.intro hc e)))))))))))
theorem bC_36_96 {d : Nat} {Q : Option Value → ai_H → Prop} {h h2 : ai_H} {x1 x2 x3 : Int32} (hc : CC d 35 [.ref 26, .int 93] h (none) h2) (k : RC d 36 Q 102 [some (.ref 26), some (.int x1), some (.int x2), some (.int x3)] [] h2) : RC d 36 Q 96 [some (.ref 26), some (.int x1), some (.int x2), some (.int x3)] [] h := by
  obtain ⟨n, e⟩ := k
  exact Exists.intro (n + 3) (Exists.intro [.int 93] (Exists.intro 26 (Exists.intro [] (Exists.intro _ (Exists.intro (none) (Exists.intro h2 (And.intro rfl (And.intro rfl (And.intro rfl (And.intro (Nat.le_of_ble_eq_true rfl) (And.intro hc e)))))))))))
theorem bC_36_102 {d : Nat} {Q : Option Value → ai_H → Prop} {h : ai_H} {x1 x2 x3 : Int32} (k : RC d 36 Q 159 [some (.ref 26), some (.int x1), some (.int x2), some (.int x3)] [] h) : RC d 36 Q 102 [some (.ref 26), some (.int x1), some (.int x2), some (.int x3)] [] h := by
  obtain ⟨n, e⟩ := k
  exact Exists.intro (n + 1) (e)
theorem bC_36_105 {d : Nat} {Q : Option Value → ai_H → Prop} {h h2 : ai_H} {x1 x2 x3 r : Int32} (hc : CC d 64 [.ref 12, .int x1] h (some (.int r)) h2) (k : RC d 36 Q 113 [some (.ref 26), some (.int x1), some (.int x2), some (.int x3)] [.int r] h2) : RC d 36 Q 105 [some (.ref 26), some (.int x1), some (.int x2), some (.int x3)] [] h := by
  obtain ⟨n, e⟩ := k
  exact Exists.intro (n + 4) (And.intro rfl (Exists.intro [.int x1] (Exists.intro 12 (Exists.intro [] (Exists.intro _ (Exists.intro (some (.int r)) (Exists.intro h2 (And.intro rfl (And.intro rfl (And.intro rfl (And.intro (Nat.le_of_ble_eq_true rfl) (And.intro hc e))))))))))))
theorem bC_36_113 {d : Nat} {Q : Option Value → ai_H → Prop} {h : ai_H} {x1 x2 x3 y0 : Int32} (kt : y0 = (-1) → RC d 36 Q 138 [some (.ref 26), some (.int x1), some (.int x2), some (.int x3)] [] h) (kf : ¬ y0 = (-1) → RC d 36 Q 117 [some (.ref 26), some (.int x1), some (.int x2), some (.int x3)] [] h) : RC d 36 Q 113 [some (.ref 26), some (.int x1), some (.int x2), some (.int x3)] [.int y0] h := by
  by_cases c : y0 = (-1)
  · obtain ⟨n, e⟩ := kt c
    exact Exists.intro (n + 2) (Or.inl (And.intro c e))
  · obtain ⟨n, e⟩ := kf c
    exact Exists.intro (n + 2) (Or.inr (And.intro c e))
theorem bC_36_117 {d : Nat} {Q : Option Value → ai_H → Prop} {h h2 : ai_H} {x1 x2 x3 r : Int32} (hc : CC d 64 [.ref 12, .int x1] h (some (.int r)) h2) (k : RC d 36 Q 126 [some (.ref 26), some (.int x1), some (.int x2), some (.int x3)] [.int r, .ref 26] h2) : RC d 36 Q 117 [some (.ref 26), some (.int x1), some (.int x2), some (.int x3)] [] h := by
  obtain ⟨n, e⟩ := k
  exact Exists.intro (n + 5) (And.intro rfl (Exists.intro [.int x1] (Exists.intro 12 (Exists.intro [.ref 26] (Exists.intro _ (Exists.intro (some (.int r)) (Exists.intro h2 (And.intro rfl (And.intro rfl (And.intro rfl (And.intro (Nat.le_of_ble_eq_true rfl) (And.intro hc e))))))))))))
theorem bC_36_126 {d : Nat} {Q : Option Value → ai_H → Prop} {h h2 : ai_H} {x1 x2 x3 y1 : Int32} (hc : CC d 36 [.ref 26, .int y1, .int (x2 + 1)] h (none) h2) (k : RC d 36 Q 132 [some (.ref 26), some (.int x1), some (.int x2), some (.int x3)] [] h2) : RC d 36 Q 126 [some (.ref 26), some (.int x1), some (.int x2), some (.int x3)] [.int y1, .ref 26] h := by
  obtain ⟨n, e⟩ := k
  exact Exists.intro (n + 4) (Exists.intro [.int y1, .int (x2 + 1)] (Exists.intro 26 (Exists.intro [] (Exists.intro _ (Exists.intro (none) (Exists.intro h2 (And.intro rfl (And.intro rfl (And.intro rfl (And.intro (Nat.le_of_ble_eq_true rfl) (And.intro hc e)))))))))))
theorem bC_36_132 {d : Nat} {Q : Option Value → ai_H → Prop} {h h2 : ai_H} {x1 x2 x3 : Int32} (hc : CC d 35 [.ref 26, .int 46] h (none) h2) (k : RC d 36 Q 138 [some (.ref 26), some (.int x1), some (.int x2), some (.int x3)] [] h2) : RC d 36 Q 132 [some (.ref 26), some (.int x1), some (.int x2), some (.int x3)] [] h := by
  obtain ⟨n, e⟩ := k
  exact Exists.intro (n + 3) (Exists.intro [.int 46] (Exists.intro 26 (Exists.intro [] (Exists.intro _ (Exists.intro (none) (Exists.intro h2 (And.intro rfl (And.intro rfl (And.intro rfl (And.intro (Nat.le_of_ble_eq_true rfl) (And.intro hc e)))))))))))
theorem bC_36_138 {d : Nat} {Q : Option Value → ai_H → Prop} {h h2 : ai_H} {x1 x2 x3 r : Int32} (hc : CC d 61 [.ref 12, .int x1] h (some (.int r)) h2) (k : RC d 36 Q 149 [some (.ref 26), some (.int x1), some (.int x2), some (.int x3)] [.int r, .int 65, .ref 26] h2) : RC d 36 Q 138 [some (.ref 26), some (.int x1), some (.int x2), some (.int x3)] [] h := by
  obtain ⟨n, e⟩ := k
  exact Exists.intro (n + 6) (And.intro rfl (Exists.intro [.int x1] (Exists.intro 12 (Exists.intro [.int 65, .ref 26] (Exists.intro _ (Exists.intro (some (.int r)) (Exists.intro h2 (And.intro rfl (And.intro rfl (And.intro rfl (And.intro (Nat.le_of_ble_eq_true rfl) (And.intro hc e))))))))))))
theorem bC_36_149 {d : Nat} {Q : Option Value → ai_H → Prop} {h h2 : ai_H} {x1 x2 x3 y1 y2 : Int32} (hc : CC d 35 [.ref 26, .int (y1 + y2)] h (none) h2) (k : RC d 36 Q 153 [some (.ref 26), some (.int x1), some (.int x2), some (.int x3)] [] h2) : RC d 36 Q 149 [some (.ref 26), some (.int x1), some (.int x2), some (.int x3)] [.int y2, .int y1, .ref 26] h := by
  obtain ⟨n, e⟩ := k
  exact Exists.intro (n + 2) (Exists.intro [.int (y1 + y2)] (Exists.intro 26 (Exists.intro [] (Exists.intro _ (Exists.intro (none) (Exists.intro h2 (And.intro rfl (And.intro rfl (And.intro rfl (And.intro (Nat.le_of_ble_eq_true rfl) (And.intro hc e)))))))))))
theorem bC_36_153 {d : Nat} {Q : Option Value → ai_H → Prop} {h h2 : ai_H} {x1 x2 x3 : Int32} (hc : CC d 37 [.ref 26, .int x1, .int x2] h (none) h2) (k : RC d 36 Q 159 [some (.ref 26), some (.int x1), some (.int x2), some (.int x3)] [] h2) : RC d 36 Q 153 [some (.ref 26), some (.int x1), some (.int x2), some (.int x3)] [] h := by
  obtain ⟨n, e⟩ := k
  exact Exists.intro (n + 4) (Exists.intro [.int x1, .int x2] (Exists.intro 26 (Exists.intro [] (Exists.intro _ (Exists.intro (none) (Exists.intro h2 (And.intro rfl (And.intro rfl (And.intro rfl (And.intro (Nat.le_of_ble_eq_true rfl) (And.intro hc e)))))))))))
theorem bC_36_159 {d : Nat} {Q : Option Value → ai_H → Prop} {h : ai_H} {x1 x2 x3 : Int32} (k : Q none h) : RC d 36 Q 159 [some (.ref 26), some (.int x1), some (.int x2), some (.int x3)] [] h := Exists.intro 1 (k)
theorem bC_37_0 {d : Nat} {Q : Option Value → ai_H → Prop} {h h2 : ai_H} {x1 x2 r : Int32} (hc : CC d 66 [.ref 12, .int x1] h (some (.int r)) h2) (k : RC d 37 Q 8 [some (.ref 26), some (.int x1), some (.int x2), none, none, none, none] [.int r] h2) : RC d 37 Q 0 [some (.ref 26), some (.int x1), some (.int x2), none, none, none, none] [] h := by
  obtain ⟨n, e⟩ := k
  exact Exists.intro (n + 4) (And.intro rfl (Exists.intro [.int x1] (Exists.intro 12 (Exists.intro [] (Exists.intro _ (Exists.intro (some (.int r)) (Exists.intro h2 (And.intro rfl (And.intro rfl (And.intro rfl (And.intro (Nat.le_of_ble_eq_true rfl) (And.intro hc e))))))))))))
theorem bC_37_8 {d : Nat} {Q : Option Value → ai_H → Prop} {h : ai_H} {x1 x2 y0 : Int32} (k : RC d 37 Q 12 [some (.ref 26), some (.int x1), some (.int x2), some (.int y0), some (.int 0), none, none] [] h) : RC d 37 Q 8 [some (.ref 26), some (.int x1), some (.int x2), none, none, none, none] [.int y0] h := by
  obtain ⟨n, e⟩ := k
  exact Exists.intro (n + 3) (Exists.intro _ (And.intro rfl (Exists.intro _ (And.intro rfl (e)))))
theorem bC_37_12 {d : Nat} {Q : Option Value → ai_H → Prop} {h : ai_H} {x1 x2 x3 x4 : Int32} {o5 o6 : Option Value} (kt : x3 ≤ x4 → RC d 37 Q 110 [some (.ref 26), some (.int x1), some (.int x2), some (.int x3), some (.int x4), o5, o6] [] h) (kf : ¬ x3 ≤ x4 → RC d 37 Q 18 [some (.ref 26), some (.int x1), some (.int x2), some (.int x3), some (.int x4), o5, o6] [] h) : RC d 37 Q 12 [some (.ref 26), some (.int x1), some (.int x2), some (.int x3), some (.int x4), o5, o6] [] h := by
  by_cases c : x3 ≤ x4
  · obtain ⟨n, e⟩ := kt c
    exact Exists.intro (n + 3) (Or.inl (And.intro c e))
  · obtain ⟨n, e⟩ := kf c
    exact Exists.intro (n + 3) (Or.inr (And.intro c e))
theorem bC_37_18 {d : Nat} {Q : Option Value → ai_H → Prop} {h : ai_H} {x1 x2 x3 x4 : Int32} {o5 o6 : Option Value} (kt : ¬ x4 = 0 → RC d 37 Q 29 [some (.ref 26), some (.int x1), some (.int x2), some (.int x3), some (.int x4), o5, o6] [.ref 26] h) (kf : x4 = 0 → RC d 37 Q 24 [some (.ref 26), some (.int x1), some (.int x2), some (.int x3), some (.int x4), o5, o6] [.ref 26] h) : RC d 37 Q 18 [some (.ref 26), some (.int x1), some (.int x2), some (.int x3), some (.int x4), o5, o6] [] h := by
  by_cases c : x4 = 0
  · obtain ⟨n, e⟩ := kf c
    exact Exists.intro (n + 3) (Or.inr (And.intro (fun z => z c) e))
  · obtain ⟨n, e⟩ := kt c
    exact Exists.intro (n + 3) (Or.inl (And.intro c e))
theorem bC_37_24 {d : Nat} {Q : Option Value → ai_H → Prop} {h : ai_H} {x1 x2 x3 x4 : Int32} {o5 o6 : Option Value} (k : RC d 37 Q 31 [some (.ref 26), some (.int x1), some (.int x2), some (.int x3), some (.int x4), o5, o6] [.int 60, .ref 26] h) : RC d 37 Q 24 [some (.ref 26), some (.int x1), some (.int x2), some (.int x3), some (.int x4), o5, o6] [.ref 26] h := by
  obtain ⟨n, e⟩ := k
  exact Exists.intro (n + 2) (e)
theorem bC_37_29 {d : Nat} {Q : Option Value → ai_H → Prop} {h : ai_H} {x1 x2 x3 x4 : Int32} {o5 o6 : Option Value} (k : RC d 37 Q 31 [some (.ref 26), some (.int x1), some (.int x2), some (.int x3), some (.int x4), o5, o6] [.int 44, .ref 26] h) : RC d 37 Q 29 [some (.ref 26), some (.int x1), some (.int x2), some (.int x3), some (.int x4), o5, o6] [.ref 26] h := by
  obtain ⟨n, e⟩ := k
  exact Exists.intro (n + 1) (e)
theorem bC_37_31 {d : Nat} {Q : Option Value → ai_H → Prop} {h h2 : ai_H} {x1 x2 x3 x4 y1 : Int32} {o5 o6 : Option Value} (hc : CC d 35 [.ref 26, .int y1] h (none) h2) (k : RC d 37 Q 34 [some (.ref 26), some (.int x1), some (.int x2), some (.int x3), some (.int x4), o5, o6] [] h2) : RC d 37 Q 31 [some (.ref 26), some (.int x1), some (.int x2), some (.int x3), some (.int x4), o5, o6] [.int y1, .ref 26] h := by
  obtain ⟨n, e⟩ := k
  exact Exists.intro (n + 1) (Exists.intro [.int y1] (Exists.intro 26 (Exists.intro [] (Exists.intro _ (Exists.intro (none) (Exists.intro h2 (And.intro rfl (And.intro rfl (And.intro rfl (And.intro (Nat.le_of_ble_eq_true rfl) (And.intro hc e)))))))))))
theorem bC_37_34 {d : Nat} {Q : Option Value → ai_H → Prop} {h h2 : ai_H} {x1 x2 x3 x4 r : Int32} {o5 o6 : Option Value} (hc : CC d 65 [.ref 12, .int x1, .int x4] h (some (.int r)) h2) (k : RC d 37 Q 44 [some (.ref 26), some (.int x1), some (.int x2), some (.int x3), some (.int x4), o5, o6] [.int r] h2) : RC d 37 Q 34 [some (.ref 26), some (.int x1), some (.int x2), some (.int x3), some (.int x4), o5, o6] [] h := by
  obtain ⟨n, e⟩ := k
  exact Exists.intro (n + 5) (And.intro rfl (Exists.intro [.int x1, .int x4] (Exists.intro 12 (Exists.intro [] (Exists.intro _ (Exists.intro (some (.int r)) (Exists.intro h2 (And.intro rfl (And.intro rfl (And.intro rfl (And.intro (Nat.le_of_ble_eq_true rfl) (And.intro hc e))))))))))))
theorem bC_37_44 {d : Nat} {Q : Option Value → ai_H → Prop} {h h2 : ai_H} {x1 x2 x3 x4 y0 r : Int32} {o5 o6 : Option Value} (hc : CC d 97 [.int y0] h (some (.int r)) h2) (k : RC d 37 Q 51 [some (.ref 26), some (.int x1), some (.int x2), some (.int x3), some (.int x4), some (.int y0), o6] [.int r] h2) : RC d 37 Q 44 [some (.ref 26), some (.int x1), some (.int x2), some (.int x3), some (.int x4), o5, o6] [.int y0] h := by
  obtain ⟨n, e⟩ := k
  exact Exists.intro (n + 3) (Exists.intro _ (And.intro rfl (Exists.intro [.int y0] (Exists.intro [] (Exists.intro (some (.int r)) (Exists.intro h2 (And.intro rfl (And.intro rfl (And.intro (Nat.le_of_ble_eq_true rfl) (And.intro hc e))))))))))
theorem bC_37_51 {d : Nat} {Q : Option Value → ai_H → Prop} {h : ai_H} {x1 x2 x3 x4 x5 y0 : Int32} {o6 : Option Value} (kt : y0 = 0 → RC d 37 Q 86 [some (.ref 26), some (.int x1), some (.int x2), some (.int x3), some (.int x4), some (.int x5), some (.int y0)] [] h) (kf : ¬ y0 = 0 → RC d 37 Q 58 [some (.ref 26), some (.int x1), some (.int x2), some (.int x3), some (.int x4), some (.int x5), some (.int y0)] [] h) : RC d 37 Q 51 [some (.ref 26), some (.int x1), some (.int x2), some (.int x3), some (.int x4), some (.int x5), o6] [.int y0] h := by
  by_cases c : y0 = 0
  · obtain ⟨n, e⟩ := kt c
    exact Exists.intro (n + 3) (Exists.intro _ (And.intro rfl (Or.inl (And.intro c e))))
  · obtain ⟨n, e⟩ := kf c
    exact Exists.intro (n + 3) (Exists.intro _ (And.intro rfl (Or.inr (And.intro c e))))
theorem bC_37_58 {d : Nat} {Q : Option Value → ai_H → Prop} {h : ai_H} {x1 x2 x3 x4 x5 x6 : Int32} (kt : ¬ x6 = 1 → RC d 37 Q 70 [some (.ref 26), some (.int x1), some (.int x2), some (.int x3), some (.int x4), some (.int x5), some (.int x6)] [.ref 26] h) (kf : x6 = 1 → RC d 37 Q 65 [some (.ref 26), some (.int x1), some (.int x2), some (.int x3), some (.int x4), some (.int x5), some (.int x6)] [.ref 26] h) : RC d 37 Q 58 [some (.ref 26), some (.int x1), some (.int x2), some (.int x3), some (.int x4), some (.int x5), some (.int x6)] [] h := by
  by_cases c : x6 = 1
  · obtain ⟨n, e⟩ := kf c
    exact Exists.intro (n + 4) (Or.inr (And.intro (fun z => z c) e))
  · obtain ⟨n, e⟩ := kt c
    exact Exists.intro (n + 4) (Or.inl (And.intro c e))
theorem bC_37_65 {d : Nat} {Q : Option Value → ai_H → Prop} {h : ai_H} {x1 x2 x3 x4 x5 x6 : Int32} (k : RC d 37 Q 83 [some (.ref 26), some (.int x1), some (.int x2), some (.int x3), some (.int x4), some (.int x5), some (.int x6)] [.int 43, .ref 26] h) : RC d 37 Q 65 [some (.ref 26), some (.int x1), some (.int x2), some (.int x3), some (.int x4), some (.int x5), some (.int x6)] [.ref 26] h := by
  obtain ⟨n, e⟩ := k
  exact Exists.intro (n + 2) (e)
theorem bC_37_70 {d : Nat} {Q : Option Value → ai_H → Prop} {h : ai_H} {x1 x2 x3 x4 x5 x6 : Int32} (kt : ¬ x6 = 2 → RC d 37 Q 81 [some (.ref 26), some (.int x1), some (.int x2), some (.int x3), some (.int x4), some (.int x5), some (.int x6)] [.ref 26] h) (kf : x6 = 2 → RC d 37 Q 76 [some (.ref 26), some (.int x1), some (.int x2), some (.int x3), some (.int x4), some (.int x5), some (.int x6)] [.ref 26] h) : RC d 37 Q 70 [some (.ref 26), some (.int x1), some (.int x2), some (.int x3), some (.int x4), some (.int x5), some (.int x6)] [.ref 26] h := by
  by_cases c : x6 = 2
  · obtain ⟨n, e⟩ := kf c
    exact Exists.intro (n + 3) (Or.inr (And.intro (fun z => z c) e))
  · obtain ⟨n, e⟩ := kt c
    exact Exists.intro (n + 3) (Or.inl (And.intro c e))
theorem bC_37_76 {d : Nat} {Q : Option Value → ai_H → Prop} {h : ai_H} {x1 x2 x3 x4 x5 x6 : Int32} (k : RC d 37 Q 83 [some (.ref 26), some (.int x1), some (.int x2), some (.int x3), some (.int x4), some (.int x5), some (.int x6)] [.int 45, .ref 26] h) : RC d 37 Q 76 [some (.ref 26), some (.int x1), some (.int x2), some (.int x3), some (.int x4), some (.int x5), some (.int x6)] [.ref 26] h := by
  obtain ⟨n, e⟩ := k
  exact Exists.intro (n + 2) (e)
theorem bC_37_81 {d : Nat} {Q : Option Value → ai_H → Prop} {h : ai_H} {x1 x2 x3 x4 x5 x6 : Int32} (k : RC d 37 Q 83 [some (.ref 26), some (.int x1), some (.int x2), some (.int x3), some (.int x4), some (.int x5), some (.int x6)] [.int 63, .ref 26] h) : RC d 37 Q 81 [some (.ref 26), some (.int x1), some (.int x2), some (.int x3), some (.int x4), some (.int x5), some (.int x6)] [.ref 26] h := by
  obtain ⟨n, e⟩ := k
  exact Exists.intro (n + 1) (e)
theorem bC_37_83 {d : Nat} {Q : Option Value → ai_H → Prop} {h h2 : ai_H} {x1 x2 x3 x4 x5 x6 y1 : Int32} (hc : CC d 35 [.ref 26, .int y1] h (none) h2) (k : RC d 37 Q 86 [some (.ref 26), some (.int x1), some (.int x2), some (.int x3), some (.int x4), some (.int x5), some (.int x6)] [] h2) : RC d 37 Q 83 [some (.ref 26), some (.int x1), some (.int x2), some (.int x3), some (.int x4), some (.int x5), some (.int x6)] [.int y1, .ref 26] h := by
  obtain ⟨n, e⟩ := k
  exact Exists.intro (n + 1) (Exists.intro [.int y1] (Exists.intro 26 (Exists.intro [] (Exists.intro _ (Exists.intro (none) (Exists.intro h2 (And.intro rfl (And.intro rfl (And.intro rfl (And.intro (Nat.le_of_ble_eq_true rfl) (And.intro hc e)))))))))))
theorem bC_37_86 {d : Nat} {Q : Option Value → ai_H → Prop} {h : ai_H} {x1 x2 x3 x4 x5 x6 : Int32} (kt : x6 = 3 → RC d 37 Q 104 [some (.ref 26), some (.int x1), some (.int x2), some (.int x3), some (.int x4), some (.int x5), some (.int x6)] [] h) (kf : ¬ x6 = 3 → RC d 37 Q 92 [some (.ref 26), some (.int x1), some (.int x2), some (.int x3), some (.int x4), some (.int x5), some (.int x6)] [] h) : RC d 37 Q 86 [some (.ref 26), some (.int x1), some (.int x2), some (.int x3), some (.int x4), some (.int x5), some (.int x6)] [] h := by
  by_cases c : x6 = 3
  · obtain ⟨n, e⟩ := kt c
    exact Exists.intro (n + 3) (Or.inl (And.intro c e))
  · obtain ⟨n, e⟩ := kf c
    exact Exists.intro (n + 3) (Or.inr (And.intro c e))
theorem bC_37_92 {d : Nat} {Q : Option Value → ai_H → Prop} {h h2 : ai_H} {x1 x2 x3 x4 x5 x6 r : Int32} (hc : CC d 98 [.int x5] h (some (.int r)) h2) (k : RC d 37 Q 98 [some (.ref 26), some (.int x1), some (.int x2), some (.int x3), some (.int x4), some (.int x5), some (.int x6)] [.int r, .ref 26] h2) : RC d 37 Q 92 [some (.ref 26), some (.int x1), some (.int x2), some (.int x3), some (.int x4), some (.int x5), some (.int x6)] [] h := by
  obtain ⟨n, e⟩ := k
  exact Exists.intro (n + 3) (Exists.intro [.int x5] (Exists.intro [.ref 26] (Exists.intro (some (.int r)) (Exists.intro h2 (And.intro rfl (And.intro rfl (And.intro (Nat.le_of_ble_eq_true rfl) (And.intro hc e))))))))
theorem bC_37_98 {d : Nat} {Q : Option Value → ai_H → Prop} {h h2 : ai_H} {x1 x2 x3 x4 x5 x6 y1 : Int32} (hc : CC d 36 [.ref 26, .int y1, .int (x2 + 1)] h (none) h2) (k : RC d 37 Q 104 [some (.ref 26), some (.int x1), some (.int x2), some (.int x3), some (.int x4), some (.int x5), some (.int x6)] [] h2) : RC d 37 Q 98 [some (.ref 26), some (.int x1), some (.int x2), some (.int x3), some (.int x4), some (.int x5), some (.int x6)] [.int y1, .ref 26] h := by
  obtain ⟨n, e⟩ := k
  exact Exists.intro (n + 4) (Exists.intro [.int y1, .int (x2 + 1)] (Exists.intro 26 (Exists.intro [] (Exists.intro _ (Exists.intro (none) (Exists.intro h2 (And.intro rfl (And.intro rfl (And.intro rfl (And.intro (Nat.le_of_ble_eq_true rfl) (And.intro hc e)))))))))))
theorem bC_37_104 {d : Nat} {Q : Option Value → ai_H → Prop} {h : ai_H} {x1 x2 x3 x4 x5 x6 : Int32} (k : RC d 37 Q 12 [some (.ref 26), some (.int x1), some (.int x2), some (.int x3), some (.int (x4 + 1)), some (.int x5), some (.int x6)] [] h) : RC d 37 Q 104 [some (.ref 26), some (.int x1), some (.int x2), some (.int x3), some (.int x4), some (.int x5), some (.int x6)] [] h := by
  obtain ⟨n, e⟩ := k
  exact Exists.intro (n + 2) (Exists.intro _ (And.intro rfl (e)))
theorem bC_37_110 {d : Nat} {Q : Option Value → ai_H → Prop} {h : ai_H} {x1 x2 x3 x4 : Int32} {o5 o6 : Option Value} (kt : x3 ≤ 0 → RC d 37 Q 120 [some (.ref 26), some (.int x1), some (.int x2), some (.int x3), some (.int x4), o5, o6] [] h) (kf : ¬ x3 ≤ 0 → RC d 37 Q 114 [some (.ref 26), some (.int x1), some (.int x2), some (.int x3), some (.int x4), o5, o6] [] h) : RC d 37 Q 110 [some (.ref 26), some (.int x1), some (.int x2), some (.int x3), some (.int x4), o5, o6] [] h := by
  by_cases c : x3 ≤ 0
  · obtain ⟨n, e⟩ := kt c
    exact Exists.intro (n + 2) (Or.inl (And.intro c e))
  · obtain ⟨n, e⟩ := kf c
    exact Exists.intro (n + 2) (Or.inr (And.intro c e))
theorem bC_37_114 {d : Nat} {Q : Option Value → ai_H → Prop} {h h2 : ai_H} {x1 x2 x3 x4 : Int32} {o5 o6 : Option Value} (hc : CC d 35 [.ref 26, .int 62] h (none) h2) (k : RC d 37 Q 120 [some (.ref 26), some (.int x1), some (.int x2), some (.int x3), some (.int x4), o5, o6] [] h2) : RC d 37 Q 114 [some (.ref 26), some (.int x1), some (.int x2), some (.int x3), some (.int x4), o5, o6] [] h := by
  obtain ⟨n, e⟩ := k
  exact Exists.intro (n + 3) (Exists.intro [.int 62] (Exists.intro 26 (Exists.intro [] (Exists.intro _ (Exists.intro (none) (Exists.intro h2 (And.intro rfl (And.intro rfl (And.intro rfl (And.intro (Nat.le_of_ble_eq_true rfl) (And.intro hc e)))))))))))
theorem bC_37_120 {d : Nat} {Q : Option Value → ai_H → Prop} {h : ai_H} {x1 x2 x3 x4 : Int32} {o5 o6 : Option Value} (k : Q none h) : RC d 37 Q 120 [some (.ref 26), some (.int x1), some (.int x2), some (.int x3), some (.int x4), o5, o6] [] h := Exists.intro 1 (k)
theorem bC_38_0 {d : Nat} {Q : Option Value → ai_H → Prop} {h : ai_H} (k : Q (some (.int (h 24 4))) h) : RC d 38 Q 0 [some (.ref 24)] [] h := Exists.intro 3 (And.intro rfl (And.intro (Or.inl rfl) k))
theorem bC_39_0 {d : Nat} {Q : Option Value → ai_H → Prop} {h : ai_H} {x1 : Int32} {w2 : Int64} (kt : ((h 24 4) + x1) ≤ 100 → RC d 39 Q 14 [some (.ref 24), some (.int x1), some (.long w2), none, none] [] h) (kf : ¬ ((h 24 4) + x1) ≤ 100 → RC d 39 Q 11 [some (.ref 24), some (.int x1), some (.long w2), none, none] [] h) : RC d 39 Q 0 [some (.ref 24), some (.int x1), some (.long w2), none, none] [] h := by
  by_cases c : ((h 24 4) + x1) ≤ 100
  · obtain ⟨n, e⟩ := kt c
    exact Exists.intro (n + 6) (And.intro rfl (Or.inl (And.intro c e)))
  · obtain ⟨n, e⟩ := kf c
    exact Exists.intro (n + 6) (And.intro rfl (Or.inr (And.intro c e)))
theorem bC_39_11 {d : Nat} {Q : Option Value → ai_H → Prop} {h : ai_H} {x1 : Int32} {w2 : Int64} (k : Q (some (.int (-5))) h) : RC d 39 Q 11 [some (.ref 24), some (.int x1), some (.long w2), none, none] [] h := Exists.intro 2 (And.intro (Or.inl rfl) k)
theorem bC_39_14 {d : Nat} {Q : Option Value → ai_H → Prop} {h : ai_H} {x1 : Int32} {w2 : Int64} (k : RC d 39 Q 19 [some (.ref 24), some (.int x1), some (.long w2), none, some (.int (x1 - 1))] [] h) : RC d 39 Q 14 [some (.ref 24), some (.int x1), some (.long w2), none, none] [] h := by
  obtain ⟨n, e⟩ := k
  exact Exists.intro (n + 4) (Exists.intro _ (And.intro rfl (e)))
theorem bC_39_19 {d : Nat} {Q : Option Value → ai_H → Prop} {h : ai_H} {x1 x4 : Int32} {w2 : Int64} (kt : x4 < 0 → RC d 39 Q 70 [some (.ref 24), some (.int x1), some (.long w2), none, some (.int x4)] [] h) (kf : ¬ x4 < 0 → RC d 39 Q 24 [some (.ref 24), some (.int x1), some (.long w2), none, some (.int x4)] [] h) : RC d 39 Q 19 [some (.ref 24), some (.int x1), some (.long w2), none, some (.int x4)] [] h := by
  by_cases c : x4 < 0
  · obtain ⟨n, e⟩ := kt c
    exact Exists.intro (n + 2) (Or.inl (And.intro c e))
  · obtain ⟨n, e⟩ := kf c
    exact Exists.intro (n + 2) (Or.inr (And.intro c e))
theorem bC_39_24 {d : Nat} {Q : Option Value → ai_H → Prop} {h : ai_H} {x1 x4 : Int32} {w2 : Int64} (kt : 100 ≤ (h 24 4) → RC d 39 Q 70 [some (.ref 24), some (.int x1), some (.long w2), none, some (.int x4)] [] h) (kf : ¬ 100 ≤ (h 24 4) → RC d 39 Q 33 [some (.ref 24), some (.int x1), some (.long w2), none, some (.int x4)] [] h) : RC d 39 Q 24 [some (.ref 24), some (.int x1), some (.long w2), none, some (.int x4)] [] h := by
  by_cases c : 100 ≤ (h 24 4)
  · obtain ⟨n, e⟩ := kt c
    exact Exists.intro (n + 4) (And.intro rfl (Or.inl (And.intro c e)))
  · obtain ⟨n, e⟩ := kf c
    exact Exists.intro (n + 4) (And.intro rfl (Or.inr (And.intro c e)))
theorem bC_39_33 {d : Nat} {Q : Option Value → ai_H → Prop} {h : ai_H} {x1 x4 : Int32} {w2 : Int64} (hi1 : vp_in (h 24 4) 100) (k : RC d 39 Q 19 [some (.ref 24), some (.int x1), some (.long w2), none, some (.int (x4 + (-1)))] [] (ai_up (ai_up h 25 (Int32.toNatClampNeg (h 24 4)) (Int64.toInt32 (((Int64.toUInt64 w2 >>> (Int64.toUInt64 (Int32.toInt64 (8 * x4)) &&& Int64.toUInt64 63)).toInt64) &&& (Int64.ofNat 255)))) 24 4 (((ai_up h 25 (Int32.toNatClampNeg (h 24 4)) (Int64.toInt32 (((Int64.toUInt64 w2 >>> (Int64.toUInt64 (Int32.toInt64 (8 * x4)) &&& Int64.toUInt64 63)).toInt64) &&& (Int64.ofNat 255)))) 24 4) + 1))) : RC d 39 Q 33 [some (.ref 24), some (.int x1), some (.long w2), none, some (.int x4)] [] h := by
  obtain ⟨n, e⟩ := k
  exact Exists.intro (n + 21) (And.intro rfl (And.intro rfl (Exists.intro 100 (And.intro rfl (And.intro hi1 (And.intro rfl (And.intro rfl (And.intro (Exists.intro _ (And.intro rfl rfl)) (And.intro (Or.inl rfl) (Exists.intro _ (And.intro rfl (e))))))))))))
theorem bC_39_70 {d : Nat} {Q : Option Value → ai_H → Prop} {h : ai_H} {x1 x4 : Int32} {w2 : Int64} (k : Q (some (.int (h 24 4))) h) : RC d 39 Q 70 [some (.ref 24), some (.int x1), some (.long w2), none, some (.int x4)] [] h := Exists.intro 3 (And.intro rfl (And.intro (Or.inl rfl) k))
theorem bC_40_0 {d : Nat} {Q : Option Value → ai_H → Prop} {h : ai_H} (k : Q none (ai_up (ai_up h 24 5 0) 24 6 (-1))) : RC d 40 Q 0 [some (.ref 24)] [] h := Exists.intro 7 (And.intro (Exists.intro _ (And.intro rfl rfl)) (And.intro (Or.inl rfl) (And.intro (Exists.intro _ (And.intro rfl rfl)) (And.intro (Or.inl rfl) (k)))))
theorem bC_41_0 {d : Nat} {Q : Option Value → ai_H → Prop} {h : ai_H} (kt : ¬ (h 24 6) = (-1) → RC d 41 Q 27 [some (.ref 24)] [] h) (kf : (h 24 6) = (-1) → RC d 41 Q 8 [some (.ref 24)] [] h) : RC d 41 Q 0 [some (.ref 24)] [] h := by
  by_cases c : (h 24 6) = (-1)
  · obtain ⟨n, e⟩ := kf c
    exact Exists.intro (n + 4) (And.intro rfl (Or.inr (And.intro (fun z => z c) e)))
  · obtain ⟨n, e⟩ := kt c
    exact Exists.intro (n + 4) (And.intro rfl (Or.inl (And.intro c e)))
theorem bC_41_8 {d : Nat} {Q : Option Value → ai_H → Prop} {h : ai_H} (kt : (h 24 4) ≤ (h 24 5) → RC d 41 Q 27 [some (.ref 24)] [] h) (kf : ¬ (h 24 4) ≤ (h 24 5) → RC d 41 Q 19 [some (.ref 24)] [] h) : RC d 41 Q 8 [some (.ref 24)] [] h := by
  by_cases c : (h 24 4) ≤ (h 24 5)
  · obtain ⟨n, e⟩ := kt c
    exact Exists.intro (n + 5) (And.intro rfl (And.intro rfl (Or.inl (And.intro c e))))
  · obtain ⟨n, e⟩ := kf c
    exact Exists.intro (n + 5) (And.intro rfl (And.intro rfl (Or.inr (And.intro c e))))
theorem bC_41_19 {d : Nat} {Q : Option Value → ai_H → Prop} {h : ai_H} (k : RC d 41 Q 27 [some (.ref 24)] [] (ai_up h 24 6 (h 24 5))) : RC d 41 Q 19 [some (.ref 24)] [] h := by
  obtain ⟨n, e⟩ := k
  exact Exists.intro (n + 4) (And.intro rfl (And.intro (Exists.intro _ (And.intro rfl rfl)) (And.intro (Or.inl rfl) (e))))
theorem bC_41_27 {d : Nat} {Q : Option Value → ai_H → Prop} {h : ai_H} (k : Q (some (.int ((ai_up h 24 4 0) 24 6))) (ai_up h 24 4 0)) : RC d 41 Q 27 [some (.ref 24)] [] h := Exists.intro 6 (And.intro (Exists.intro _ (And.intro rfl rfl)) (And.intro (Or.inl rfl) (And.intro rfl (And.intro (Or.inl rfl) k))))
theorem bC_42_0 {d : Nat} {Q : Option Value → ai_H → Prop} {h : ai_H} (kt : (h 24 5) < 0 → RC d 42 Q 39 [some (.ref 24)] [] h) (kf : ¬ (h 24 5) < 0 → RC d 42 Q 7 [some (.ref 24)] [] h) : RC d 42 Q 0 [some (.ref 24)] [] h := by
  by_cases c : (h 24 5) < 0
  · obtain ⟨n, e⟩ := kt c
    exact Exists.intro (n + 3) (And.intro rfl (Or.inl (And.intro c e)))
  · obtain ⟨n, e⟩ := kf c
    exact Exists.intro (n + 3) (And.intro rfl (Or.inr (And.intro c e)))
theorem bC_42_7 {d : Nat} {Q : Option Value → ai_H → Prop} {h : ai_H} (kt : (h 24 4) ≤ (h 24 5) → RC d 42 Q 39 [some (.ref 24)] [] h) (kf : ¬ (h 24 4) ≤ (h 24 5) → RC d 42 Q 18 [some (.ref 24)] [] h) : RC d 42 Q 7 [some (.ref 24)] [] h := by
  by_cases c : (h 24 4) ≤ (h 24 5)
  · obtain ⟨n, e⟩ := kt c
    exact Exists.intro (n + 5) (And.intro rfl (And.intro rfl (Or.inl (And.intro c e))))
  · obtain ⟨n, e⟩ := kf c
    exact Exists.intro (n + 5) (And.intro rfl (And.intro rfl (Or.inr (And.intro c e))))
theorem bC_42_18 {d : Nat} {Q : Option Value → ai_H → Prop} {h : ai_H} (kt : 100 ≤ (h 24 5) → RC d 42 Q 39 [some (.ref 24)] [] h) (kf : ¬ 100 ≤ (h 24 5) → RC d 42 Q 27 [some (.ref 24)] [] h) : RC d 42 Q 18 [some (.ref 24)] [] h := by
  by_cases c : 100 ≤ (h 24 5)
  · obtain ⟨n, e⟩ := kt c
    exact Exists.intro (n + 4) (And.intro rfl (Or.inl (And.intro c e)))
  · obtain ⟨n, e⟩ := kf c
    exact Exists.intro (n + 4) (And.intro rfl (Or.inr (And.intro c e)))
theorem bC_42_27 {d : Nat} {Q : Option Value → ai_H → Prop} {h : ai_H} (hi1 : vp_in (h 24 5) 100) (k : RC d 42 Q 40 [some (.ref 24)] [.int (h 25 (Int32.toNatClampNeg (h 24 5)))] h) : RC d 42 Q 27 [some (.ref 24)] [] h := by
  obtain ⟨n, e⟩ := k
  exact Exists.intro (n + 6) (And.intro rfl (And.intro rfl (Exists.intro 100 (And.intro rfl (And.intro hi1 (e))))))
theorem bC_42_39 {d : Nat} {Q : Option Value → ai_H → Prop} {h : ai_H} (k : RC d 42 Q 40 [some (.ref 24)] [.int (-1)] h) : RC d 42 Q 39 [some (.ref 24)] [] h := by
  obtain ⟨n, e⟩ := k
  exact Exists.intro (n + 1) (e)
theorem bC_42_40 {d : Nat} {Q : Option Value → ai_H → Prop} {h : ai_H} {y0 : Int32} (k : Q (some (.int y0)) h) : RC d 42 Q 40 [some (.ref 24)] [.int y0] h := Exists.intro 1 (And.intro (Or.inl rfl) k)
theorem bC_43_0 {d : Nat} {Q : Option Value → ai_H → Prop} {h : ai_H} {x1 : Int32} (k : Q (some (.int (-1))) (ai_up h 24 6 x1)) : RC d 43 Q 0 [some (.ref 24), some (.int x1)] [] h := Exists.intro 5 (And.intro (Exists.intro _ (And.intro rfl rfl)) (And.intro (Or.inl rfl) (And.intro (Or.inl rfl) k)))
theorem bC_44_0 {d : Nat} {Q : Option Value → ai_H → Prop} {h h2 : ai_H} {x1 r : Int32} (hc : CC d 45 [.ref 24, .int x1] h (some (.int r)) h2) (k : RC d 44 Q 5 [some (.ref 24), some (.int x1), none, none] [.int r] h2) : RC d 44 Q 0 [some (.ref 24), some (.int x1), none, none] [] h := by
  obtain ⟨n, e⟩ := k
  exact Exists.intro (n + 3) (Exists.intro [.int x1] (Exists.intro 24 (Exists.intro [] (Exists.intro _ (Exists.intro (some (.int r)) (Exists.intro h2 (And.intro rfl (And.intro rfl (And.intro rfl (And.intro (Nat.le_of_ble_eq_true rfl) (And.intro hc e)))))))))))
theorem bC_44_5 {d : Nat} {Q : Option Value → ai_H → Prop} {h : ai_H} {x1 y0 : Int32} (k : RC d 44 Q 8 [some (.ref 24), some (.int x1), some (.int y0), some (.int 0)] [] h) : RC d 44 Q 5 [some (.ref 24), some (.int x1), none, none] [.int y0] h := by
  obtain ⟨n, e⟩ := k
  exact Exists.intro (n + 3) (Exists.intro _ (And.intro rfl (Exists.intro _ (And.intro rfl (e)))))
theorem bC_44_8 {d : Nat} {Q : Option Value → ai_H → Prop} {h : ai_H} {x1 x2 x3 : Int32} (kt : 100 ≤ x3 → RC d 44 Q 109 [some (.ref 24), some (.int x1), some (.int x2), some (.int x3)] [] h) (kf : ¬ 100 ≤ x3 → RC d 44 Q 14 [some (.ref 24), some (.int x1), some (.int x2), some (.int x3)] [] h) : RC d 44 Q 8 [some (.ref 24), some (.int x1), some (.int x2), some (.int x3)] [] h := by
  by_cases c : 100 ≤ x3
  · obtain ⟨n, e⟩ := kt c
    exact Exists.intro (n + 3) (Or.inl (And.intro c e))
  · obtain ⟨n, e⟩ := kf c
    exact Exists.intro (n + 3) (Or.inr (And.intro c e))
theorem bC_44_14 {d : Nat} {Q : Option Value → ai_H → Prop} {h : ai_H} {x1 x2 x3 : Int32} (kt : ¬ (h 24 6) = (-1) → RC d 44 Q 109 [some (.ref 24), some (.int x1), some (.int x2), some (.int x3)] [] h) (kf : (h 24 6) = (-1) → RC d 44 Q 22 [some (.ref 24), some (.int x1), some (.int x2), some (.int x3)] [] h) : RC d 44 Q 14 [some (.ref 24), some (.int x1), some (.int x2), some (.int x3)] [] h := by
  by_cases c : (h 24 6) = (-1)
  · obtain ⟨n, e⟩ := kf c
    exact Exists.intro (n + 4) (And.intro rfl (Or.inr (And.intro (fun z => z c) e)))
  · obtain ⟨n, e⟩ := kt c
    exact Exists.intro (n + 4) (And.intro rfl (Or.inl (And.intro c e)))
theorem bC_44_22 {d : Nat} {Q : Option Value → ai_H → Prop} {h h2 : ai_H} {x1 x2 x3 r : Int32} (hc : CC d 42 [.ref 24] h (some (.int r)) h2) (k : RC d 44 Q 26 [some (.ref 24), some (.int x1), some (.int x2), some (.int x3)] [.int r] h2) : RC d 44 Q 22 [some (.ref 24), some (.int x1), some (.int x2), some (.int x3)] [] h := by
  obtain ⟨n, e⟩ := k
  exact Exists.intro (n + 2) (Exists.intro [] (Exists.intro 24 (Exists.intro [] (Exists.intro _ (Exists.intro (some (.int r)) (Exists.intro h2 (And.intro rfl (And.intro rfl (And.intro rfl (And.intro (Nat.le_of_ble_eq_true rfl) (And.intro hc e)))))))))))
theorem bC_44_26 {d : Nat} {Q : Option Value → ai_H → Prop} {h : ai_H} {x1 x2 x3 y0 : Int32} (kt : ¬ y0 = 91 → RC d 44 Q 109 [some (.ref 24), some (.int x1), some (.int x2), some (.int x3)] [] h) (kf : y0 = 91 → RC d 44 Q 31 [some (.ref 24), some (.int x1), some (.int x2), some (.int x3)] [] h) : RC d 44 Q 26 [some (.ref 24), some (.int x1), some (.int x2), some (.int x3)] [.int y0] h := by
  by_cases c : y0 = 91
  · obtain ⟨n, e⟩ := kf c
    exact Exists.intro (n + 2) (Or.inr (And.intro (fun z => z c) e))
  · obtain ⟨n, e⟩ := kt c
    exact Exists.intro (n + 2) (Or.inl (And.intro c e))
theorem bC_44_31 {d : Nat} {Q : Option Value → ai_H → Prop} {h h2 : ai_H} {x1 x2 x3 r : Int32} (hc : CC d 70 [.ref 12, .int x2] h (some (.int r)) h2) (k : RC d 44 Q 39 [some (.ref 24), some (.int x1), some (.int x2), some (.int x3)] [.int r] h2) : RC d 44 Q 31 [some (.ref 24), some (.int x1), some (.int x2), some (.int x3)] [] h := by
  obtain ⟨n, e⟩ := k
  exact Exists.intro (n + 4) (And.intro rfl (Exists.intro [.int x2] (Exists.intro 12 (Exists.intro [] (Exists.intro _ (Exists.intro (some (.int r)) (Exists.intro h2 (And.intro rfl (And.intro rfl (And.intro rfl (And.intro (Nat.le_of_ble_eq_true rfl) (And.intro hc e))))))))))))
theorem bC_44_39 {d : Nat} {Q : Option Value → ai_H → Prop} {h : ai_H} {x1 x2 x3 y0 : Int32} (kt : ¬ y0 = 0 → RC d 44 Q 51 [some (.ref 24), some (.int x1), some (.int x2), some (.int x3)] [] h) (kf : y0 = 0 → RC d 44 Q 42 [some (.ref 24), some (.int x1), some (.int x2), some (.int x3)] [] h) : RC d 44 Q 39 [some (.ref 24), some (.int x1), some (.int x2), some (.int x3)] [.int y0] h := by
  by_cases c : y0 = 0
  · obtain ⟨n, e⟩ := kf c
    exact Exists.intro (n + 1) (Or.inr (And.intro (fun z => z c) e))
  · obtain ⟨n, e⟩ := kt c
    exact Exists.intro (n + 1) (Or.inl (And.intro c e))
theorem bC_44_42 {d : Nat} {Q : Option Value → ai_H → Prop} {h h2 : ai_H} {x1 x2 x3 r : Int32} (hc : CC d 43 [.ref 24, .int (h 24 5)] h (some (.int r)) h2) (k : RC d 44 Q 50 [some (.ref 24), some (.int x1), some (.int x2), some (.int x3)] [.int r] h2) : RC d 44 Q 42 [some (.ref 24), some (.int x1), some (.int x2), some (.int x3)] [] h := by
  obtain ⟨n, e⟩ := k
  exact Exists.intro (n + 4) (And.intro rfl (Exists.intro [.int (h 24 5)] (Exists.intro 24 (Exists.intro [] (Exists.intro _ (Exists.intro (some (.int r)) (Exists.intro h2 (And.intro rfl (And.intro rfl (And.intro rfl (And.intro (Nat.le_of_ble_eq_true rfl) (And.intro hc e))))))))))))
theorem bC_44_50 {d : Nat} {Q : Option Value → ai_H → Prop} {h : ai_H} {x1 x2 x3 y0 : Int32} (k : Q (some (.int y0)) h) : RC d 44 Q 50 [some (.ref 24), some (.int x1), some (.int x2), some (.int x3)] [.int y0] h := Exists.intro 1 (And.intro (Or.inl rfl) k)
theorem bC_44_51 {d : Nat} {Q : Option Value → ai_H → Prop} {h h2 : ai_H} {x1 x2 x3 r : Int32} (hc : CC d 42 [.ref 24] (ai_up h 24 5 ((h 24 5) + 1)) (some (.int r)) h2) (k : RC d 44 Q 65 [some (.ref 24), some (.int x1), some (.int x2), some (.int x3)] [.int r] h2) : RC d 44 Q 51 [some (.ref 24), some (.int x1), some (.int x2), some (.int x3)] [] h := by
  obtain ⟨n, e⟩ := k
  exact Exists.intro (n + 8) (And.intro rfl (And.intro rfl (And.intro (Exists.intro _ (And.intro rfl rfl)) (And.intro (Or.inl rfl) (Exists.intro [] (Exists.intro 24 (Exists.intro [] (Exists.intro _ (Exists.intro (some (.int r)) (Exists.intro h2 (And.intro rfl (And.intro rfl (And.intro rfl (And.intro (Nat.le_of_ble_eq_true rfl) (And.intro hc e)))))))))))))))
theorem bC_44_65 {d : Nat} {Q : Option Value → ai_H → Prop} {h : ai_H} {x1 x2 x3 y0 : Int32} (kt : y0 = 93 → RC d 44 Q 79 [some (.ref 24), some (.int x1), some (.int x2), some (.int x3)] [] h) (kf : ¬ y0 = 93 → RC d 44 Q 70 [some (.ref 24), some (.int x1), some (.int x2), some (.int x3)] [] h) : RC d 44 Q 65 [some (.ref 24), some (.int x1), some (.int x2), some (.int x3)] [.int y0] h := by
  by_cases c : y0 = 93
  · obtain ⟨n, e⟩ := kt c
    exact Exists.intro (n + 2) (Or.inl (And.intro c e))
  · obtain ⟨n, e⟩ := kf c
    exact Exists.intro (n + 2) (Or.inr (And.intro c e))
theorem bC_44_70 {d : Nat} {Q : Option Value → ai_H → Prop} {h h2 : ai_H} {x1 x2 x3 r : Int32} (hc : CC d 43 [.ref 24, .int (h 24 5)] h (some (.int r)) h2) (k : RC d 44 Q 78 [some (.ref 24), some (.int x1), some (.int x2), some (.int x3)] [.int r] h2) : RC d 44 Q 70 [some (.ref 24), some (.int x1), some (.int x2), some (.int x3)] [] h := by
  obtain ⟨n, e⟩ := k
  exact Exists.intro (n + 4) (And.intro rfl (Exists.intro [.int (h 24 5)] (Exists.intro 24 (Exists.intro [] (Exists.intro _ (Exists.intro (some (.int r)) (Exists.intro h2 (And.intro rfl (And.intro rfl (And.intro rfl (And.intro (Nat.le_of_ble_eq_true rfl) (And.intro hc e))))))))))))
theorem bC_44_78 {d : Nat} {Q : Option Value → ai_H → Prop} {h : ai_H} {x1 x2 x3 y0 : Int32} (k : Q (some (.int y0)) h) : RC d 44 Q 78 [some (.ref 24), some (.int x1), some (.int x2), some (.int x3)] [.int y0] h := Exists.intro 1 (And.intro (Or.inl rfl) k)
theorem bC_44_79 {d : Nat} {Q : Option Value → ai_H → Prop} {h h2 : ai_H} {x1 x2 x3 r : Int32} (hc : CC d 74 [.ref 12, .int 4, .int (-1), .int x2, .int (-1), .int (-1), .int (-1)] (ai_up h 24 5 ((h 24 5) + 1)) (some (.int r)) h2) (k : RC d 44 Q 102 [some (.ref 24), some (.int x1), some (.int x2), some (.int x3)] [.int r] h2) : RC d 44 Q 79 [some (.ref 24), some (.int x1), some (.int x2), some (.int x3)] [] h := by
  obtain ⟨n, e⟩ := k
  exact Exists.intro (n + 15) (And.intro rfl (And.intro rfl (And.intro (Exists.intro _ (And.intro rfl rfl)) (And.intro (Or.inl rfl) (And.intro rfl (Exists.intro [.int 4, .int (-1), .int x2, .int (-1), .int (-1), .int (-1)] (Exists.intro 12 (Exists.intro [] (Exists.intro _ (Exists.intro (some (.int r)) (Exists.intro h2 (And.intro rfl (And.intro rfl (And.intro rfl (And.intro (Nat.le_of_ble_eq_true rfl) (And.intro hc e))))))))))))))))
theorem bC_44_102 {d : Nat} {Q : Option Value → ai_H → Prop} {h : ai_H} {x1 x2 x3 y0 : Int32} (k : RC d 44 Q 8 [some (.ref 24), some (.int x1), some (.int y0), some (.int (x3 + 1))] [] h) : RC d 44 Q 102 [some (.ref 24), some (.int x1), some (.int x2), some (.int x3)] [.int y0] h := by
  obtain ⟨n, e⟩ := k
  exact Exists.intro (n + 3) (Exists.intro _ (And.intro rfl (Exists.intro _ (And.intro rfl (e)))))
theorem bC_44_109 {d : Nat} {Q : Option Value → ai_H → Prop} {h : ai_H} {x1 x2 x3 : Int32} (k : Q (some (.int x2)) h) : RC d 44 Q 109 [some (.ref 24), some (.int x1), some (.int x2), some (.int x3)] [] h := Exists.intro 2 (And.intro (Or.inl rfl) k)
theorem bC_45_0 {d : Nat} {Q : Option Value → ai_H → Prop} {h h2 : ai_H} {x1 r : Int32} (hc : CC d 42 [.ref 24] h (some (.int r)) h2) (k : RC d 45 Q 4 [some (.ref 24), some (.int x1), none, none, none] [.int r] h2) : RC d 45 Q 0 [some (.ref 24), some (.int x1), none, none, none] [] h := by
  obtain ⟨n, e⟩ := k
  exact Exists.intro (n + 2) (Exists.intro [] (Exists.intro 24 (Exists.intro [] (Exists.intro _ (Exists.intro (some (.int r)) (Exists.intro h2 (And.intro rfl (And.intro rfl (And.intro rfl (And.intro (Nat.le_of_ble_eq_true rfl) (And.intro hc e)))))))))))
theorem bC_45_4 {d : Nat} {Q : Option Value → ai_H → Prop} {h : ai_H} {x1 y0 : Int32} (kt : y0 < 48 → RC d 45 Q 32 [some (.ref 24), some (.int x1), some (.int y0), none, none] [] h) (kf : ¬ y0 < 48 → RC d 45 Q 11 [some (.ref 24), some (.int x1), some (.int y0), none, none] [] h) : RC d 45 Q 4 [some (.ref 24), some (.int x1), none, none, none] [.int y0] h := by
  by_cases c : y0 < 48
  · obtain ⟨n, e⟩ := kt c
    exact Exists.intro (n + 4) (Exists.intro _ (And.intro rfl (Or.inl (And.intro c e))))
  · obtain ⟨n, e⟩ := kf c
    exact Exists.intro (n + 4) (Exists.intro _ (And.intro rfl (Or.inr (And.intro c e))))
theorem bC_45_11 {d : Nat} {Q : Option Value → ai_H → Prop} {h : ai_H} {x1 x2 : Int32} (kt : 57 < x2 → RC d 45 Q 32 [some (.ref 24), some (.int x1), some (.int x2), none, none] [] h) (kf : ¬ 57 < x2 → RC d 45 Q 17 [some (.ref 24), some (.int x1), some (.int x2), none, none] [] h) : RC d 45 Q 11 [some (.ref 24), some (.int x1), some (.int x2), none, none] [] h := by
  by_cases c : 57 < x2
  · obtain ⟨n, e⟩ := kt c
    exact Exists.intro (n + 3) (Or.inl (And.intro c e))
  · obtain ⟨n, e⟩ := kf c
    exact Exists.intro (n + 3) (Or.inr (And.intro c e))
theorem bC_45_17 {d : Nat} {Q : Option Value → ai_H → Prop} {h : ai_H} {x1 x2 : Int32} (k : Q (some (.int (x2 - 48))) (ai_up h 24 5 ((h 24 5) + 1))) : RC d 45 Q 17 [some (.ref 24), some (.int x1), some (.int x2), none, none] [] h := Exists.intro 10 (And.intro rfl (And.intro rfl (And.intro (Exists.intro _ (And.intro rfl rfl)) (And.intro (Or.inl rfl) (And.intro (Or.inl rfl) k)))))
theorem bC_45_32 {d : Nat} {Q : Option Value → ai_H → Prop} {h : ai_H} {x1 x2 : Int32} (kt : x2 < 97 → RC d 45 Q 53 [some (.ref 24), some (.int x1), some (.int x2), none, none] [] h) (kf : ¬ x2 < 97 → RC d 45 Q 38 [some (.ref 24), some (.int x1), some (.int x2), none, none] [] h) : RC d 45 Q 32 [some (.ref 24), some (.int x1), some (.int x2), none, none] [] h := by
  by_cases c : x2 < 97
  · obtain ⟨n, e⟩ := kt c
    exact Exists.intro (n + 3) (Or.inl (And.intro c e))
  · obtain ⟨n, e⟩ := kf c
    exact Exists.intro (n + 3) (Or.inr (And.intro c e))
theorem bC_45_38 {d : Nat} {Q : Option Value → ai_H → Prop} {h : ai_H} {x1 x2 : Int32} (kt : 108 < x2 → RC d 45 Q 53 [some (.ref 24), some (.int x1), some (.int x2), none, none] [] h) (kf : ¬ 108 < x2 → RC d 45 Q 44 [some (.ref 24), some (.int x1), some (.int x2), none, none] [] h) : RC d 45 Q 38 [some (.ref 24), some (.int x1), some (.int x2), none, none] [] h := by
  by_cases c : 108 < x2
  · obtain ⟨n, e⟩ := kt c
    exact Exists.intro (n + 3) (Or.inl (And.intro c e))
  · obtain ⟨n, e⟩ := kf c
    exact Exists.intro (n + 3) (Or.inr (And.intro c e))
theorem bC_45_44 {d : Nat} {Q : Option Value → ai_H → Prop} {h h2 : ai_H} {x1 x2 r : Int32} (hc : CC d 46 [.ref 24, .int (x2 - 97)] h (some (.int r)) h2) (k : RC d 45 Q 52 [some (.ref 24), some (.int x1), some (.int x2), none, none] [.int r] h2) : RC d 45 Q 44 [some (.ref 24), some (.int x1), some (.int x2), none, none] [] h := by
  obtain ⟨n, e⟩ := k
  exact Exists.intro (n + 5) (Exists.intro [.int (x2 - 97)] (Exists.intro 24 (Exists.intro [] (Exists.intro _ (Exists.intro (some (.int r)) (Exists.intro h2 (And.intro rfl (And.intro rfl (And.intro rfl (And.intro (Nat.le_of_ble_eq_true rfl) (And.intro hc e)))))))))))
theorem bC_45_52 {d : Nat} {Q : Option Value → ai_H → Prop} {h : ai_H} {x1 x2 y0 : Int32} (k : Q (some (.int y0)) h) : RC d 45 Q 52 [some (.ref 24), some (.int x1), some (.int x2), none, none] [.int y0] h := Exists.intro 1 (And.intro (Or.inl rfl) k)
theorem bC_45_53 {d : Nat} {Q : Option Value → ai_H → Prop} {h : ai_H} {x1 x2 : Int32} (k : RC d 45 Q 58 [some (.ref 24), some (.int x1), some (.int x2), some (.int (-1)), some (.int 0)] [] h) : RC d 45 Q 53 [some (.ref 24), some (.int x1), some (.int x2), none, none] [] h := by
  obtain ⟨n, e⟩ := k
  exact Exists.intro (n + 4) (Exists.intro _ (And.intro rfl (Exists.intro _ (And.intro rfl (e)))))
theorem bC_45_58 {d : Nat} {Q : Option Value → ai_H → Prop} {h : ai_H} {x1 x2 x3 x4 : Int32} (kt : 100 ≤ x4 → RC d 45 Q 113 [some (.ref 24), some (.int x1), some (.int x2), some (.int x3), some (.int x4)] [] h) (kf : ¬ 100 ≤ x4 → RC d 45 Q 65 [some (.ref 24), some (.int x1), some (.int x2), some (.int x3), some (.int x4)] [] h) : RC d 45 Q 58 [some (.ref 24), some (.int x1), some (.int x2), some (.int x3), some (.int x4)] [] h := by
  by_cases c : 100 ≤ x4
  · obtain ⟨n, e⟩ := kt c
    exact Exists.intro (n + 3) (Or.inl (And.intro c e))
  · obtain ⟨n, e⟩ := kf c
    exact Exists.intro (n + 3) (Or.inr (And.intro c e))
theorem bC_45_65 {d : Nat} {Q : Option Value → ai_H → Prop} {h : ai_H} {x1 x2 x3 x4 : Int32} (kt : 64 < x1 → RC d 45 Q 113 [some (.ref 24), some (.int x1), some (.int x2), some (.int x3), some (.int x4)] [] h) (kf : ¬ 64 < x1 → RC d 45 Q 71 [some (.ref 24), some (.int x1), some (.int x2), some (.int x3), some (.int x4)] [] h) : RC d 45 Q 65 [some (.ref 24), some (.int x1), some (.int x2), some (.int x3), some (.int x4)] [] h := by
  by_cases c : 64 < x1
  · obtain ⟨n, e⟩ := kt c
    exact Exists.intro (n + 3) (Or.inl (And.intro c e))
  · obtain ⟨n, e⟩ := kf c
    exact Exists.intro (n + 3) (Or.inr (And.intro c e))
theorem bC_45_71 {d : Nat} {Q : Option Value → ai_H → Prop} {h h2 : ai_H} {x1 x2 x3 x4 r : Int32} (hc : CC d 47 [.ref 24, .int x3, .int x1] h (some (.int r)) h2) (k : RC d 45 Q 77 [some (.ref 24), some (.int x1), some (.int x2), some (.int x3), some (.int x4)] [.int r] h2) : RC d 45 Q 71 [some (.ref 24), some (.int x1), some (.int x2), some (.int x3), some (.int x4)] [] h := by
  obtain ⟨n, e⟩ := k
  exact Exists.intro (n + 4) (Exists.intro [.int x3, .int x1] (Exists.intro 24 (Exists.intro [] (Exists.intro _ (Exists.intro (some (.int r)) (Exists.intro h2 (And.intro rfl (And.intro rfl (And.intro rfl (And.intro (Nat.le_of_ble_eq_true rfl) (And.intro hc e)))))))))))
theorem bC_45_77 {d : Nat} {Q : Option Value → ai_H → Prop} {h : ai_H} {x1 x2 x3 x4 y0 : Int32} (kt : ¬ (h 24 6) = (-1) → RC d 45 Q 95 [some (.ref 24), some (.int x1), some (.int x2), some (.int y0), some (.int x4)] [] h) (kf : (h 24 6) = (-1) → RC d 45 Q 86 [some (.ref 24), some (.int x1), some (.int x2), some (.int y0), some (.int x4)] [] h) : RC d 45 Q 77 [some (.ref 24), some (.int x1), some (.int x2), some (.int x3), some (.int x4)] [.int y0] h := by
  by_cases c : (h 24 6) = (-1)
  · obtain ⟨n, e⟩ := kf c
    exact Exists.intro (n + 5) (Exists.intro _ (And.intro rfl (And.intro rfl (Or.inr (And.intro (fun z => z c) e)))))
  · obtain ⟨n, e⟩ := kt c
    exact Exists.intro (n + 5) (Exists.intro _ (And.intro rfl (And.intro rfl (Or.inl (And.intro c e)))))
theorem bC_45_86 {d : Nat} {Q : Option Value → ai_H → Prop} {h h2 : ai_H} {x1 x2 x3 x4 r : Int32} (hc : CC d 42 [.ref 24] h (some (.int r)) h2) (k : RC d 45 Q 90 [some (.ref 24), some (.int x1), some (.int x2), some (.int x3), some (.int x4)] [.int r] h2) : RC d 45 Q 86 [some (.ref 24), some (.int x1), some (.int x2), some (.int x3), some (.int x4)] [] h := by
  obtain ⟨n, e⟩ := k
  exact Exists.intro (n + 2) (Exists.intro [] (Exists.intro 24 (Exists.intro [] (Exists.intro _ (Exists.intro (some (.int r)) (Exists.intro h2 (And.intro rfl (And.intro rfl (And.intro rfl (And.intro (Nat.le_of_ble_eq_true rfl) (And.intro hc e)))))))))))
theorem bC_45_90 {d : Nat} {Q : Option Value → ai_H → Prop} {h : ai_H} {x1 x2 x3 x4 y0 : Int32} (kt : y0 = 46 → RC d 45 Q 97 [some (.ref 24), some (.int x1), some (.int x2), some (.int x3), some (.int x4)] [] h) (kf : ¬ y0 = 46 → RC d 45 Q 95 [some (.ref 24), some (.int x1), some (.int x2), some (.int x3), some (.int x4)] [] h) : RC d 45 Q 90 [some (.ref 24), some (.int x1), some (.int x2), some (.int x3), some (.int x4)] [.int y0] h := by
  by_cases c : y0 = 46
  · obtain ⟨n, e⟩ := kt c
    exact Exists.intro (n + 2) (Or.inl (And.intro c e))
  · obtain ⟨n, e⟩ := kf c
    exact Exists.intro (n + 2) (Or.inr (And.intro c e))
theorem bC_45_95 {d : Nat} {Q : Option Value → ai_H → Prop} {h : ai_H} {x1 x2 x3 x4 : Int32} (k : Q (some (.int x3)) h) : RC d 45 Q 95 [some (.ref 24), some (.int x1), some (.int x2), some (.int x3), some (.int x4)] [] h := Exists.intro 2 (And.intro (Or.inl rfl) k)
theorem bC_45_97 {d : Nat} {Q : Option Value → ai_H → Prop} {h : ai_H} {x1 x2 x3 x4 : Int32} (k : RC d 45 Q 58 [some (.ref 24), some (.int x1), some (.int x2), some (.int x3), some (.int (x4 + 1))] [] (ai_up h 24 5 ((h 24 5) + 1))) : RC d 45 Q 97 [some (.ref 24), some (.int x1), some (.int x2), some (.int x3), some (.int x4)] [] h := by
  obtain ⟨n, e⟩ := k
  exact Exists.intro (n + 8) (And.intro rfl (And.intro rfl (And.intro (Exists.intro _ (And.intro rfl rfl)) (And.intro (Or.inl rfl) (Exists.intro _ (And.intro rfl (e)))))))
theorem bC_45_113 {d : Nat} {Q : Option Value → ai_H → Prop} {h h2 : ai_H} {x1 x2 x3 x4 r : Int32} (hc : CC d 43 [.ref 24, .int (h 24 5)] h (some (.int r)) h2) (k : RC d 45 Q 121 [some (.ref 24), some (.int x1), some (.int x2), some (.int x3), some (.int x4)] [.int r] h2) : RC d 45 Q 113 [some (.ref 24), some (.int x1), some (.int x2), some (.int x3), some (.int x4)] [] h := by
  obtain ⟨n, e⟩ := k
  exact Exists.intro (n + 4) (And.intro rfl (Exists.intro [.int (h 24 5)] (Exists.intro 24 (Exists.intro [] (Exists.intro _ (Exists.intro (some (.int r)) (Exists.intro h2 (And.intro rfl (And.intro rfl (And.intro rfl (And.intro (Nat.le_of_ble_eq_true rfl) (And.intro hc e))))))))))))
theorem bC_45_121 {d : Nat} {Q : Option Value → ai_H → Prop} {h : ai_H} {x1 x2 x3 x4 y0 : Int32} (k : Q (some (.int y0)) h) : RC d 45 Q 121 [some (.ref 24), some (.int x1), some (.int x2), some (.int x3), some (.int x4)] [.int y0] h := Exists.intro 1 (And.intro (Or.inl rfl) k)
theorem bC_46_0 {d : Nat} {Q : Option Value → ai_H → Prop} {h h2 : ai_H} {x1 r : Int32} (hc : CC d 1 [.ref 0, .int x1] h (some (.int r)) h2) (k : RC d 46 Q 8 [some (.ref 24), some (.int x1), none] [.int r] h2) : RC d 46 Q 0 [some (.ref 24), some (.int x1), none] [] h := by
  obtain ⟨n, e⟩ := k
  exact Exists.intro (n + 4) (And.intro rfl (Exists.intro [.int x1] (Exists.intro 0 (Exists.intro [] (Exists.intro _ (Exists.intro (some (.int r)) (Exists.intro h2 (And.intro rfl (And.intro rfl (And.intro rfl (And.intro (Nat.le_of_ble_eq_true rfl) (And.intro hc e))))))))))))
theorem bC_46_8 {d : Nat} {Q : Option Value → ai_H → Prop} {h : ai_H} {x1 y0 : Int32} (kt : ¬ y0 = 0 → RC d 46 Q 20 [some (.ref 24), some (.int x1), none] [] h) (kf : y0 = 0 → RC d 46 Q 11 [some (.ref 24), some (.int x1), none] [] h) : RC d 46 Q 8 [some (.ref 24), some (.int x1), none] [.int y0] h := by
  by_cases c : y0 = 0
  · obtain ⟨n, e⟩ := kf c
    exact Exists.intro (n + 1) (Or.inr (And.intro (fun z => z c) e))
  · obtain ⟨n, e⟩ := kt c
    exact Exists.intro (n + 1) (Or.inl (And.intro c e))
theorem bC_46_11 {d : Nat} {Q : Option Value → ai_H → Prop} {h h2 : ai_H} {x1 r : Int32} (hc : CC d 43 [.ref 24, .int (h 24 5)] h (some (.int r)) h2) (k : RC d 46 Q 19 [some (.ref 24), some (.int x1), none] [.int r] h2) : RC d 46 Q 11 [some (.ref 24), some (.int x1), none] [] h := by
  obtain ⟨n, e⟩ := k
  exact Exists.intro (n + 4) (And.intro rfl (Exists.intro [.int (h 24 5)] (Exists.intro 24 (Exists.intro [] (Exists.intro _ (Exists.intro (some (.int r)) (Exists.intro h2 (And.intro rfl (And.intro rfl (And.intro rfl (And.intro (Nat.le_of_ble_eq_true rfl) (And.intro hc e))))))))))))
theorem bC_46_19 {d : Nat} {Q : Option Value → ai_H → Prop} {h : ai_H} {x1 y0 : Int32} (k : Q (some (.int y0)) h) : RC d 46 Q 19 [some (.ref 24), some (.int x1), none] [.int y0] h := Exists.intro 1 (And.intro (Or.inl rfl) k)
theorem bC_46_20 {d : Nat} {Q : Option Value → ai_H → Prop} {h h2 : ai_H} {x1 r : Int32} (hc : CC d 42 [.ref 24] (ai_up h 24 5 ((h 24 5) + 1)) (some (.int r)) h2) (k : RC d 46 Q 39 [some (.ref 24), some (.int x1), none] [.int r, .int x1, .ref 0] h2) : RC d 46 Q 20 [some (.ref 24), some (.int x1), none] [] h := by
  obtain ⟨n, e⟩ := k
  exact Exists.intro (n + 11) (And.intro rfl (And.intro rfl (And.intro (Exists.intro _ (And.intro rfl rfl)) (And.intro (Or.inl rfl) (And.intro rfl (Exists.intro [] (Exists.intro 24 (Exists.intro [.int x1, .ref 0] (Exists.intro _ (Exists.intro (some (.int r)) (Exists.intro h2 (And.intro rfl (And.intro rfl (And.intro rfl (And.intro (Nat.le_of_ble_eq_true rfl) (And.intro hc e))))))))))))))))
theorem bC_46_39 {d : Nat} {Q : Option Value → ai_H → Prop} {h h2 : ai_H} {x1 y1 y2 r : Int32} (hc : CC d 9 [.ref 0, .int y1, .int (y2 - 48)] h (some (.int r)) h2) (k : RC d 46 Q 45 [some (.ref 24), some (.int x1), none] [.int r] h2) : RC d 46 Q 39 [some (.ref 24), some (.int x1), none] [.int y2, .int y1, .ref 0] h := by
  obtain ⟨n, e⟩ := k
  exact Exists.intro (n + 3) (Exists.intro [.int y1, .int (y2 - 48)] (Exists.intro 0 (Exists.intro [] (Exists.intro _ (Exists.intro (some (.int r)) (Exists.intro h2 (And.intro rfl (And.intro rfl (And.intro rfl (And.intro (Nat.le_of_ble_eq_true rfl) (And.intro hc e)))))))))))
theorem bC_46_45 {d : Nat} {Q : Option Value → ai_H → Prop} {h : ai_H} {x1 y0 : Int32} (kt : ¬ y0 = (-1) → RC d 46 Q 60 [some (.ref 24), some (.int x1), some (.int y0)] [] h) (kf : y0 = (-1) → RC d 46 Q 51 [some (.ref 24), some (.int x1), some (.int y0)] [] h) : RC d 46 Q 45 [some (.ref 24), some (.int x1), none] [.int y0] h := by
  by_cases c : y0 = (-1)
  · obtain ⟨n, e⟩ := kf c
    exact Exists.intro (n + 4) (Exists.intro _ (And.intro rfl (Or.inr (And.intro (fun z => z c) e))))
  · obtain ⟨n, e⟩ := kt c
    exact Exists.intro (n + 4) (Exists.intro _ (And.intro rfl (Or.inl (And.intro c e))))
theorem bC_46_51 {d : Nat} {Q : Option Value → ai_H → Prop} {h h2 : ai_H} {x1 x2 r : Int32} (hc : CC d 43 [.ref 24, .int (h 24 5)] h (some (.int r)) h2) (k : RC d 46 Q 59 [some (.ref 24), some (.int x1), some (.int x2)] [.int r] h2) : RC d 46 Q 51 [some (.ref 24), some (.int x1), some (.int x2)] [] h := by
  obtain ⟨n, e⟩ := k
  exact Exists.intro (n + 4) (And.intro rfl (Exists.intro [.int (h 24 5)] (Exists.intro 24 (Exists.intro [] (Exists.intro _ (Exists.intro (some (.int r)) (Exists.intro h2 (And.intro rfl (And.intro rfl (And.intro rfl (And.intro (Nat.le_of_ble_eq_true rfl) (And.intro hc e))))))))))))
theorem bC_46_59 {d : Nat} {Q : Option Value → ai_H → Prop} {h : ai_H} {x1 x2 y0 : Int32} (k : Q (some (.int y0)) h) : RC d 46 Q 59 [some (.ref 24), some (.int x1), some (.int x2)] [.int y0] h := Exists.intro 1 (And.intro (Or.inl rfl) k)
theorem bC_46_60 {d : Nat} {Q : Option Value → ai_H → Prop} {h : ai_H} {x1 x2 : Int32} (k : Q (some (.int x2)) (ai_up h 24 5 ((h 24 5) + 1))) : RC d 46 Q 60 [some (.ref 24), some (.int x1), some (.int x2)] [] h := Exists.intro 8 (And.intro rfl (And.intro rfl (And.intro (Exists.intro _ (And.intro rfl rfl)) (And.intro (Or.inl rfl) (And.intro (Or.inl rfl) k)))))
theorem bC_47_0 {d : Nat} {Q : Option Value → ai_H → Prop} {h h2 : ai_H} {x1 x2 r : Int32} (hc : CC d 42 [.ref 24] h (some (.int r)) h2) (k : RC d 47 Q 9 [some (.ref 24), some (.int x1), some (.int x2), some (.int (h 24 5)), none, none, none, none] [.int r] h2) : RC d 47 Q 0 [some (.ref 24), some (.int x1), some (.int x2), none, none, none, none, none] [] h := by
  obtain ⟨n, e⟩ := k
  exact Exists.intro (n + 5) (And.intro rfl (Exists.intro _ (And.intro rfl (Exists.intro [] (Exists.intro 24 (Exists.intro [] (Exists.intro _ (Exists.intro (some (.int r)) (Exists.intro h2 (And.intro rfl (And.intro rfl (And.intro rfl (And.intro (Nat.le_of_ble_eq_true rfl) (And.intro hc e))))))))))))))
theorem bC_47_9 {d : Nat} {Q : Option Value → ai_H → Prop} {h h2 : ai_H} {x1 x2 x3 y0 r : Int32} (hc : CC d 1 [.ref 0, .int (y0 - 65)] h (some (.int r)) h2) (k : RC d 47 Q 23 [some (.ref 24), some (.int x1), some (.int x2), some (.int x3), some (.int (y0 - 65)), none, none, none] [.int r] h2) : RC d 47 Q 9 [some (.ref 24), some (.int x1), some (.int x2), some (.int x3), none, none, none, none] [.int y0] h := by
  obtain ⟨n, e⟩ := k
  exact Exists.intro (n + 7) (Exists.intro _ (And.intro rfl (And.intro rfl (Exists.intro [.int (y0 - 65)] (Exists.intro 0 (Exists.intro [] (Exists.intro _ (Exists.intro (some (.int r)) (Exists.intro h2 (And.intro rfl (And.intro rfl (And.intro rfl (And.intro (Nat.le_of_ble_eq_true rfl) (And.intro hc e))))))))))))))
theorem bC_47_23 {d : Nat} {Q : Option Value → ai_H → Prop} {h : ai_H} {x1 x2 x3 x4 y0 : Int32} (kt : ¬ y0 = 0 → RC d 47 Q 35 [some (.ref 24), some (.int x1), some (.int x2), some (.int x3), some (.int x4), none, none, none] [] h) (kf : y0 = 0 → RC d 47 Q 26 [some (.ref 24), some (.int x1), some (.int x2), some (.int x3), some (.int x4), none, none, none] [] h) : RC d 47 Q 23 [some (.ref 24), some (.int x1), some (.int x2), some (.int x3), some (.int x4), none, none, none] [.int y0] h := by
  by_cases c : y0 = 0
  · obtain ⟨n, e⟩ := kf c
    exact Exists.intro (n + 1) (Or.inr (And.intro (fun z => z c) e))
  · obtain ⟨n, e⟩ := kt c
    exact Exists.intro (n + 1) (Or.inl (And.intro c e))
theorem bC_47_26 {d : Nat} {Q : Option Value → ai_H → Prop} {h h2 : ai_H} {x1 x2 x3 x4 r : Int32} (hc : CC d 43 [.ref 24, .int (h 24 5)] h (some (.int r)) h2) (k : RC d 47 Q 34 [some (.ref 24), some (.int x1), some (.int x2), some (.int x3), some (.int x4), none, none, none] [.int r] h2) : RC d 47 Q 26 [some (.ref 24), some (.int x1), some (.int x2), some (.int x3), some (.int x4), none, none, none] [] h := by
  obtain ⟨n, e⟩ := k
  exact Exists.intro (n + 4) (And.intro rfl (Exists.intro [.int (h 24 5)] (Exists.intro 24 (Exists.intro [] (Exists.intro _ (Exists.intro (some (.int r)) (Exists.intro h2 (And.intro rfl (And.intro rfl (And.intro rfl (And.intro (Nat.le_of_ble_eq_true rfl) (And.intro hc e))))))))))))
theorem bC_47_34 {d : Nat} {Q : Option Value → ai_H → Prop} {h : ai_H} {x1 x2 x3 x4 y0 : Int32} (k : Q (some (.int y0)) h) : RC d 47 Q 34 [some (.ref 24), some (.int x1), some (.int x2), some (.int x3), some (.int x4), none, none, none] [.int y0] h := Exists.intro 1 (And.intro (Or.inl rfl) k)
theorem bC_47_35 {d : Nat} {Q : Option Value → ai_H → Prop} {h h2 : ai_H} {x1 x2 x3 x4 r : Int32} (hc : CC d 42 [.ref 24] (ai_up h 24 5 ((h 24 5) + 1)) (some (.int r)) h2) (k : RC d 47 Q 58 [some (.ref 24), some (.int x1), some (.int x2), some (.int x3), some (.int x4), some (.int (-1)), some (.int (-1)), some (.int (-1))] [.int r] h2) : RC d 47 Q 35 [some (.ref 24), some (.int x1), some (.int x2), some (.int x3), some (.int x4), none, none, none] [] h := by
  obtain ⟨n, e⟩ := k
  exact Exists.intro (n + 14) (And.intro rfl (And.intro rfl (And.intro (Exists.intro _ (And.intro rfl rfl)) (And.intro (Or.inl rfl) (Exists.intro _ (And.intro rfl (Exists.intro _ (And.intro rfl (Exists.intro _ (And.intro rfl (Exists.intro [] (Exists.intro 24 (Exists.intro [] (Exists.intro _ (Exists.intro (some (.int r)) (Exists.intro h2 (And.intro rfl (And.intro rfl (And.intro rfl (And.intro (Nat.le_of_ble_eq_true rfl) (And.intro hc e)))))))))))))))))))))
theorem bC_47_58 {d : Nat} {Q : Option Value → ai_H → Prop} {h : ai_H} {x1 x2 x3 x4 x5 x6 x7 y0 : Int32} (kt : ¬ y0 = 60 → RC d 47 Q 164 [some (.ref 24), some (.int x1), some (.int x2), some (.int x3), some (.int x4), some (.int x5), some (.int x6), some (.int x7)] [] h) (kf : y0 = 60 → RC d 47 Q 63 [some (.ref 24), some (.int x1), some (.int x2), some (.int x3), some (.int x4), some (.int x5), some (.int x6), some (.int x7)] [] h) : RC d 47 Q 58 [some (.ref 24), some (.int x1), some (.int x2), some (.int x3), some (.int x4), some (.int x5), some (.int x6), some (.int x7)] [.int y0] h := by
  by_cases c : y0 = 60
  · obtain ⟨n, e⟩ := kf c
    exact Exists.intro (n + 2) (Or.inr (And.intro (fun z => z c) e))
  · obtain ⟨n, e⟩ := kt c
    exact Exists.intro (n + 2) (Or.inl (And.intro c e))
theorem bC_47_63 {d : Nat} {Q : Option Value → ai_H → Prop} {h h2 : ai_H} {x1 x2 x3 x4 x5 x6 x7 r : Int32} (hc : CC d 48 [.ref 24, .int x2] h (some (.int r)) h2) (k : RC d 47 Q 68 [some (.ref 24), some (.int x1), some (.int x2), some (.int x3), some (.int x4), some (.int x5), some (.int x6), some (.int x7)] [.int r] h2) : RC d 47 Q 63 [some (.ref 24), some (.int x1), some (.int x2), some (.int x3), some (.int x4), some (.int x5), some (.int x6), some (.int x7)] [] h := by
  obtain ⟨n, e⟩ := k
  exact Exists.intro (n + 3) (Exists.intro [.int x2] (Exists.intro 24 (Exists.intro [] (Exists.intro _ (Exists.intro (some (.int r)) (Exists.intro h2 (And.intro rfl (And.intro rfl (And.intro rfl (And.intro (Nat.le_of_ble_eq_true rfl) (And.intro hc e)))))))))))
theorem bC_47_68 {d : Nat} {Q : Option Value → ai_H → Prop} {h : ai_H} {x1 x2 x3 x4 x5 x6 x7 y0 : Int32} (kt : ¬ (h 24 6) = (-1) → RC d 47 Q 95 [some (.ref 24), some (.int x1), some (.int x2), some (.int x3), some (.int x4), some (.int y0), some (.int x6), some (.int x7)] [] h) (kf : (h 24 6) = (-1) → RC d 47 Q 78 [some (.ref 24), some (.int x1), some (.int x2), some (.int x3), some (.int x4), some (.int y0), some (.int x6), some (.int x7)] [] h) : RC d 47 Q 68 [some (.ref 24), some (.int x1), some (.int x2), some (.int x3), some (.int x4), some (.int x5), some (.int x6), some (.int x7)] [.int y0] h := by
  by_cases c : (h 24 6) = (-1)
  · obtain ⟨n, e⟩ := kf c
    exact Exists.intro (n + 5) (Exists.intro _ (And.intro rfl (And.intro rfl (Or.inr (And.intro (fun z => z c) e)))))
  · obtain ⟨n, e⟩ := kt c
    exact Exists.intro (n + 5) (Exists.intro _ (And.intro rfl (And.intro rfl (Or.inl (And.intro c e)))))
theorem bC_47_78 {d : Nat} {Q : Option Value → ai_H → Prop} {h h2 : ai_H} {x1 x2 x3 x4 x5 x6 x7 r : Int32} (hc : CC d 42 [.ref 24] h (some (.int r)) h2) (k : RC d 47 Q 82 [some (.ref 24), some (.int x1), some (.int x2), some (.int x3), some (.int x4), some (.int x5), some (.int x6), some (.int x7)] [.int r] h2) : RC d 47 Q 78 [some (.ref 24), some (.int x1), some (.int x2), some (.int x3), some (.int x4), some (.int x5), some (.int x6), some (.int x7)] [] h := by
  obtain ⟨n, e⟩ := k
  exact Exists.intro (n + 2) (Exists.intro [] (Exists.intro 24 (Exists.intro [] (Exists.intro _ (Exists.intro (some (.int r)) (Exists.intro h2 (And.intro rfl (And.intro rfl (And.intro rfl (And.intro (Nat.le_of_ble_eq_true rfl) (And.intro hc e)))))))))))
theorem bC_47_82 {d : Nat} {Q : Option Value → ai_H → Prop} {h : ai_H} {x1 x2 x3 x4 x5 x6 x7 y0 : Int32} (kt : ¬ y0 = 44 → RC d 47 Q 95 [some (.ref 24), some (.int x1), some (.int x2), some (.int x3), some (.int x4), some (.int x5), some (.int x6), some (.int x7)] [] h) (kf : y0 = 44 → RC d 47 Q 87 [some (.ref 24), some (.int x1), some (.int x2), some (.int x3), some (.int x4), some (.int x5), some (.int x6), some (.int x7)] [] h) : RC d 47 Q 82 [some (.ref 24), some (.int x1), some (.int x2), some (.int x3), some (.int x4), some (.int x5), some (.int x6), some (.int x7)] [.int y0] h := by
  by_cases c : y0 = 44
  · obtain ⟨n, e⟩ := kf c
    exact Exists.intro (n + 2) (Or.inr (And.intro (fun z => z c) e))
  · obtain ⟨n, e⟩ := kt c
    exact Exists.intro (n + 2) (Or.inl (And.intro c e))
theorem bC_47_87 {d : Nat} {Q : Option Value → ai_H → Prop} {h h2 : ai_H} {x1 x2 x3 x4 x5 x6 x7 r : Int32} (hc : CC d 48 [.ref 24, .int x2] h (some (.int r)) h2) (k : RC d 47 Q 92 [some (.ref 24), some (.int x1), some (.int x2), some (.int x3), some (.int x4), some (.int x5), some (.int x6), some (.int x7)] [.int r] h2) : RC d 47 Q 87 [some (.ref 24), some (.int x1), some (.int x2), some (.int x3), some (.int x4), some (.int x5), some (.int x6), some (.int x7)] [] h := by
  obtain ⟨n, e⟩ := k
  exact Exists.intro (n + 3) (Exists.intro [.int x2] (Exists.intro 24 (Exists.intro [] (Exists.intro _ (Exists.intro (some (.int r)) (Exists.intro h2 (And.intro rfl (And.intro rfl (And.intro rfl (And.intro (Nat.le_of_ble_eq_true rfl) (And.intro hc e)))))))))))
theorem bC_47_92 {d : Nat} {Q : Option Value → ai_H → Prop} {h : ai_H} {x1 x2 x3 x4 x5 x6 x7 y0 : Int32} (k : RC d 47 Q 96 [some (.ref 24), some (.int x1), some (.int x2), some (.int x3), some (.int x4), some (.int x5), some (.int x6), some (.int x7)] [.int y0] h) : RC d 47 Q 92 [some (.ref 24), some (.int x1), some (.int x2), some (.int x3), some (.int x4), some (.int x5), some (.int x6), some (.int x7)] [.int y0] h := by
  obtain ⟨n, e⟩ := k
  exact Exists.intro (n + 1) (e)
theorem bC_47_95 {d : Nat} {Q : Option Value → ai_H → Prop} {h : ai_H} {x1 x2 x3 x4 x5 x6 x7 : Int32} (k : RC d 47 Q 96 [some (.ref 24), some (.int x1), some (.int x2), some (.int x3), some (.int x4), some (.int x5), some (.int x6), some (.int x7)] [.int (-1)] h) : RC d 47 Q 95 [some (.ref 24), some (.int x1), some (.int x2), some (.int x3), some (.int x4), some (.int x5), some (.int x6), some (.int x7)] [] h := by
  obtain ⟨n, e⟩ := k
  exact Exists.intro (n + 1) (e)
theorem bC_47_96 {d : Nat} {Q : Option Value → ai_H → Prop} {h : ai_H} {x1 x2 x3 x4 x5 x6 x7 y0 : Int32} (kt : ¬ (h 24 6) = (-1) → RC d 47 Q 123 [some (.ref 24), some (.int x1), some (.int x2), some (.int x3), some (.int x4), some (.int x5), some (.int y0), some (.int x7)] [] h) (kf : (h 24 6) = (-1) → RC d 47 Q 106 [some (.ref 24), some (.int x1), some (.int x2), some (.int x3), some (.int x4), some (.int x5), some (.int y0), some (.int x7)] [] h) : RC d 47 Q 96 [some (.ref 24), some (.int x1), some (.int x2), some (.int x3), some (.int x4), some (.int x5), some (.int x6), some (.int x7)] [.int y0] h := by
  by_cases c : (h 24 6) = (-1)
  · obtain ⟨n, e⟩ := kf c
    exact Exists.intro (n + 5) (Exists.intro _ (And.intro rfl (And.intro rfl (Or.inr (And.intro (fun z => z c) e)))))
  · obtain ⟨n, e⟩ := kt c
    exact Exists.intro (n + 5) (Exists.intro _ (And.intro rfl (And.intro rfl (Or.inl (And.intro c e)))))
theorem bC_47_106 {d : Nat} {Q : Option Value → ai_H → Prop} {h h2 : ai_H} {x1 x2 x3 x4 x5 x6 x7 r : Int32} (hc : CC d 42 [.ref 24] h (some (.int r)) h2) (k : RC d 47 Q 110 [some (.ref 24), some (.int x1), some (.int x2), some (.int x3), some (.int x4), some (.int x5), some (.int x6), some (.int x7)] [.int r] h2) : RC d 47 Q 106 [some (.ref 24), some (.int x1), some (.int x2), some (.int x3), some (.int x4), some (.int x5), some (.int x6), some (.int x7)] [] h := by
  obtain ⟨n, e⟩ := k
  exact Exists.intro (n + 2) (Exists.intro [] (Exists.intro 24 (Exists.intro [] (Exists.intro _ (Exists.intro (some (.int r)) (Exists.intro h2 (And.intro rfl (And.intro rfl (And.intro rfl (And.intro (Nat.le_of_ble_eq_true rfl) (And.intro hc e)))))))))))
theorem bC_47_110 {d : Nat} {Q : Option Value → ai_H → Prop} {h : ai_H} {x1 x2 x3 x4 x5 x6 x7 y0 : Int32} (kt : ¬ y0 = 44 → RC d 47 Q 123 [some (.ref 24), some (.int x1), some (.int x2), some (.int x3), some (.int x4), some (.int x5), some (.int x6), some (.int x7)] [] h) (kf : y0 = 44 → RC d 47 Q 115 [some (.ref 24), some (.int x1), some (.int x2), some (.int x3), some (.int x4), some (.int x5), some (.int x6), some (.int x7)] [] h) : RC d 47 Q 110 [some (.ref 24), some (.int x1), some (.int x2), some (.int x3), some (.int x4), some (.int x5), some (.int x6), some (.int x7)] [.int y0] h := by
  by_cases c : y0 = 44
  · obtain ⟨n, e⟩ := kf c
    exact Exists.intro (n + 2) (Or.inr (And.intro (fun z => z c) e))
  · obtain ⟨n, e⟩ := kt c
    exact Exists.intro (n + 2) (Or.inl (And.intro c e))
theorem bC_47_115 {d : Nat} {Q : Option Value → ai_H → Prop} {h h2 : ai_H} {x1 x2 x3 x4 x5 x6 x7 r : Int32} (hc : CC d 48 [.ref 24, .int x2] h (some (.int r)) h2) (k : RC d 47 Q 120 [some (.ref 24), some (.int x1), some (.int x2), some (.int x3), some (.int x4), some (.int x5), some (.int x6), some (.int x7)] [.int r] h2) : RC d 47 Q 115 [some (.ref 24), some (.int x1), some (.int x2), some (.int x3), some (.int x4), some (.int x5), some (.int x6), some (.int x7)] [] h := by
  obtain ⟨n, e⟩ := k
  exact Exists.intro (n + 3) (Exists.intro [.int x2] (Exists.intro 24 (Exists.intro [] (Exists.intro _ (Exists.intro (some (.int r)) (Exists.intro h2 (And.intro rfl (And.intro rfl (And.intro rfl (And.intro (Nat.le_of_ble_eq_true rfl) (And.intro hc e)))))))))))
theorem bC_47_120 {d : Nat} {Q : Option Value → ai_H → Prop} {h : ai_H} {x1 x2 x3 x4 x5 x6 x7 y0 : Int32} (k : RC d 47 Q 124 [some (.ref 24), some (.int x1), some (.int x2), some (.int x3), some (.int x4), some (.int x5), some (.int x6), some (.int x7)] [.int y0] h) : RC d 47 Q 120 [some (.ref 24), some (.int x1), some (.int x2), some (.int x3), some (.int x4), some (.int x5), some (.int x6), some (.int x7)] [.int y0] h := by
  obtain ⟨n, e⟩ := k
  exact Exists.intro (n + 1) (e)
theorem bC_47_123 {d : Nat} {Q : Option Value → ai_H → Prop} {h : ai_H} {x1 x2 x3 x4 x5 x6 x7 : Int32} (k : RC d 47 Q 124 [some (.ref 24), some (.int x1), some (.int x2), some (.int x3), some (.int x4), some (.int x5), some (.int x6), some (.int x7)] [.int (-1)] h) : RC d 47 Q 123 [some (.ref 24), some (.int x1), some (.int x2), some (.int x3), some (.int x4), some (.int x5), some (.int x6), some (.int x7)] [] h := by
  obtain ⟨n, e⟩ := k
  exact Exists.intro (n + 1) (e)
theorem bC_47_124 {d : Nat} {Q : Option Value → ai_H → Prop} {h : ai_H} {x1 x2 x3 x4 x5 x6 x7 y0 : Int32} (kt : (h 24 6) = (-1) → RC d 47 Q 136 [some (.ref 24), some (.int x1), some (.int x2), some (.int x3), some (.int x4), some (.int x5), some (.int x6), some (.int y0)] [] h) (kf : ¬ (h 24 6) = (-1) → RC d 47 Q 134 [some (.ref 24), some (.int x1), some (.int x2), some (.int x3), some (.int x4), some (.int x5), some (.int x6), some (.int y0)] [] h) : RC d 47 Q 124 [some (.ref 24), some (.int x1), some (.int x2), some (.int x3), some (.int x4), some (.int x5), some (.int x6), some (.int x7)] [.int y0] h := by
  by_cases c : (h 24 6) = (-1)
  · obtain ⟨n, e⟩ := kt c
    exact Exists.intro (n + 5) (Exists.intro _ (And.intro rfl (And.intro rfl (Or.inl (And.intro c e)))))
  · obtain ⟨n, e⟩ := kf c
    exact Exists.intro (n + 5) (Exists.intro _ (And.intro rfl (And.intro rfl (Or.inr (And.intro c e)))))
theorem bC_47_134 {d : Nat} {Q : Option Value → ai_H → Prop} {h : ai_H} {x1 x2 x3 x4 x5 x6 x7 : Int32} (k : Q (some (.int (-1))) h) : RC d 47 Q 134 [some (.ref 24), some (.int x1), some (.int x2), some (.int x3), some (.int x4), some (.int x5), some (.int x6), some (.int x7)] [] h := Exists.intro 2 (And.intro (Or.inl rfl) k)
theorem bC_47_136 {d : Nat} {Q : Option Value → ai_H → Prop} {h h2 : ai_H} {x1 x2 x3 x4 x5 x6 x7 r : Int32} (hc : CC d 42 [.ref 24] h (some (.int r)) h2) (k : RC d 47 Q 140 [some (.ref 24), some (.int x1), some (.int x2), some (.int x3), some (.int x4), some (.int x5), some (.int x6), some (.int x7)] [.int r] h2) : RC d 47 Q 136 [some (.ref 24), some (.int x1), some (.int x2), some (.int x3), some (.int x4), some (.int x5), some (.int x6), some (.int x7)] [] h := by
  obtain ⟨n, e⟩ := k
  exact Exists.intro (n + 2) (Exists.intro [] (Exists.intro 24 (Exists.intro [] (Exists.intro _ (Exists.intro (some (.int r)) (Exists.intro h2 (And.intro rfl (And.intro rfl (And.intro rfl (And.intro (Nat.le_of_ble_eq_true rfl) (And.intro hc e)))))))))))
theorem bC_47_140 {d : Nat} {Q : Option Value → ai_H → Prop} {h : ai_H} {x1 x2 x3 x4 x5 x6 x7 y0 : Int32} (kt : y0 = 62 → RC d 47 Q 154 [some (.ref 24), some (.int x1), some (.int x2), some (.int x3), some (.int x4), some (.int x5), some (.int x6), some (.int x7)] [] h) (kf : ¬ y0 = 62 → RC d 47 Q 145 [some (.ref 24), some (.int x1), some (.int x2), some (.int x3), some (.int x4), some (.int x5), some (.int x6), some (.int x7)] [] h) : RC d 47 Q 140 [some (.ref 24), some (.int x1), some (.int x2), some (.int x3), some (.int x4), some (.int x5), some (.int x6), some (.int x7)] [.int y0] h := by
  by_cases c : y0 = 62
  · obtain ⟨n, e⟩ := kt c
    exact Exists.intro (n + 2) (Or.inl (And.intro c e))
  · obtain ⟨n, e⟩ := kf c
    exact Exists.intro (n + 2) (Or.inr (And.intro c e))
theorem bC_47_145 {d : Nat} {Q : Option Value → ai_H → Prop} {h h2 : ai_H} {x1 x2 x3 x4 x5 x6 x7 r : Int32} (hc : CC d 43 [.ref 24, .int (h 24 5)] h (some (.int r)) h2) (k : RC d 47 Q 153 [some (.ref 24), some (.int x1), some (.int x2), some (.int x3), some (.int x4), some (.int x5), some (.int x6), some (.int x7)] [.int r] h2) : RC d 47 Q 145 [some (.ref 24), some (.int x1), some (.int x2), some (.int x3), some (.int x4), some (.int x5), some (.int x6), some (.int x7)] [] h := by
  obtain ⟨n, e⟩ := k
  exact Exists.intro (n + 4) (And.intro rfl (Exists.intro [.int (h 24 5)] (Exists.intro 24 (Exists.intro [] (Exists.intro _ (Exists.intro (some (.int r)) (Exists.intro h2 (And.intro rfl (And.intro rfl (And.intro rfl (And.intro (Nat.le_of_ble_eq_true rfl) (And.intro hc e))))))))))))
theorem bC_47_153 {d : Nat} {Q : Option Value → ai_H → Prop} {h : ai_H} {x1 x2 x3 x4 x5 x6 x7 y0 : Int32} (k : Q (some (.int y0)) h) : RC d 47 Q 153 [some (.ref 24), some (.int x1), some (.int x2), some (.int x3), some (.int x4), some (.int x5), some (.int x6), some (.int x7)] [.int y0] h := Exists.intro 1 (And.intro (Or.inl rfl) k)
theorem bC_47_154 {d : Nat} {Q : Option Value → ai_H → Prop} {h : ai_H} {x1 x2 x3 x4 x5 x6 x7 : Int32} (k : RC d 47 Q 164 [some (.ref 24), some (.int x1), some (.int x2), some (.int x3), some (.int x4), some (.int x5), some (.int x6), some (.int x7)] [] (ai_up h 24 5 ((h 24 5) + 1))) : RC d 47 Q 154 [some (.ref 24), some (.int x1), some (.int x2), some (.int x3), some (.int x4), some (.int x5), some (.int x6), some (.int x7)] [] h := by
  obtain ⟨n, e⟩ := k
  exact Exists.intro (n + 6) (And.intro rfl (And.intro rfl (And.intro (Exists.intro _ (And.intro rfl rfl)) (And.intro (Or.inl rfl) (e)))))
theorem bC_47_164 {d : Nat} {Q : Option Value → ai_H → Prop} {h h2 : ai_H} {x1 x2 x3 x4 x5 x6 x7 r : Int32} (hc : CC d 53 [.ref 23, .int x4, .int x1, .int x5, .int x6, .int x7] h (some (.int r)) h2) (k : RC d 47 Q 180 [some (.ref 24), some (.int x1), some (.int x2), some (.int x3), some (.int x4), some (.int x5), some (.int x6), some (.int x7)] [.int r] h2) : RC d 47 Q 164 [some (.ref 24), some (.int x1), some (.int x2), some (.int x3), some (.int x4), some (.int x5), some (.int x6), some (.int x7)] [] h := by
  obtain ⟨n, e⟩ := k
  exact Exists.intro (n + 8) (And.intro rfl (Exists.intro [.int x4, .int x1, .int x5, .int x6, .int x7] (Exists.intro 23 (Exists.intro [] (Exists.intro _ (Exists.intro (some (.int r)) (Exists.intro h2 (And.intro rfl (And.intro rfl (And.intro rfl (And.intro (Nat.le_of_ble_eq_true rfl) (And.intro hc e))))))))))))
theorem bC_47_180 {d : Nat} {Q : Option Value → ai_H → Prop} {h : ai_H} {x1 x2 x3 x4 x5 x6 x7 y0 : Int32} (kt : y0 = 0 → RC d 47 Q 189 [some (.ref 24), some (.int x1), some (.int x2), some (.int x3), some (.int x4), some (.int x5), some (.int x6), some (.int x7)] [] h) (kf : ¬ y0 = 0 → RC d 47 Q 183 [some (.ref 24), some (.int x1), some (.int x2), some (.int x3), some (.int x4), some (.int x5), some (.int x6), some (.int x7)] [] h) : RC d 47 Q 180 [some (.ref 24), some (.int x1), some (.int x2), some (.int x3), some (.int x4), some (.int x5), some (.int x6), some (.int x7)] [.int y0] h := by
  by_cases c : y0 = 0
  · obtain ⟨n, e⟩ := kt c
    exact Exists.intro (n + 1) (Or.inl (And.intro c e))
  · obtain ⟨n, e⟩ := kf c
    exact Exists.intro (n + 1) (Or.inr (And.intro c e))
theorem bC_47_183 {d : Nat} {Q : Option Value → ai_H → Prop} {h h2 : ai_H} {x1 x2 x3 x4 x5 x6 x7 r : Int32} (hc : CC d 43 [.ref 24, .int x3] h (some (.int r)) h2) (k : RC d 47 Q 188 [some (.ref 24), some (.int x1), some (.int x2), some (.int x3), some (.int x4), some (.int x5), some (.int x6), some (.int x7)] [.int r] h2) : RC d 47 Q 183 [some (.ref 24), some (.int x1), some (.int x2), some (.int x3), some (.int x4), some (.int x5), some (.int x6), some (.int x7)] [] h := by
  obtain ⟨n, e⟩ := k
  exact Exists.intro (n + 3) (Exists.intro [.int x3] (Exists.intro 24 (Exists.intro [] (Exists.intro _ (Exists.intro (some (.int r)) (Exists.intro h2 (And.intro rfl (And.intro rfl (And.intro rfl (And.intro (Nat.le_of_ble_eq_true rfl) (And.intro hc e)))))))))))
theorem bC_47_188 {d : Nat} {Q : Option Value → ai_H → Prop} {h : ai_H} {x1 x2 x3 x4 x5 x6 x7 y0 : Int32} (k : Q (some (.int y0)) h) : RC d 47 Q 188 [some (.ref 24), some (.int x1), some (.int x2), some (.int x3), some (.int x4), some (.int x5), some (.int x6), some (.int x7)] [.int y0] h := Exists.intro 1 (And.intro (Or.inl rfl) k)
theorem bC_47_189 {d : Nat} {Q : Option Value → ai_H → Prop} {h h2 : ai_H} {x1 x2 x3 x4 x5 x6 x7 r : Int32} (hc : CC d 74 [.ref 12, .int 5, .int x4, .int x1, .int x5, .int x6, .int x7] h (some (.int r)) h2) (k : RC d 47 Q 206 [some (.ref 24), some (.int x1), some (.int x2), some (.int x3), some (.int x4), some (.int x5), some (.int x6), some (.int x7)] [.int r] h2) : RC d 47 Q 189 [some (.ref 24), some (.int x1), some (.int x2), some (.int x3), some (.int x4), some (.int x5), some (.int x6), some (.int x7)] [] h := by
  obtain ⟨n, e⟩ := k
  exact Exists.intro (n + 9) (And.intro rfl (Exists.intro [.int 5, .int x4, .int x1, .int x5, .int x6, .int x7] (Exists.intro 12 (Exists.intro [] (Exists.intro _ (Exists.intro (some (.int r)) (Exists.intro h2 (And.intro rfl (And.intro rfl (And.intro rfl (And.intro (Nat.le_of_ble_eq_true rfl) (And.intro hc e))))))))))))
theorem bC_47_206 {d : Nat} {Q : Option Value → ai_H → Prop} {h : ai_H} {x1 x2 x3 x4 x5 x6 x7 y0 : Int32} (k : Q (some (.int y0)) h) : RC d 47 Q 206 [some (.ref 24), some (.int x1), some (.int x2), some (.int x3), some (.int x4), some (.int x5), some (.int x6), some (.int x7)] [.int y0] h := Exists.intro 1 (And.intro (Or.inl rfl) k)
theorem bC_48_0 {d : Nat} {Q : Option Value → ai_H → Prop} {h h2 : ai_H} {x1 r : Int32} (hc : CC d 42 [.ref 24] (ai_up h 24 5 ((h 24 5) + 1)) (some (.int r)) h2) (k : RC d 48 Q 14 [some (.ref 24), some (.int x1), none, none, none, none] [.int r] h2) : RC d 48 Q 0 [some (.ref 24), some (.int x1), none, none, none, none] [] h := by
  obtain ⟨n, e⟩ := k
  exact Exists.intro (n + 8) (And.intro rfl (And.intro rfl (And.intro (Exists.intro _ (And.intro rfl rfl)) (And.intro (Or.inl rfl) (Exists.intro [] (Exists.intro 24 (Exists.intro [] (Exists.intro _ (Exists.intro (some (.int r)) (Exists.intro h2 (And.intro rfl (And.intro rfl (And.intro rfl (And.intro (Nat.le_of_ble_eq_true rfl) (And.intro hc e)))))))))))))))
theorem bC_48_14 {d : Nat} {Q : Option Value → ai_H → Prop} {h : ai_H} {x1 y0 : Int32} (kt : ¬ y0 = 63 → RC d 48 Q 33 [some (.ref 24), some (.int x1), some (.int y0), none, none, none] [] h) (kf : y0 = 63 → RC d 48 Q 21 [some (.ref 24), some (.int x1), some (.int y0), none, none, none] [] h) : RC d 48 Q 14 [some (.ref 24), some (.int x1), none, none, none, none] [.int y0] h := by
  by_cases c : y0 = 63
  · obtain ⟨n, e⟩ := kf c
    exact Exists.intro (n + 4) (Exists.intro _ (And.intro rfl (Or.inr (And.intro (fun z => z c) e))))
  · obtain ⟨n, e⟩ := kt c
    exact Exists.intro (n + 4) (Exists.intro _ (And.intro rfl (Or.inl (And.intro c e))))
theorem bC_48_21 {d : Nat} {Q : Option Value → ai_H → Prop} {h : ai_H} {x1 x2 : Int32} (k : Q (some (.int 3)) (ai_up h 24 5 ((h 24 5) + 1))) : RC d 48 Q 21 [some (.ref 24), some (.int x1), some (.int x2), none, none, none] [] h := Exists.intro 8 (And.intro rfl (And.intro rfl (And.intro (Exists.intro _ (And.intro rfl rfl)) (And.intro (Or.inl rfl) (And.intro (Or.inl rfl) k)))))
theorem bC_48_33 {d : Nat} {Q : Option Value → ai_H → Prop} {h : ai_H} {x1 x2 : Int32} (kt : ¬ x2 = 43 → RC d 48 Q 43 [some (.ref 24), some (.int x1), some (.int x2), none, none, none] [] h) (kf : x2 = 43 → RC d 48 Q 39 [some (.ref 24), some (.int x1), some (.int x2), none, none, none] [] h) : RC d 48 Q 33 [some (.ref 24), some (.int x1), some (.int x2), none, none, none] [] h := by
  by_cases c : x2 = 43
  · obtain ⟨n, e⟩ := kf c
    exact Exists.intro (n + 3) (Or.inr (And.intro (fun z => z c) e))
  · obtain ⟨n, e⟩ := kt c
    exact Exists.intro (n + 3) (Or.inl (And.intro c e))
theorem bC_48_39 {d : Nat} {Q : Option Value → ai_H → Prop} {h : ai_H} {x1 x2 : Int32} (k : RC d 48 Q 54 [some (.ref 24), some (.int x1), some (.int x2), none, none, none] [.int 1] h) : RC d 48 Q 39 [some (.ref 24), some (.int x1), some (.int x2), none, none, none] [] h := by
  obtain ⟨n, e⟩ := k
  exact Exists.intro (n + 2) (e)
theorem bC_48_43 {d : Nat} {Q : Option Value → ai_H → Prop} {h : ai_H} {x1 x2 : Int32} (kt : ¬ x2 = 45 → RC d 48 Q 53 [some (.ref 24), some (.int x1), some (.int x2), none, none, none] [] h) (kf : x2 = 45 → RC d 48 Q 49 [some (.ref 24), some (.int x1), some (.int x2), none, none, none] [] h) : RC d 48 Q 43 [some (.ref 24), some (.int x1), some (.int x2), none, none, none] [] h := by
  by_cases c : x2 = 45
  · obtain ⟨n, e⟩ := kf c
    exact Exists.intro (n + 3) (Or.inr (And.intro (fun z => z c) e))
  · obtain ⟨n, e⟩ := kt c
    exact Exists.intro (n + 3) (Or.inl (And.intro c e))
theorem bC_48_49 {d : Nat} {Q : Option Value → ai_H → Prop} {h : ai_H} {x1 x2 : Int32} (k : RC d 48 Q 54 [some (.ref 24), some (.int x1), some (.int x2), none, none, none] [.int 2] h) : RC d 48 Q 49 [some (.ref 24), some (.int x1), some (.int x2), none, none, none] [] h := by
  obtain ⟨n, e⟩ := k
  exact Exists.intro (n + 2) (e)
theorem bC_48_53 {d : Nat} {Q : Option Value → ai_H → Prop} {h : ai_H} {x1 x2 : Int32} (k : RC d 48 Q 54 [some (.ref 24), some (.int x1), some (.int x2), none, none, none] [.int 0] h) : RC d 48 Q 53 [some (.ref 24), some (.int x1), some (.int x2), none, none, none] [] h := by
  obtain ⟨n, e⟩ := k
  exact Exists.intro (n + 1) (e)
theorem bC_48_54 {d : Nat} {Q : Option Value → ai_H → Prop} {h : ai_H} {x1 x2 y0 : Int32} (kt : y0 = 0 → RC d 48 Q 69 [some (.ref 24), some (.int x1), some (.int x2), some (.int y0), none, none] [] h) (kf : ¬ y0 = 0 → RC d 48 Q 59 [some (.ref 24), some (.int x1), some (.int x2), some (.int y0), none, none] [] h) : RC d 48 Q 54 [some (.ref 24), some (.int x1), some (.int x2), none, none, none] [.int y0] h := by
  by_cases c : y0 = 0
  · obtain ⟨n, e⟩ := kt c
    exact Exists.intro (n + 3) (Exists.intro _ (And.intro rfl (Or.inl (And.intro c e))))
  · obtain ⟨n, e⟩ := kf c
    exact Exists.intro (n + 3) (Exists.intro _ (And.intro rfl (Or.inr (And.intro c e))))
theorem bC_48_59 {d : Nat} {Q : Option Value → ai_H → Prop} {h : ai_H} {x1 x2 x3 : Int32} (k : RC d 48 Q 69 [some (.ref 24), some (.int x1), some (.int x2), some (.int x3), none, none] [] (ai_up h 24 5 ((h 24 5) + 1))) : RC d 48 Q 59 [some (.ref 24), some (.int x1), some (.int x2), some (.int x3), none, none] [] h := by
  obtain ⟨n, e⟩ := k
  exact Exists.intro (n + 6) (And.intro rfl (And.intro rfl (And.intro (Exists.intro _ (And.intro rfl rfl)) (And.intro (Or.inl rfl) (e)))))
theorem bC_48_69 {d : Nat} {Q : Option Value → ai_H → Prop} {h h2 : ai_H} {x1 x2 x3 r : Int32} (hc : CC d 44 [.ref 24, .int (x1 + 1)] h (some (.int r)) h2) (k : RC d 48 Q 82 [some (.ref 24), some (.int x1), some (.int x2), some (.int x3), some (.int (h 24 5)), none] [.int r] h2) : RC d 48 Q 69 [some (.ref 24), some (.int x1), some (.int x2), some (.int x3), none, none] [] h := by
  obtain ⟨n, e⟩ := k
  exact Exists.intro (n + 8) (And.intro rfl (Exists.intro _ (And.intro rfl (Exists.intro [.int (x1 + 1)] (Exists.intro 24 (Exists.intro [] (Exists.intro _ (Exists.intro (some (.int r)) (Exists.intro h2 (And.intro rfl (And.intro rfl (And.intro rfl (And.intro (Nat.le_of_ble_eq_true rfl) (And.intro hc e))))))))))))))
theorem bC_48_82 {d : Nat} {Q : Option Value → ai_H → Prop} {h : ai_H} {x1 x2 x3 x4 y0 : Int32} (kt : (h 24 6) = (-1) → RC d 48 Q 94 [some (.ref 24), some (.int x1), some (.int x2), some (.int x3), some (.int x4), some (.int y0)] [] h) (kf : ¬ (h 24 6) = (-1) → RC d 48 Q 92 [some (.ref 24), some (.int x1), some (.int x2), some (.int x3), some (.int x4), some (.int y0)] [] h) : RC d 48 Q 82 [some (.ref 24), some (.int x1), some (.int x2), some (.int x3), some (.int x4), none] [.int y0] h := by
  by_cases c : (h 24 6) = (-1)
  · obtain ⟨n, e⟩ := kt c
    exact Exists.intro (n + 5) (Exists.intro _ (And.intro rfl (And.intro rfl (Or.inl (And.intro c e)))))
  · obtain ⟨n, e⟩ := kf c
    exact Exists.intro (n + 5) (Exists.intro _ (And.intro rfl (And.intro rfl (Or.inr (And.intro c e)))))
theorem bC_48_92 {d : Nat} {Q : Option Value → ai_H → Prop} {h : ai_H} {x1 x2 x3 x4 x5 : Int32} (k : Q (some (.int (-1))) h) : RC d 48 Q 92 [some (.ref 24), some (.int x1), some (.int x2), some (.int x3), some (.int x4), some (.int x5)] [] h := Exists.intro 2 (And.intro (Or.inl rfl) k)
theorem bC_48_94 {d : Nat} {Q : Option Value → ai_H → Prop} {h h2 : ai_H} {x1 x2 x3 x4 x5 r : Int32} (hc : CC d 69 [.ref 12, .int x5] h (some (.int r)) h2) (k : RC d 48 Q 103 [some (.ref 24), some (.int x1), some (.int x2), some (.int x3), some (.int x4), some (.int x5)] [.int r] h2) : RC d 48 Q 94 [some (.ref 24), some (.int x1), some (.int x2), some (.int x3), some (.int x4), some (.int x5)] [] h := by
  obtain ⟨n, e⟩ := k
  exact Exists.intro (n + 4) (And.intro rfl (Exists.intro [.int x5] (Exists.intro 12 (Exists.intro [] (Exists.intro _ (Exists.intro (some (.int r)) (Exists.intro h2 (And.intro rfl (And.intro rfl (And.intro rfl (And.intro (Nat.le_of_ble_eq_true rfl) (And.intro hc e))))))))))))
theorem bC_48_103 {d : Nat} {Q : Option Value → ai_H → Prop} {h : ai_H} {x1 x2 x3 x4 x5 y0 : Int32} (kt : y0 = 0 → RC d 48 Q 115 [some (.ref 24), some (.int x1), some (.int x2), some (.int x3), some (.int x4), some (.int x5)] [] h) (kf : ¬ y0 = 0 → RC d 48 Q 106 [some (.ref 24), some (.int x1), some (.int x2), some (.int x3), some (.int x4), some (.int x5)] [] h) : RC d 48 Q 103 [some (.ref 24), some (.int x1), some (.int x2), some (.int x3), some (.int x4), some (.int x5)] [.int y0] h := by
  by_cases c : y0 = 0
  · obtain ⟨n, e⟩ := kt c
    exact Exists.intro (n + 1) (Or.inl (And.intro c e))
  · obtain ⟨n, e⟩ := kf c
    exact Exists.intro (n + 1) (Or.inr (And.intro c e))
theorem bC_48_106 {d : Nat} {Q : Option Value → ai_H → Prop} {h h2 : ai_H} {x1 x2 x3 x4 x5 r : Int32} (hc : CC d 96 [.int x3, .int x5] h (some (.int r)) h2) (k : RC d 48 Q 112 [some (.ref 24), some (.int x1), some (.int x2), some (.int x3), some (.int x4), some (.int x5)] [.int r] h2) : RC d 48 Q 106 [some (.ref 24), some (.int x1), some (.int x2), some (.int x3), some (.int x4), some (.int x5)] [] h := by
  obtain ⟨n, e⟩ := k
  exact Exists.intro (n + 3) (Exists.intro [.int x3, .int x5] (Exists.intro [] (Exists.intro (some (.int r)) (Exists.intro h2 (And.intro rfl (And.intro rfl (And.intro (Nat.le_of_ble_eq_true rfl) (And.intro hc e))))))))
theorem bC_48_112 {d : Nat} {Q : Option Value → ai_H → Prop} {h : ai_H} {x1 x2 x3 x4 x5 y0 : Int32} (k : RC d 48 Q 121 [some (.ref 24), some (.int x1), some (.int x2), some (.int x3), some (.int x4), some (.int x5)] [.int y0] h) : RC d 48 Q 112 [some (.ref 24), some (.int x1), some (.int x2), some (.int x3), some (.int x4), some (.int x5)] [.int y0] h := by
  obtain ⟨n, e⟩ := k
  exact Exists.intro (n + 1) (e)
theorem bC_48_115 {d : Nat} {Q : Option Value → ai_H → Prop} {h h2 : ai_H} {x1 x2 x3 x4 x5 r : Int32} (hc : CC d 43 [.ref 24, .int x4] h (some (.int r)) h2) (k : RC d 48 Q 121 [some (.ref 24), some (.int x1), some (.int x2), some (.int x3), some (.int x4), some (.int x5)] [.int r] h2) : RC d 48 Q 115 [some (.ref 24), some (.int x1), some (.int x2), some (.int x3), some (.int x4), some (.int x5)] [] h := by
  obtain ⟨n, e⟩ := k
  exact Exists.intro (n + 3) (Exists.intro [.int x4] (Exists.intro 24 (Exists.intro [] (Exists.intro _ (Exists.intro (some (.int r)) (Exists.intro h2 (And.intro rfl (And.intro rfl (And.intro rfl (And.intro (Nat.le_of_ble_eq_true rfl) (And.intro hc e)))))))))))
theorem bC_48_121 {d : Nat} {Q : Option Value → ai_H → Prop} {h : ai_H} {x1 x2 x3 x4 x5 y0 : Int32} (k : Q (some (.int y0)) h) : RC d 48 Q 121 [some (.ref 24), some (.int x1), some (.int x2), some (.int x3), some (.int x4), some (.int x5)] [.int y0] h := Exists.intro 1 (And.intro (Or.inl rfl) k)
theorem bC_49_0 {d : Nat} {Q : Option Value → ai_H → Prop} {h h2 : ai_H} {x1 x2 x3 r : Int32} (hc : CC d 60 [.ref 12, .int x3] h (some (.int r)) h2) (k : RC d 49 Q 8 [some (.ref 23), some (.int x1), some (.int x2), some (.int x3), none, none] [.int r] h2) : RC d 49 Q 0 [some (.ref 23), some (.int x1), some (.int x2), some (.int x3), none, none] [] h := by
  obtain ⟨n, e⟩ := k
  exact Exists.intro (n + 4) (And.intro rfl (Exists.intro [.int x3] (Exists.intro 12 (Exists.intro [] (Exists.intro _ (Exists.intro (some (.int r)) (Exists.intro h2 (And.intro rfl (And.intro rfl (And.intro rfl (And.intro (Nat.le_of_ble_eq_true rfl) (And.intro hc e))))))))))))
theorem bC_49_8 {d : Nat} {Q : Option Value → ai_H → Prop} {h : ai_H} {x1 x2 x3 y0 : Int32} (kt : ¬ y0 = 3 → RC d 49 Q 16 [some (.ref 23), some (.int x1), some (.int x2), some (.int x3), none, none] [] h) (kf : y0 = 3 → RC d 49 Q 12 [some (.ref 23), some (.int x1), some (.int x2), some (.int x3), none, none] [] h) : RC d 49 Q 8 [some (.ref 23), some (.int x1), some (.int x2), some (.int x3), none, none] [.int y0] h := by
  by_cases c : y0 = 3
  · obtain ⟨n, e⟩ := kf c
    exact Exists.intro (n + 2) (Or.inr (And.intro (fun z => z c) e))
  · obtain ⟨n, e⟩ := kt c
    exact Exists.intro (n + 2) (Or.inl (And.intro c e))
theorem bC_49_12 {d : Nat} {Q : Option Value → ai_H → Prop} {h : ai_H} {x1 x2 x3 : Int32} (k : RC d 49 Q 17 [some (.ref 23), some (.int x1), some (.int x2), some (.int x3), none, none] [.int 1] h) : RC d 49 Q 12 [some (.ref 23), some (.int x1), some (.int x2), some (.int x3), none, none] [] h := by
  obtain ⟨n, e⟩ := k
  exact Exists.intro (n + 2) (e)
theorem bC_49_16 {d : Nat} {Q : Option Value → ai_H → Prop} {h : ai_H} {x1 x2 x3 : Int32} (k : RC d 49 Q 17 [some (.ref 23), some (.int x1), some (.int x2), some (.int x3), none, none] [.int 0] h) : RC d 49 Q 16 [some (.ref 23), some (.int x1), some (.int x2), some (.int x3), none, none] [] h := by
  obtain ⟨n, e⟩ := k
  exact Exists.intro (n + 1) (e)
theorem bC_49_17 {d : Nat} {Q : Option Value → ai_H → Prop} {h : ai_H} {x1 x2 x3 y0 : Int32} (kt : y0 = 0 → RC d 49 Q 39 [some (.ref 23), some (.int x1), some (.int x2), some (.int x3), some (.int y0), none] [] h) (kf : ¬ y0 = 0 → RC d 49 Q 24 [some (.ref 23), some (.int x1), some (.int x2), some (.int x3), some (.int y0), none] [] h) : RC d 49 Q 17 [some (.ref 23), some (.int x1), some (.int x2), some (.int x3), none, none] [.int y0] h := by
  by_cases c : y0 = 0
  · obtain ⟨n, e⟩ := kt c
    exact Exists.intro (n + 3) (Exists.intro _ (And.intro rfl (Or.inl (And.intro c e))))
  · obtain ⟨n, e⟩ := kf c
    exact Exists.intro (n + 3) (Exists.intro _ (And.intro rfl (Or.inr (And.intro c e))))
theorem bC_49_24 {d : Nat} {Q : Option Value → ai_H → Prop} {h h2 : ai_H} {x1 x2 x3 x4 r : Int32} (hc : CC d 61 [.ref 12, .int x3] h (some (.int r)) h2) (k : RC d 49 Q 32 [some (.ref 23), some (.int x1), some (.int x2), some (.int x3), some (.int x4), none] [.int r] h2) : RC d 49 Q 24 [some (.ref 23), some (.int x1), some (.int x2), some (.int x3), some (.int x4), none] [] h := by
  obtain ⟨n, e⟩ := k
  exact Exists.intro (n + 4) (And.intro rfl (Exists.intro [.int x3] (Exists.intro 12 (Exists.intro [] (Exists.intro _ (Exists.intro (some (.int r)) (Exists.intro h2 (And.intro rfl (And.intro rfl (And.intro rfl (And.intro (Nat.le_of_ble_eq_true rfl) (And.intro hc e))))))))))))
theorem bC_49_32 {d : Nat} {Q : Option Value → ai_H → Prop} {h : ai_H} {x1 x2 x3 x4 y0 : Int32} (kt : y0 = x1 → RC d 49 Q 50 [some (.ref 23), some (.int x1), some (.int x2), some (.int x3), some (.int x4), none] [] h) (kf : ¬ y0 = x1 → RC d 49 Q 36 [some (.ref 23), some (.int x1), some (.int x2), some (.int x3), some (.int x4), none] [] h) : RC d 49 Q 32 [some (.ref 23), some (.int x1), some (.int x2), some (.int x3), some (.int x4), none] [.int y0] h := by
  by_cases c : y0 = x1
  · obtain ⟨n, e⟩ := kt c
    exact Exists.intro (n + 2) (Or.inl (And.intro c e))
  · obtain ⟨n, e⟩ := kf c
    exact Exists.intro (n + 2) (Or.inr (And.intro c e))
theorem bC_49_36 {d : Nat} {Q : Option Value → ai_H → Prop} {h : ai_H} {x1 x2 x3 x4 : Int32} (k : RC d 49 Q 48 [some (.ref 23), some (.int x1), some (.int x2), some (.int x3), some (.int x4), none] [] h) : RC d 49 Q 36 [some (.ref 23), some (.int x1), some (.int x2), some (.int x3), some (.int x4), none] [] h := by
  obtain ⟨n, e⟩ := k
  exact Exists.intro (n + 1) (e)
theorem bC_49_39 {d : Nat} {Q : Option Value → ai_H → Prop} {h h2 : ai_H} {x1 x2 x3 x4 r : Int32} (hc : CC d 51 [.ref 23, .int x1, .int x3] h (some (.int r)) h2) (k : RC d 49 Q 45 [some (.ref 23), some (.int x1), some (.int x2), some (.int x3), some (.int x4), none] [.int r] h2) : RC d 49 Q 39 [some (.ref 23), some (.int x1), some (.int x2), some (.int x3), some (.int x4), none] [] h := by
  obtain ⟨n, e⟩ := k
  exact Exists.intro (n + 4) (Exists.intro [.int x1, .int x3] (Exists.intro 23 (Exists.intro [] (Exists.intro _ (Exists.intro (some (.int r)) (Exists.intro h2 (And.intro rfl (And.intro rfl (And.intro rfl (And.intro (Nat.le_of_ble_eq_true rfl) (And.intro hc e)))))))))))
theorem bC_49_45 {d : Nat} {Q : Option Value → ai_H → Prop} {h : ai_H} {x1 x2 x3 x4 y0 : Int32} (kt : ¬ y0 = 0 → RC d 49 Q 50 [some (.ref 23), some (.int x1), some (.int x2), some (.int x3), some (.int x4), none] [] h) (kf : y0 = 0 → RC d 49 Q 48 [some (.ref 23), some (.int x1), some (.int x2), some (.int x3), some (.int x4), none] [] h) : RC d 49 Q 45 [some (.ref 23), some (.int x1), some (.int x2), some (.int x3), some (.int x4), none] [.int y0] h := by
  by_cases c : y0 = 0
  · obtain ⟨n, e⟩ := kf c
    exact Exists.intro (n + 1) (Or.inr (And.intro (fun z => z c) e))
  · obtain ⟨n, e⟩ := kt c
    exact Exists.intro (n + 1) (Or.inl (And.intro c e))
theorem bC_49_48 {d : Nat} {Q : Option Value → ai_H → Prop} {h : ai_H} {x1 x2 x3 x4 : Int32} (k : Q (some (.int 2)) h) : RC d 49 Q 48 [some (.ref 23), some (.int x1), some (.int x2), some (.int x3), some (.int x4), none] [] h := Exists.intro 2 (And.intro (Or.inl rfl) k)
theorem bC_49_50 {d : Nat} {Q : Option Value → ai_H → Prop} {h h2 : ai_H} {x1 x2 x3 x4 r : Int32} (hc : CC d 11 [.ref 0, .int x1, .int x2, .int 0] h (some (.int r)) h2) (k : RC d 49 Q 60 [some (.ref 23), some (.int x1), some (.int x2), some (.int x3), some (.int x4), none] [.int r] h2) : RC d 49 Q 50 [some (.ref 23), some (.int x1), some (.int x2), some (.int x3), some (.int x4), none] [] h := by
  obtain ⟨n, e⟩ := k
  exact Exists.intro (n + 6) (And.intro rfl (Exists.intro [.int x1, .int x2, .int 0] (Exists.intro 0 (Exists.intro [] (Exists.intro _ (Exists.intro (some (.int r)) (Exists.intro h2 (And.intro rfl (And.intro rfl (And.intro rfl (And.intro (Nat.le_of_ble_eq_true rfl) (And.intro hc e))))))))))))
theorem bC_49_60 {d : Nat} {Q : Option Value → ai_H → Prop} {h : ai_H} {x1 x2 x3 x4 y0 : Int32} (kt : y0 = (-1) → RC d 49 Q 88 [some (.ref 23), some (.int x1), some (.int x2), some (.int x3), some (.int x4), some (.int y0)] [] h) (kf : ¬ y0 = (-1) → RC d 49 Q 68 [some (.ref 23), some (.int x1), some (.int x2), some (.int x3), some (.int x4), some (.int y0)] [] h) : RC d 49 Q 60 [some (.ref 23), some (.int x1), some (.int x2), some (.int x3), some (.int x4), none] [.int y0] h := by
  by_cases c : y0 = (-1)
  · obtain ⟨n, e⟩ := kt c
    exact Exists.intro (n + 4) (Exists.intro _ (And.intro rfl (Or.inl (And.intro c e))))
  · obtain ⟨n, e⟩ := kf c
    exact Exists.intro (n + 4) (Exists.intro _ (And.intro rfl (Or.inr (And.intro c e))))
theorem bC_49_68 {d : Nat} {Q : Option Value → ai_H → Prop} {h : ai_H} {x1 x2 x3 x4 x5 : Int32} (kt : ¬ x4 = 0 → RC d 49 Q 86 [some (.ref 23), some (.int x1), some (.int x2), some (.int x3), some (.int x4), some (.int x5)] [] h) (kf : x4 = 0 → RC d 49 Q 73 [some (.ref 23), some (.int x1), some (.int x2), some (.int x3), some (.int x4), some (.int x5)] [] h) : RC d 49 Q 68 [some (.ref 23), some (.int x1), some (.int x2), some (.int x3), some (.int x4), some (.int x5)] [] h := by
  by_cases c : x4 = 0
  · obtain ⟨n, e⟩ := kf c
    exact Exists.intro (n + 2) (Or.inr (And.intro (fun z => z c) e))
  · obtain ⟨n, e⟩ := kt c
    exact Exists.intro (n + 2) (Or.inl (And.intro c e))
theorem bC_49_73 {d : Nat} {Q : Option Value → ai_H → Prop} {h h2 : ai_H} {x1 x2 x3 x4 x5 r : Int32} (hc : CC d 60 [.ref 12, .int x5] h (some (.int r)) h2) (k : RC d 49 Q 82 [some (.ref 23), some (.int x1), some (.int x2), some (.int x3), some (.int x4), some (.int x5)] [.int r] h2) : RC d 49 Q 73 [some (.ref 23), some (.int x1), some (.int x2), some (.int x3), some (.int x4), some (.int x5)] [] h := by
  obtain ⟨n, e⟩ := k
  exact Exists.intro (n + 4) (And.intro rfl (Exists.intro [.int x5] (Exists.intro 12 (Exists.intro [] (Exists.intro _ (Exists.intro (some (.int r)) (Exists.intro h2 (And.intro rfl (And.intro rfl (And.intro rfl (And.intro (Nat.le_of_ble_eq_true rfl) (And.intro hc e))))))))))))
theorem bC_49_82 {d : Nat} {Q : Option Value → ai_H → Prop} {h : ai_H} {x1 x2 x3 x4 x5 y0 : Int32} (kt : ¬ y0 = 3 → RC d 49 Q 88 [some (.ref 23), some (.int x1), some (.int x2), some (.int x3), some (.int x4), some (.int x5)] [] h) (kf : y0 = 3 → RC d 49 Q 86 [some (.ref 23), some (.int x1), some (.int x2), some (.int x3), some (.int x4), some (.int x5)] [] h) : RC d 49 Q 82 [some (.ref 23), some (.int x1), some (.int x2), some (.int x3), some (.int x4), some (.int x5)] [.int y0] h := by
  by_cases c : y0 = 3
  · obtain ⟨n, e⟩ := kf c
    exact Exists.intro (n + 2) (Or.inr (And.intro (fun z => z c) e))
  · obtain ⟨n, e⟩ := kt c
    exact Exists.intro (n + 2) (Or.inl (And.intro c e))
theorem bC_49_86 {d : Nat} {Q : Option Value → ai_H → Prop} {h : ai_H} {x1 x2 x3 x4 x5 : Int32} (k : Q (some (.int 4)) h) : RC d 49 Q 86 [some (.ref 23), some (.int x1), some (.int x2), some (.int x3), some (.int x4), some (.int x5)] [] h := Exists.intro 2 (And.intro (Or.inl rfl) k)
theorem bC_49_88 {d : Nat} {Q : Option Value → ai_H → Prop} {h : ai_H} {x1 x2 x3 x4 x5 : Int32} (kt : x5 = (-1) → RC d 49 Q 114 [some (.ref 23), some (.int x1), some (.int x2), some (.int x3), some (.int x4), some (.int x5)] [] h) (kf : ¬ x5 = (-1) → RC d 49 Q 94 [some (.ref 23), some (.int x1), some (.int x2), some (.int x3), some (.int x4), some (.int x5)] [] h) : RC d 49 Q 88 [some (.ref 23), some (.int x1), some (.int x2), some (.int x3), some (.int x4), some (.int x5)] [] h := by
  by_cases c : x5 = (-1)
  · obtain ⟨n, e⟩ := kt c
    exact Exists.intro (n + 3) (Or.inl (And.intro c e))
  · obtain ⟨n, e⟩ := kf c
    exact Exists.intro (n + 3) (Or.inr (And.intro c e))
theorem bC_49_94 {d : Nat} {Q : Option Value → ai_H → Prop} {h h2 : ai_H} {x1 x2 x3 x4 x5 r : Int32} (hc : CC d 61 [.ref 12, .int x3] h (some (.int r)) h2) (k : RC d 49 Q 106 [some (.ref 23), some (.int x1), some (.int x2), some (.int x3), some (.int x4), some (.int x5)] [.int r, .ref 0] h2) : RC d 49 Q 94 [some (.ref 23), some (.int x1), some (.int x2), some (.int x3), some (.int x4), some (.int x5)] [] h := by
  obtain ⟨n, e⟩ := k
  exact Exists.intro (n + 6) (And.intro rfl (And.intro rfl (Exists.intro [.int x3] (Exists.intro 12 (Exists.intro [.ref 0] (Exists.intro _ (Exists.intro (some (.int r)) (Exists.intro h2 (And.intro rfl (And.intro rfl (And.intro rfl (And.intro (Nat.le_of_ble_eq_true rfl) (And.intro hc e)))))))))))))
theorem bC_49_106 {d : Nat} {Q : Option Value → ai_H → Prop} {h h2 : ai_H} {x1 x2 x3 x4 x5 y1 r : Int32} (hc : CC d 4 [.ref 0, .int y1] h (some (.int r)) h2) (k : RC d 49 Q 109 [some (.ref 23), some (.int x1), some (.int x2), some (.int x3), some (.int x4), some (.int x5)] [.int r] h2) : RC d 49 Q 106 [some (.ref 23), some (.int x1), some (.int x2), some (.int x3), some (.int x4), some (.int x5)] [.int y1, .ref 0] h := by
  obtain ⟨n, e⟩ := k
  exact Exists.intro (n + 1) (Exists.intro [.int y1] (Exists.intro 0 (Exists.intro [] (Exists.intro _ (Exists.intro (some (.int r)) (Exists.intro h2 (And.intro rfl (And.intro rfl (And.intro rfl (And.intro (Nat.le_of_ble_eq_true rfl) (And.intro hc e)))))))))))
theorem bC_49_109 {d : Nat} {Q : Option Value → ai_H → Prop} {h : ai_H} {x1 x2 x3 x4 x5 y0 : Int32} (kt : ¬ y0 = 0 → RC d 49 Q 114 [some (.ref 23), some (.int x1), some (.int x2), some (.int x3), some (.int x4), some (.int x5)] [] h) (kf : y0 = 0 → RC d 49 Q 112 [some (.ref 23), some (.int x1), some (.int x2), some (.int x3), some (.int x4), some (.int x5)] [] h) : RC d 49 Q 109 [some (.ref 23), some (.int x1), some (.int x2), some (.int x3), some (.int x4), some (.int x5)] [.int y0] h := by
  by_cases c : y0 = 0
  · obtain ⟨n, e⟩ := kf c
    exact Exists.intro (n + 1) (Or.inr (And.intro (fun z => z c) e))
  · obtain ⟨n, e⟩ := kt c
    exact Exists.intro (n + 1) (Or.inl (And.intro c e))
theorem bC_49_112 {d : Nat} {Q : Option Value → ai_H → Prop} {h : ai_H} {x1 x2 x3 x4 x5 : Int32} (k : Q (some (.int 5)) h) : RC d 49 Q 112 [some (.ref 23), some (.int x1), some (.int x2), some (.int x3), some (.int x4), some (.int x5)] [] h := Exists.intro 2 (And.intro (Or.inl rfl) k)
theorem bC_49_114 {d : Nat} {Q : Option Value → ai_H → Prop} {h h2 : ai_H} {x1 x2 x3 x4 x5 r : Int32} (hc : CC d 9 [.ref 0, .int x1, .int x2] h (some (.int r)) h2) (k : RC d 49 Q 125 [some (.ref 23), some (.int x1), some (.int x2), some (.int x3), some (.int x4), some (.int x5)] [.int r, .int x3, .ref 23] h2) : RC d 49 Q 114 [some (.ref 23), some (.int x1), some (.int x2), some (.int x3), some (.int x4), some (.int x5)] [] h := by
  obtain ⟨n, e⟩ := k
  exact Exists.intro (n + 7) (And.intro rfl (Exists.intro [.int x1, .int x2] (Exists.intro 0 (Exists.intro [.int x3, .ref 23] (Exists.intro _ (Exists.intro (some (.int r)) (Exists.intro h2 (And.intro rfl (And.intro rfl (And.intro rfl (And.intro (Nat.le_of_ble_eq_true rfl) (And.intro hc e))))))))))))
theorem bC_49_125 {d : Nat} {Q : Option Value → ai_H → Prop} {h h2 : ai_H} {x1 x2 x3 x4 x5 y1 y2 r : Int32} (hc : CC d 52 [.ref 23, .int y1, .int y2] h (some (.int r)) h2) (k : RC d 49 Q 128 [some (.ref 23), some (.int x1), some (.int x2), some (.int x3), some (.int x4), some (.int x5)] [.int r] h2) : RC d 49 Q 125 [some (.ref 23), some (.int x1), some (.int x2), some (.int x3), some (.int x4), some (.int x5)] [.int y2, .int y1, .ref 23] h := by
  obtain ⟨n, e⟩ := k
  exact Exists.intro (n + 1) (Exists.intro [.int y1, .int y2] (Exists.intro 23 (Exists.intro [] (Exists.intro _ (Exists.intro (some (.int r)) (Exists.intro h2 (And.intro rfl (And.intro rfl (And.intro rfl (And.intro (Nat.le_of_ble_eq_true rfl) (And.intro hc e)))))))))))
theorem bC_49_128 {d : Nat} {Q : Option Value → ai_H → Prop} {h : ai_H} {x1 x2 x3 x4 x5 y0 : Int32} (kt : y0 = 0 → RC d 49 Q 136 [some (.ref 23), some (.int x1), some (.int x2), some (.int x3), some (.int x4), some (.int x5)] [] h) (kf : ¬ y0 = 0 → RC d 49 Q 131 [some (.ref 23), some (.int x1), some (.int x2), some (.int x3), some (.int x4), some (.int x5)] [] h) : RC d 49 Q 128 [some (.ref 23), some (.int x1), some (.int x2), some (.int x3), some (.int x4), some (.int x5)] [.int y0] h := by
  by_cases c : y0 = 0
  · obtain ⟨n, e⟩ := kt c
    exact Exists.intro (n + 1) (Or.inl (And.intro c e))
  · obtain ⟨n, e⟩ := kf c
    exact Exists.intro (n + 1) (Or.inr (And.intro c e))
theorem bC_49_131 {d : Nat} {Q : Option Value → ai_H → Prop} {h : ai_H} {x1 x2 x3 x4 x5 : Int32} (k : RC d 49 Q 137 [some (.ref 23), some (.int x1), some (.int x2), some (.int x3), some (.int x4), some (.int x5)] [.int 6] h) : RC d 49 Q 131 [some (.ref 23), some (.int x1), some (.int x2), some (.int x3), some (.int x4), some (.int x5)] [] h := by
  obtain ⟨n, e⟩ := k
  exact Exists.intro (n + 2) (e)
theorem bC_49_136 {d : Nat} {Q : Option Value → ai_H → Prop} {h : ai_H} {x1 x2 x3 x4 x5 : Int32} (k : RC d 49 Q 137 [some (.ref 23), some (.int x1), some (.int x2), some (.int x3), some (.int x4), some (.int x5)] [.int 0] h) : RC d 49 Q 136 [some (.ref 23), some (.int x1), some (.int x2), some (.int x3), some (.int x4), some (.int x5)] [] h := by
  obtain ⟨n, e⟩ := k
  exact Exists.intro (n + 1) (e)
theorem bC_49_137 {d : Nat} {Q : Option Value → ai_H → Prop} {h : ai_H} {x1 x2 x3 x4 x5 y0 : Int32} (k : Q (some (.int y0)) h) : RC d 49 Q 137 [some (.ref 23), some (.int x1), some (.int x2), some (.int x3), some (.int x4), some (.int x5)] [.int y0] h := Exists.intro 1 (And.intro (Or.inl rfl) k)
theorem bC_50_0 {d : Nat} {Q : Option Value → ai_H → Prop} {h h2 : ai_H} {x1 x2 r : Int32} (hc : CC d 51 [.ref 23, .int x1, .int x2] h (some (.int r)) h2) (k : RC d 50 Q 6 [some (.ref 23), some (.int x1), some (.int x2), none] [.int r] h2) : RC d 50 Q 0 [some (.ref 23), some (.int x1), some (.int x2), none] [] h := by
  obtain ⟨n, e⟩ := k
  exact Exists.intro (n + 4) (Exists.intro [.int x1, .int x2] (Exists.intro 23 (Exists.intro [] (Exists.intro _ (Exists.intro (some (.int r)) (Exists.intro h2 (And.intro rfl (And.intro rfl (And.intro rfl (And.intro (Nat.le_of_ble_eq_true rfl) (And.intro hc e)))))))))))
theorem bC_50_6 {d : Nat} {Q : Option Value → ai_H → Prop} {h : ai_H} {x1 x2 y0 : Int32} (kt : ¬ y0 = 0 → RC d 50 Q 11 [some (.ref 23), some (.int x1), some (.int x2), none] [] h) (kf : y0 = 0 → RC d 50 Q 9 [some (.ref 23), some (.int x1), some (.int x2), none] [] h) : RC d 50 Q 6 [some (.ref 23), some (.int x1), some (.int x2), none] [.int y0] h := by
  by_cases c : y0 = 0
  · obtain ⟨n, e⟩ := kf c
    exact Exists.intro (n + 1) (Or.inr (And.intro (fun z => z c) e))
  · obtain ⟨n, e⟩ := kt c
    exact Exists.intro (n + 1) (Or.inl (And.intro c e))
theorem bC_50_9 {d : Nat} {Q : Option Value → ai_H → Prop} {h : ai_H} {x1 x2 : Int32} (k : Q (some (.int 2)) h) : RC d 50 Q 9 [some (.ref 23), some (.int x1), some (.int x2), none] [] h := Exists.intro 2 (And.intro (Or.inl rfl) k)
theorem bC_50_11 {d : Nat} {Q : Option Value → ai_H → Prop} {h h2 : ai_H} {x1 x2 r : Int32} (hc : CC d 61 [.ref 12, .int x2] h (some (.int r)) h2) (k : RC d 50 Q 19 [some (.ref 23), some (.int x1), some (.int x2), none] [.int r] h2) : RC d 50 Q 11 [some (.ref 23), some (.int x1), some (.int x2), none] [] h := by
  obtain ⟨n, e⟩ := k
  exact Exists.intro (n + 4) (And.intro rfl (Exists.intro [.int x2] (Exists.intro 12 (Exists.intro [] (Exists.intro _ (Exists.intro (some (.int r)) (Exists.intro h2 (And.intro rfl (And.intro rfl (And.intro rfl (And.intro (Nat.le_of_ble_eq_true rfl) (And.intro hc e))))))))))))
theorem bC_50_19 {d : Nat} {Q : Option Value → ai_H → Prop} {h : ai_H} {x1 x2 y0 : Int32} (kt : y0 < x1 → RC d 50 Q 26 [some (.ref 23), some (.int x1), some (.int x2), none] [] h) (kf : ¬ y0 < x1 → RC d 50 Q 23 [some (.ref 23), some (.int x1), some (.int x2), none] [] h) : RC d 50 Q 19 [some (.ref 23), some (.int x1), some (.int x2), none] [.int y0] h := by
  by_cases c : y0 < x1
  · obtain ⟨n, e⟩ := kt c
    exact Exists.intro (n + 2) (Or.inl (And.intro c e))
  · obtain ⟨n, e⟩ := kf c
    exact Exists.intro (n + 2) (Or.inr (And.intro c e))
theorem bC_50_23 {d : Nat} {Q : Option Value → ai_H → Prop} {h : ai_H} {x1 x2 : Int32} (k : Q (some (.int 7)) h) : RC d 50 Q 23 [some (.ref 23), some (.int x1), some (.int x2), none] [] h := Exists.intro 2 (And.intro (Or.inl rfl) k)
theorem bC_50_26 {d : Nat} {Q : Option Value → ai_H → Prop} {h h2 : ai_H} {x1 x2 r : Int32} (hc : CC d 4 [.ref 0, .int x1] h (some (.int r)) h2) (k : RC d 50 Q 34 [some (.ref 23), some (.int x1), some (.int x2), none] [.int r] h2) : RC d 50 Q 26 [some (.ref 23), some (.int x1), some (.int x2), none] [] h := by
  obtain ⟨n, e⟩ := k
  exact Exists.intro (n + 4) (And.intro rfl (Exists.intro [.int x1] (Exists.intro 0 (Exists.intro [] (Exists.intro _ (Exists.intro (some (.int r)) (Exists.intro h2 (And.intro rfl (And.intro rfl (And.intro rfl (And.intro (Nat.le_of_ble_eq_true rfl) (And.intro hc e))))))))))))
theorem bC_50_34 {d : Nat} {Q : Option Value → ai_H → Prop} {h : ai_H} {x1 x2 y0 : Int32} (kt : ¬ y0 = 0 → RC d 50 Q 48 [some (.ref 23), some (.int x1), some (.int x2), none] [] h) (kf : y0 = 0 → RC d 50 Q 37 [some (.ref 23), some (.int x1), some (.int x2), none] [] h) : RC d 50 Q 34 [some (.ref 23), some (.int x1), some (.int x2), none] [.int y0] h := by
  by_cases c : y0 = 0
  · obtain ⟨n, e⟩ := kf c
    exact Exists.intro (n + 1) (Or.inr (And.intro (fun z => z c) e))
  · obtain ⟨n, e⟩ := kt c
    exact Exists.intro (n + 1) (Or.inl (And.intro c e))
theorem bC_50_37 {d : Nat} {Q : Option Value → ai_H → Prop} {h h2 : ai_H} {x1 x2 r : Int32} (hc : CC d 14 [.ref 0, .int x1] h (some (.int r)) h2) (k : RC d 50 Q 45 [some (.ref 23), some (.int x1), some (.int x2), none] [.int r] h2) : RC d 50 Q 37 [some (.ref 23), some (.int x1), some (.int x2), none] [] h := by
  obtain ⟨n, e⟩ := k
  exact Exists.intro (n + 4) (And.intro rfl (Exists.intro [.int x1] (Exists.intro 0 (Exists.intro [] (Exists.intro _ (Exists.intro (some (.int r)) (Exists.intro h2 (And.intro rfl (And.intro rfl (And.intro rfl (And.intro (Nat.le_of_ble_eq_true rfl) (And.intro hc e))))))))))))
theorem bC_50_45 {d : Nat} {Q : Option Value → ai_H → Prop} {h : ai_H} {x1 x2 y0 : Int32} (kt : y0 ≤ 0 → RC d 50 Q 52 [some (.ref 23), some (.int x1), some (.int x2), none] [] h) (kf : ¬ y0 ≤ 0 → RC d 50 Q 48 [some (.ref 23), some (.int x1), some (.int x2), none] [] h) : RC d 50 Q 45 [some (.ref 23), some (.int x1), some (.int x2), none] [.int y0] h := by
  by_cases c : y0 ≤ 0
  · obtain ⟨n, e⟩ := kt c
    exact Exists.intro (n + 1) (Or.inl (And.intro c e))
  · obtain ⟨n, e⟩ := kf c
    exact Exists.intro (n + 1) (Or.inr (And.intro c e))
theorem bC_50_48 {d : Nat} {Q : Option Value → ai_H → Prop} {h : ai_H} {x1 x2 : Int32} (k : RC d 50 Q 53 [some (.ref 23), some (.int x1), some (.int x2), none] [.int 1] h) : RC d 50 Q 48 [some (.ref 23), some (.int x1), some (.int x2), none] [] h := by
  obtain ⟨n, e⟩ := k
  exact Exists.intro (n + 2) (e)
theorem bC_50_52 {d : Nat} {Q : Option Value → ai_H → Prop} {h : ai_H} {x1 x2 : Int32} (k : RC d 50 Q 53 [some (.ref 23), some (.int x1), some (.int x2), none] [.int 0] h) : RC d 50 Q 52 [some (.ref 23), some (.int x1), some (.int x2), none] [] h := by
  obtain ⟨n, e⟩ := k
  exact Exists.intro (n + 1) (e)
theorem bC_50_53 {d : Nat} {Q : Option Value → ai_H → Prop} {h : ai_H} {x1 x2 y0 : Int32} (kt : y0 = 0 → RC d 50 Q 81 [some (.ref 23), some (.int x1), some (.int x2), some (.int y0)] [] h) (kf : ¬ y0 = 0 → RC d 50 Q 58 [some (.ref 23), some (.int x1), some (.int x2), some (.int y0)] [] h) : RC d 50 Q 53 [some (.ref 23), some (.int x1), some (.int x2), none] [.int y0] h := by
  by_cases c : y0 = 0
  · obtain ⟨n, e⟩ := kt c
    exact Exists.intro (n + 3) (Exists.intro _ (And.intro rfl (Or.inl (And.intro c e))))
  · obtain ⟨n, e⟩ := kf c
    exact Exists.intro (n + 3) (Exists.intro _ (And.intro rfl (Or.inr (And.intro c e))))
theorem bC_50_58 {d : Nat} {Q : Option Value → ai_H → Prop} {h h2 : ai_H} {x1 x2 x3 r : Int32} (hc : CC d 61 [.ref 12, .int x2] h (some (.int r)) h2) (k : RC d 50 Q 70 [some (.ref 23), some (.int x1), some (.int x2), some (.int x3)] [.int r, .ref 0] h2) : RC d 50 Q 58 [some (.ref 23), some (.int x1), some (.int x2), some (.int x3)] [] h := by
  obtain ⟨n, e⟩ := k
  exact Exists.intro (n + 6) (And.intro rfl (And.intro rfl (Exists.intro [.int x2] (Exists.intro 12 (Exists.intro [.ref 0] (Exists.intro _ (Exists.intro (some (.int r)) (Exists.intro h2 (And.intro rfl (And.intro rfl (And.intro rfl (And.intro (Nat.le_of_ble_eq_true rfl) (And.intro hc e)))))))))))))
theorem bC_50_70 {d : Nat} {Q : Option Value → ai_H → Prop} {h h2 : ai_H} {x1 x2 x3 y1 r : Int32} (hc : CC d 4 [.ref 0, .int y1] h (some (.int r)) h2) (k : RC d 50 Q 73 [some (.ref 23), some (.int x1), some (.int x2), some (.int x3)] [.int r] h2) : RC d 50 Q 70 [some (.ref 23), some (.int x1), some (.int x2), some (.int x3)] [.int y1, .ref 0] h := by
  obtain ⟨n, e⟩ := k
  exact Exists.intro (n + 1) (Exists.intro [.int y1] (Exists.intro 0 (Exists.intro [] (Exists.intro _ (Exists.intro (some (.int r)) (Exists.intro h2 (And.intro rfl (And.intro rfl (And.intro rfl (And.intro (Nat.le_of_ble_eq_true rfl) (And.intro hc e)))))))))))
theorem bC_50_73 {d : Nat} {Q : Option Value → ai_H → Prop} {h : ai_H} {x1 x2 x3 y0 : Int32} (kt : ¬ y0 = 0 → RC d 50 Q 81 [some (.ref 23), some (.int x1), some (.int x2), some (.int x3)] [] h) (kf : y0 = 0 → RC d 50 Q 76 [some (.ref 23), some (.int x1), some (.int x2), some (.int x3)] [] h) : RC d 50 Q 73 [some (.ref 23), some (.int x1), some (.int x2), some (.int x3)] [.int y0] h := by
  by_cases c : y0 = 0
  · obtain ⟨n, e⟩ := kf c
    exact Exists.intro (n + 1) (Or.inr (And.intro (fun z => z c) e))
  · obtain ⟨n, e⟩ := kt c
    exact Exists.intro (n + 1) (Or.inl (And.intro c e))
theorem bC_50_76 {d : Nat} {Q : Option Value → ai_H → Prop} {h : ai_H} {x1 x2 x3 : Int32} (k : RC d 50 Q 82 [some (.ref 23), some (.int x1), some (.int x2), some (.int x3)] [.int 8] h) : RC d 50 Q 76 [some (.ref 23), some (.int x1), some (.int x2), some (.int x3)] [] h := by
  obtain ⟨n, e⟩ := k
  exact Exists.intro (n + 2) (e)
theorem bC_50_81 {d : Nat} {Q : Option Value → ai_H → Prop} {h : ai_H} {x1 x2 x3 : Int32} (k : RC d 50 Q 82 [some (.ref 23), some (.int x1), some (.int x2), some (.int x3)] [.int 0] h) : RC d 50 Q 81 [some (.ref 23), some (.int x1), some (.int x2), some (.int x3)] [] h := by
  obtain ⟨n, e⟩ := k
  exact Exists.intro (n + 1) (e)
theorem bC_50_82 {d : Nat} {Q : Option Value → ai_H → Prop} {h : ai_H} {x1 x2 x3 y0 : Int32} (k : Q (some (.int y0)) h) : RC d 50 Q 82 [some (.ref 23), some (.int x1), some (.int x2), some (.int x3)] [.int y0] h := Exists.intro 1 (And.intro (Or.inl rfl) k)
theorem bC_51_0 {d : Nat} {Q : Option Value → ai_H → Prop} {h h2 : ai_H} {x1 x2 r : Int32} (hc : CC d 60 [.ref 12, .int x2] h (some (.int r)) h2) (k : RC d 51 Q 8 [some (.ref 23), some (.int x1), some (.int x2), none, none, none, none] [.int r] h2) : RC d 51 Q 0 [some (.ref 23), some (.int x1), some (.int x2), none, none, none, none] [] h := by
  obtain ⟨n, e⟩ := k
  exact Exists.intro (n + 4) (And.intro rfl (Exists.intro [.int x2] (Exists.intro 12 (Exists.intro [] (Exists.intro _ (Exists.intro (some (.int r)) (Exists.intro h2 (And.intro rfl (And.intro rfl (And.intro rfl (And.intro (Nat.le_of_ble_eq_true rfl) (And.intro hc e))))))))))))
theorem bC_51_8 {d : Nat} {Q : Option Value → ai_H → Prop} {h : ai_H} {x1 x2 y0 : Int32} (kt : ¬ y0 = 5 → RC d 51 Q 30 [some (.ref 23), some (.int x1), some (.int x2), none, none, none, none] [] h) (kf : y0 = 5 → RC d 51 Q 12 [some (.ref 23), some (.int x1), some (.int x2), none, none, none, none] [] h) : RC d 51 Q 8 [some (.ref 23), some (.int x1), some (.int x2), none, none, none, none] [.int y0] h := by
  by_cases c : y0 = 5
  · obtain ⟨n, e⟩ := kf c
    exact Exists.intro (n + 2) (Or.inr (And.intro (fun z => z c) e))
  · obtain ⟨n, e⟩ := kt c
    exact Exists.intro (n + 2) (Or.inl (And.intro c e))
theorem bC_51_12 {d : Nat} {Q : Option Value → ai_H → Prop} {h h2 : ai_H} {x1 x2 r : Int32} (hc : CC d 64 [.ref 12, .int x2] h (some (.int r)) h2) (k : RC d 51 Q 24 [some (.ref 23), some (.int x1), some (.int x2), none, none, none, none] [.int r, .ref 12] h2) : RC d 51 Q 12 [some (.ref 23), some (.int x1), some (.int x2), none, none, none, none] [] h := by
  obtain ⟨n, e⟩ := k
  exact Exists.intro (n + 6) (And.intro rfl (And.intro rfl (Exists.intro [.int x2] (Exists.intro 12 (Exists.intro [.ref 12] (Exists.intro _ (Exists.intro (some (.int r)) (Exists.intro h2 (And.intro rfl (And.intro rfl (And.intro rfl (And.intro (Nat.le_of_ble_eq_true rfl) (And.intro hc e)))))))))))))
theorem bC_51_24 {d : Nat} {Q : Option Value → ai_H → Prop} {h h2 : ai_H} {x1 x2 y1 r : Int32} (hc : CC d 68 [.ref 12, .int y1] h (some (.int r)) h2) (k : RC d 51 Q 27 [some (.ref 23), some (.int x1), some (.int x2), none, none, none, none] [.int r] h2) : RC d 51 Q 24 [some (.ref 23), some (.int x1), some (.int x2), none, none, none, none] [.int y1, .ref 12] h := by
  obtain ⟨n, e⟩ := k
  exact Exists.intro (n + 1) (Exists.intro [.int y1] (Exists.intro 12 (Exists.intro [] (Exists.intro _ (Exists.intro (some (.int r)) (Exists.intro h2 (And.intro rfl (And.intro rfl (And.intro rfl (And.intro (Nat.le_of_ble_eq_true rfl) (And.intro hc e)))))))))))
theorem bC_51_27 {d : Nat} {Q : Option Value → ai_H → Prop} {h : ai_H} {x1 x2 y0 : Int32} (kt : y0 = 0 → RC d 51 Q 32 [some (.ref 23), some (.int x1), some (.int x2), none, none, none, none] [] h) (kf : ¬ y0 = 0 → RC d 51 Q 30 [some (.ref 23), some (.int x1), some (.int x2), none, none, none, none] [] h) : RC d 51 Q 27 [some (.ref 23), some (.int x1), some (.int x2), none, none, none, none] [.int y0] h := by
  by_cases c : y0 = 0
  · obtain ⟨n, e⟩ := kt c
    exact Exists.intro (n + 1) (Or.inl (And.intro c e))
  · obtain ⟨n, e⟩ := kf c
    exact Exists.intro (n + 1) (Or.inr (And.intro c e))
theorem bC_51_30 {d : Nat} {Q : Option Value → ai_H → Prop} {h : ai_H} {x1 x2 : Int32} (k : Q (some (.int 0)) h) : RC d 51 Q 30 [some (.ref 23), some (.int x1), some (.int x2), none, none, none, none] [] h := Exists.intro 2 (And.intro (Or.inr (Or.inl rfl)) k)
theorem bC_51_32 {d : Nat} {Q : Option Value → ai_H → Prop} {h : ai_H} {x1 x2 : Int32} (k : RC d 51 Q 34 [some (.ref 23), some (.int x1), some (.int x2), some (.int 0), none, none, none] [] h) : RC d 51 Q 32 [some (.ref 23), some (.int x1), some (.int x2), none, none, none, none] [] h := by
  obtain ⟨n, e⟩ := k
  exact Exists.intro (n + 2) (Exists.intro _ (And.intro rfl (e)))
theorem bC_51_34 {d : Nat} {Q : Option Value → ai_H → Prop} {h h2 : ai_H} {x1 x2 x3 r : Int32} {o4 o5 o6 : Option Value} (hc : CC d 66 [.ref 12, .int x2] h (some (.int r)) h2) (k : RC d 51 Q 43 [some (.ref 23), some (.int x1), some (.int x2), some (.int x3), o4, o5, o6] [.int r, .int x3] h2) : RC d 51 Q 34 [some (.ref 23), some (.int x1), some (.int x2), some (.int x3), o4, o5, o6] [] h := by
  obtain ⟨n, e⟩ := k
  exact Exists.intro (n + 5) (And.intro rfl (Exists.intro [.int x2] (Exists.intro 12 (Exists.intro [.int x3] (Exists.intro _ (Exists.intro (some (.int r)) (Exists.intro h2 (And.intro rfl (And.intro rfl (And.intro rfl (And.intro (Nat.le_of_ble_eq_true rfl) (And.intro hc e))))))))))))
theorem bC_51_43 {d : Nat} {Q : Option Value → ai_H → Prop} {h : ai_H} {x1 x2 x3 y0 y1 : Int32} {o4 o5 o6 : Option Value} (kt : y1 ≤ y0 → RC d 51 Q 130 [some (.ref 23), some (.int x1), some (.int x2), some (.int x3), o4, o5, o6] [] h) (kf : ¬ y1 ≤ y0 → RC d 51 Q 46 [some (.ref 23), some (.int x1), some (.int x2), some (.int x3), o4, o5, o6] [] h) : RC d 51 Q 43 [some (.ref 23), some (.int x1), some (.int x2), some (.int x3), o4, o5, o6] [.int y1, .int y0] h := by
  by_cases c : y1 ≤ y0
  · obtain ⟨n, e⟩ := kt c
    exact Exists.intro (n + 1) (Or.inl (And.intro c e))
  · obtain ⟨n, e⟩ := kf c
    exact Exists.intro (n + 1) (Or.inr (And.intro c e))
theorem bC_51_46 {d : Nat} {Q : Option Value → ai_H → Prop} {h h2 : ai_H} {x1 x2 x3 r : Int32} {o4 o5 o6 : Option Value} (hc : CC d 65 [.ref 12, .int x2, .int x3] h (some (.int r)) h2) (k : RC d 51 Q 55 [some (.ref 23), some (.int x1), some (.int x2), some (.int x3), o4, o5, o6] [.int r] h2) : RC d 51 Q 46 [some (.ref 23), some (.int x1), some (.int x2), some (.int x3), o4, o5, o6] [] h := by
  obtain ⟨n, e⟩ := k
  exact Exists.intro (n + 5) (And.intro rfl (Exists.intro [.int x2, .int x3] (Exists.intro 12 (Exists.intro [] (Exists.intro _ (Exists.intro (some (.int r)) (Exists.intro h2 (And.intro rfl (And.intro rfl (And.intro rfl (And.intro (Nat.le_of_ble_eq_true rfl) (And.intro hc e))))))))))))
theorem bC_51_55 {d : Nat} {Q : Option Value → ai_H → Prop} {h h2 : ai_H} {x1 x2 x3 y0 r : Int32} {o4 o5 o6 : Option Value} (hc : CC d 98 [.int y0] h (some (.int r)) h2) (k : RC d 51 Q 62 [some (.ref 23), some (.int x1), some (.int x2), some (.int x3), some (.int y0), o5, o6] [.int r] h2) : RC d 51 Q 55 [some (.ref 23), some (.int x1), some (.int x2), some (.int x3), o4, o5, o6] [.int y0] h := by
  obtain ⟨n, e⟩ := k
  exact Exists.intro (n + 3) (Exists.intro _ (And.intro rfl (Exists.intro [.int y0] (Exists.intro [] (Exists.intro (some (.int r)) (Exists.intro h2 (And.intro rfl (And.intro rfl (And.intro (Nat.le_of_ble_eq_true rfl) (And.intro hc e))))))))))
theorem bC_51_62 {d : Nat} {Q : Option Value → ai_H → Prop} {h h2 : ai_H} {x1 x2 x3 x4 y0 r : Int32} {o5 o6 : Option Value} (hc : CC d 97 [.int x4] h (some (.int r)) h2) (k : RC d 51 Q 69 [some (.ref 23), some (.int x1), some (.int x2), some (.int x3), some (.int x4), some (.int y0), o6] [.int r] h2) : RC d 51 Q 62 [some (.ref 23), some (.int x1), some (.int x2), some (.int x3), some (.int x4), o5, o6] [.int y0] h := by
  obtain ⟨n, e⟩ := k
  exact Exists.intro (n + 3) (Exists.intro _ (And.intro rfl (Exists.intro [.int x4] (Exists.intro [] (Exists.intro (some (.int r)) (Exists.intro h2 (And.intro rfl (And.intro rfl (And.intro (Nat.le_of_ble_eq_true rfl) (And.intro hc e))))))))))
theorem bC_51_69 {d : Nat} {Q : Option Value → ai_H → Prop} {h : ai_H} {x1 x2 x3 x4 x5 y0 : Int32} {o6 : Option Value} (kt : ¬ y0 = 0 → RC d 51 Q 102 [some (.ref 23), some (.int x1), some (.int x2), some (.int x3), some (.int x4), some (.int x5), o6] [] h) (kf : y0 = 0 → RC d 51 Q 72 [some (.ref 23), some (.int x1), some (.int x2), some (.int x3), some (.int x4), some (.int x5), o6] [] h) : RC d 51 Q 69 [some (.ref 23), some (.int x1), some (.int x2), some (.int x3), some (.int x4), some (.int x5), o6] [.int y0] h := by
  by_cases c : y0 = 0
  · obtain ⟨n, e⟩ := kf c
    exact Exists.intro (n + 1) (Or.inr (And.intro (fun z => z c) e))
  · obtain ⟨n, e⟩ := kt c
    exact Exists.intro (n + 1) (Or.inl (And.intro c e))
theorem bC_51_72 {d : Nat} {Q : Option Value → ai_H → Prop} {h h2 : ai_H} {x1 x2 x3 x4 x5 r : Int32} {o6 : Option Value} (hc : CC d 60 [.ref 12, .int x5] h (some (.int r)) h2) (k : RC d 51 Q 81 [some (.ref 23), some (.int x1), some (.int x2), some (.int x3), some (.int x4), some (.int x5), o6] [.int r] h2) : RC d 51 Q 72 [some (.ref 23), some (.int x1), some (.int x2), some (.int x3), some (.int x4), some (.int x5), o6] [] h := by
  obtain ⟨n, e⟩ := k
  exact Exists.intro (n + 4) (And.intro rfl (Exists.intro [.int x5] (Exists.intro 12 (Exists.intro [] (Exists.intro _ (Exists.intro (some (.int r)) (Exists.intro h2 (And.intro rfl (And.intro rfl (And.intro rfl (And.intro (Nat.le_of_ble_eq_true rfl) (And.intro hc e))))))))))))
theorem bC_51_81 {d : Nat} {Q : Option Value → ai_H → Prop} {h : ai_H} {x1 x2 x3 x4 x5 y0 : Int32} {o6 : Option Value} (kt : ¬ y0 = 3 → RC d 51 Q 102 [some (.ref 23), some (.int x1), some (.int x2), some (.int x3), some (.int x4), some (.int x5), o6] [] h) (kf : y0 = 3 → RC d 51 Q 85 [some (.ref 23), some (.int x1), some (.int x2), some (.int x3), some (.int x4), some (.int x5), o6] [] h) : RC d 51 Q 81 [some (.ref 23), some (.int x1), some (.int x2), some (.int x3), some (.int x4), some (.int x5), o6] [.int y0] h := by
  by_cases c : y0 = 3
  · obtain ⟨n, e⟩ := kf c
    exact Exists.intro (n + 2) (Or.inr (And.intro (fun z => z c) e))
  · obtain ⟨n, e⟩ := kt c
    exact Exists.intro (n + 2) (Or.inl (And.intro c e))
theorem bC_51_85 {d : Nat} {Q : Option Value → ai_H → Prop} {h h2 : ai_H} {x1 x2 x3 x4 x5 r : Int32} {o6 : Option Value} (hc : CC d 61 [.ref 12, .int x5] h (some (.int r)) h2) (k : RC d 51 Q 94 [some (.ref 23), some (.int x1), some (.int x2), some (.int x3), some (.int x4), some (.int x5), o6] [.int r] h2) : RC d 51 Q 85 [some (.ref 23), some (.int x1), some (.int x2), some (.int x3), some (.int x4), some (.int x5), o6] [] h := by
  obtain ⟨n, e⟩ := k
  exact Exists.intro (n + 4) (And.intro rfl (Exists.intro [.int x5] (Exists.intro 12 (Exists.intro [] (Exists.intro _ (Exists.intro (some (.int r)) (Exists.intro h2 (And.intro rfl (And.intro rfl (And.intro rfl (And.intro (Nat.le_of_ble_eq_true rfl) (And.intro hc e))))))))))))
theorem bC_51_94 {d : Nat} {Q : Option Value → ai_H → Prop} {h : ai_H} {x1 x2 x3 x4 x5 y0 : Int32} {o6 : Option Value} (kt : ¬ y0 = x1 → RC d 51 Q 102 [some (.ref 23), some (.int x1), some (.int x2), some (.int x3), some (.int x4), some (.int x5), o6] [] h) (kf : y0 = x1 → RC d 51 Q 98 [some (.ref 23), some (.int x1), some (.int x2), some (.int x3), some (.int x4), some (.int x5), o6] [] h) : RC d 51 Q 94 [some (.ref 23), some (.int x1), some (.int x2), some (.int x3), some (.int x4), some (.int x5), o6] [.int y0] h := by
  by_cases c : y0 = x1
  · obtain ⟨n, e⟩ := kf c
    exact Exists.intro (n + 2) (Or.inr (And.intro (fun z => z c) e))
  · obtain ⟨n, e⟩ := kt c
    exact Exists.intro (n + 2) (Or.inl (And.intro c e))
theorem bC_51_98 {d : Nat} {Q : Option Value → ai_H → Prop} {h : ai_H} {x1 x2 x3 x4 x5 : Int32} {o6 : Option Value} (k : RC d 51 Q 103 [some (.ref 23), some (.int x1), some (.int x2), some (.int x3), some (.int x4), some (.int x5), o6] [.int 1] h) : RC d 51 Q 98 [some (.ref 23), some (.int x1), some (.int x2), some (.int x3), some (.int x4), some (.int x5), o6] [] h := by
  obtain ⟨n, e⟩ := k
  exact Exists.intro (n + 2) (e)
theorem bC_51_102 {d : Nat} {Q : Option Value → ai_H → Prop} {h : ai_H} {x1 x2 x3 x4 x5 : Int32} {o6 : Option Value} (k : RC d 51 Q 103 [some (.ref 23), some (.int x1), some (.int x2), some (.int x3), some (.int x4), some (.int x5), o6] [.int 0] h) : RC d 51 Q 102 [some (.ref 23), some (.int x1), some (.int x2), some (.int x3), some (.int x4), some (.int x5), o6] [] h := by
  obtain ⟨n, e⟩ := k
  exact Exists.intro (n + 1) (e)
theorem bC_51_103 {d : Nat} {Q : Option Value → ai_H → Prop} {h h2 : ai_H} {x1 x2 x3 x4 x5 y0 r : Int32} {o6 : Option Value} (hc : CC d 68 [.ref 12, .int x5] h (some (.int r)) h2) (k : RC d 51 Q 114 [some (.ref 23), some (.int x1), some (.int x2), some (.int x3), some (.int x4), some (.int x5), some (.int y0)] [.int r] h2) : RC d 51 Q 103 [some (.ref 23), some (.int x1), some (.int x2), some (.int x3), some (.int x4), some (.int x5), o6] [.int y0] h := by
  obtain ⟨n, e⟩ := k
  exact Exists.intro (n + 5) (Exists.intro _ (And.intro rfl (And.intro rfl (Exists.intro [.int x5] (Exists.intro 12 (Exists.intro [] (Exists.intro _ (Exists.intro (some (.int r)) (Exists.intro h2 (And.intro rfl (And.intro rfl (And.intro rfl (And.intro (Nat.le_of_ble_eq_true rfl) (And.intro hc e))))))))))))))
theorem bC_51_114 {d : Nat} {Q : Option Value → ai_H → Prop} {h : ai_H} {x1 x2 x3 x4 x5 x6 y0 : Int32} (kt : y0 = 0 → RC d 51 Q 124 [some (.ref 23), some (.int x1), some (.int x2), some (.int x3), some (.int x4), some (.int x5), some (.int x6)] [] h) (kf : ¬ y0 = 0 → RC d 51 Q 117 [some (.ref 23), some (.int x1), some (.int x2), some (.int x3), some (.int x4), some (.int x5), some (.int x6)] [] h) : RC d 51 Q 114 [some (.ref 23), some (.int x1), some (.int x2), some (.int x3), some (.int x4), some (.int x5), some (.int x6)] [.int y0] h := by
  by_cases c : y0 = 0
  · obtain ⟨n, e⟩ := kt c
    exact Exists.intro (n + 1) (Or.inl (And.intro c e))
  · obtain ⟨n, e⟩ := kf c
    exact Exists.intro (n + 1) (Or.inr (And.intro c e))
theorem bC_51_117 {d : Nat} {Q : Option Value → ai_H → Prop} {h : ai_H} {x1 x2 x3 x4 x5 x6 : Int32} (kt : ¬ x6 = 0 → RC d 51 Q 124 [some (.ref 23), some (.int x1), some (.int x2), some (.int x3), some (.int x4), some (.int x5), some (.int x6)] [] h) (kf : x6 = 0 → RC d 51 Q 122 [some (.ref 23), some (.int x1), some (.int x2), some (.int x3), some (.int x4), some (.int x5), some (.int x6)] [] h) : RC d 51 Q 117 [some (.ref 23), some (.int x1), some (.int x2), some (.int x3), some (.int x4), some (.int x5), some (.int x6)] [] h := by
  by_cases c : x6 = 0
  · obtain ⟨n, e⟩ := kf c
    exact Exists.intro (n + 2) (Or.inr (And.intro (fun z => z c) e))
  · obtain ⟨n, e⟩ := kt c
    exact Exists.intro (n + 2) (Or.inl (And.intro c e))
theorem bC_51_122 {d : Nat} {Q : Option Value → ai_H → Prop} {h : ai_H} {x1 x2 x3 x4 x5 x6 : Int32} (k : Q (some (.int 0)) h) : RC d 51 Q 122 [some (.ref 23), some (.int x1), some (.int x2), some (.int x3), some (.int x4), some (.int x5), some (.int x6)] [] h := Exists.intro 2 (And.intro (Or.inr (Or.inl rfl)) k)
theorem bC_51_124 {d : Nat} {Q : Option Value → ai_H → Prop} {h : ai_H} {x1 x2 x3 x4 x5 x6 : Int32} (k : RC d 51 Q 34 [some (.ref 23), some (.int x1), some (.int x2), some (.int (x3 + 1)), some (.int x4), some (.int x5), some (.int x6)] [] h) : RC d 51 Q 124 [some (.ref 23), some (.int x1), some (.int x2), some (.int x3), some (.int x4), some (.int x5), some (.int x6)] [] h := by
  obtain ⟨n, e⟩ := k
  exact Exists.intro (n + 2) (Exists.intro _ (And.intro rfl (e)))
theorem bC_51_130 {d : Nat} {Q : Option Value → ai_H → Prop} {h : ai_H} {x1 x2 x3 : Int32} {o4 o5 o6 : Option Value} (k : Q (some (.int 1)) h) : RC d 51 Q 130 [some (.ref 23), some (.int x1), some (.int x2), some (.int x3), o4, o5, o6] [] h := Exists.intro 2 (And.intro (Or.inr (Or.inr rfl)) k)
theorem bC_52_0 {d : Nat} {Q : Option Value → ai_H → Prop} {h : ai_H} {x1 x2 : Int32} (k : RC d 52 Q 5 [some (.ref 23), some (.int x1), some (.int x2), some (.int x1), some (.int 0)] [] h) : RC d 52 Q 0 [some (.ref 23), some (.int x1), some (.int x2), none, none] [] h := by
  obtain ⟨n, e⟩ := k
  exact Exists.intro (n + 4) (Exists.intro _ (And.intro rfl (Exists.intro _ (And.intro rfl (e)))))
theorem bC_52_5 {d : Nat} {Q : Option Value → ai_H → Prop} {h : ai_H} {x1 x2 x3 x4 : Int32} (kt : 3 < x4 → RC d 52 Q 61 [some (.ref 23), some (.int x1), some (.int x2), some (.int x3), some (.int x4)] [] h) (kf : ¬ 3 < x4 → RC d 52 Q 11 [some (.ref 23), some (.int x1), some (.int x2), some (.int x3), some (.int x4)] [] h) : RC d 52 Q 5 [some (.ref 23), some (.int x1), some (.int x2), some (.int x3), some (.int x4)] [] h := by
  by_cases c : 3 < x4
  · obtain ⟨n, e⟩ := kt c
    exact Exists.intro (n + 3) (Or.inl (And.intro c e))
  · obtain ⟨n, e⟩ := kf c
    exact Exists.intro (n + 3) (Or.inr (And.intro c e))
theorem bC_52_11 {d : Nat} {Q : Option Value → ai_H → Prop} {h h2 : ai_H} {x1 x2 x3 x4 r : Int32} (hc : CC d 60 [.ref 12, .int x3] h (some (.int r)) h2) (k : RC d 52 Q 19 [some (.ref 23), some (.int x1), some (.int x2), some (.int x3), some (.int x4)] [.int r] h2) : RC d 52 Q 11 [some (.ref 23), some (.int x1), some (.int x2), some (.int x3), some (.int x4)] [] h := by
  obtain ⟨n, e⟩ := k
  exact Exists.intro (n + 4) (And.intro rfl (Exists.intro [.int x3] (Exists.intro 12 (Exists.intro [] (Exists.intro _ (Exists.intro (some (.int r)) (Exists.intro h2 (And.intro rfl (And.intro rfl (And.intro rfl (And.intro (Nat.le_of_ble_eq_true rfl) (And.intro hc e))))))))))))
theorem bC_52_19 {d : Nat} {Q : Option Value → ai_H → Prop} {h : ai_H} {x1 x2 x3 x4 y0 : Int32} (kt : ¬ y0 = 3 → RC d 52 Q 61 [some (.ref 23), some (.int x1), some (.int x2), some (.int x3), some (.int x4)] [] h) (kf : y0 = 3 → RC d 52 Q 23 [some (.ref 23), some (.int x1), some (.int x2), some (.int x3), some (.int x4)] [] h) : RC d 52 Q 19 [some (.ref 23), some (.int x1), some (.int x2), some (.int x3), some (.int x4)] [.int y0] h := by
  by_cases c : y0 = 3
  · obtain ⟨n, e⟩ := kf c
    exact Exists.intro (n + 2) (Or.inr (And.intro (fun z => z c) e))
  · obtain ⟨n, e⟩ := kt c
    exact Exists.intro (n + 2) (Or.inl (And.intro c e))
theorem bC_52_23 {d : Nat} {Q : Option Value → ai_H → Prop} {h : ai_H} {x1 x2 x3 x4 : Int32} (kt : ¬ x3 = x2 → RC d 52 Q 30 [some (.ref 23), some (.int x1), some (.int x2), some (.int x3), some (.int x4)] [] h) (kf : x3 = x2 → RC d 52 Q 28 [some (.ref 23), some (.int x1), some (.int x2), some (.int x3), some (.int x4)] [] h) : RC d 52 Q 23 [some (.ref 23), some (.int x1), some (.int x2), some (.int x3), some (.int x4)] [] h := by
  by_cases c : x3 = x2
  · obtain ⟨n, e⟩ := kf c
    exact Exists.intro (n + 3) (Or.inr (And.intro (fun z => z c) e))
  · obtain ⟨n, e⟩ := kt c
    exact Exists.intro (n + 3) (Or.inl (And.intro c e))
theorem bC_52_28 {d : Nat} {Q : Option Value → ai_H → Prop} {h : ai_H} {x1 x2 x3 x4 : Int32} (k : Q (some (.int 1)) h) : RC d 52 Q 28 [some (.ref 23), some (.int x1), some (.int x2), some (.int x3), some (.int x4)] [] h := Exists.intro 2 (And.intro (Or.inr (Or.inr rfl)) k)
theorem bC_52_30 {d : Nat} {Q : Option Value → ai_H → Prop} {h h2 : ai_H} {x1 x2 x3 x4 r : Int32} (hc : CC d 61 [.ref 12, .int x3] h (some (.int r)) h2) (k : RC d 52 Q 42 [some (.ref 23), some (.int x1), some (.int x2), some (.int x3), some (.int x4)] [.int r, .ref 0] h2) : RC d 52 Q 30 [some (.ref 23), some (.int x1), some (.int x2), some (.int x3), some (.int x4)] [] h := by
  obtain ⟨n, e⟩ := k
  exact Exists.intro (n + 6) (And.intro rfl (And.intro rfl (Exists.intro [.int x3] (Exists.intro 12 (Exists.intro [.ref 0] (Exists.intro _ (Exists.intro (some (.int r)) (Exists.intro h2 (And.intro rfl (And.intro rfl (And.intro rfl (And.intro (Nat.le_of_ble_eq_true rfl) (And.intro hc e)))))))))))))
theorem bC_52_42 {d : Nat} {Q : Option Value → ai_H → Prop} {h h2 : ai_H} {x1 x2 x3 x4 y1 r : Int32} (hc : CC d 62 [.ref 12, .int x3] h (some (.int r)) h2) (k : RC d 52 Q 50 [some (.ref 23), some (.int x1), some (.int x2), some (.int x3), some (.int x4)] [.int r, .int y1, .ref 0] h2) : RC d 52 Q 42 [some (.ref 23), some (.int x1), some (.int x2), some (.int x3), some (.int x4)] [.int y1, .ref 0] h := by
  obtain ⟨n, e⟩ := k
  exact Exists.intro (n + 4) (And.intro rfl (Exists.intro [.int x3] (Exists.intro 12 (Exists.intro [.int y1, .ref 0] (Exists.intro _ (Exists.intro (some (.int r)) (Exists.intro h2 (And.intro rfl (And.intro rfl (And.intro rfl (And.intro (Nat.le_of_ble_eq_true rfl) (And.intro hc e))))))))))))
theorem bC_52_50 {d : Nat} {Q : Option Value → ai_H → Prop} {h h2 : ai_H} {x1 x2 x3 x4 y1 y2 r : Int32} (hc : CC d 11 [.ref 0, .int y1, .int y2, .int 0] h (some (.int r)) h2) (k : RC d 52 Q 54 [some (.ref 23), some (.int x1), some (.int x2), some (.int x3), some (.int x4)] [.int r] h2) : RC d 52 Q 50 [some (.ref 23), some (.int x1), some (.int x2), some (.int x3), some (.int x4)] [.int y2, .int y1, .ref 0] h := by
  obtain ⟨n, e⟩ := k
  exact Exists.intro (n + 2) (Exists.intro [.int y1, .int y2, .int 0] (Exists.intro 0 (Exists.intro [] (Exists.intro _ (Exists.intro (some (.int r)) (Exists.intro h2 (And.intro rfl (And.intro rfl (And.intro rfl (And.intro (Nat.le_of_ble_eq_true rfl) (And.intro hc e)))))))))))
theorem bC_52_54 {d : Nat} {Q : Option Value → ai_H → Prop} {h : ai_H} {x1 x2 x3 x4 y0 : Int32} (k : RC d 52 Q 5 [some (.ref 23), some (.int x1), some (.int x2), some (.int y0), some (.int (x4 + 1))] [] h) : RC d 52 Q 54 [some (.ref 23), some (.int x1), some (.int x2), some (.int x3), some (.int x4)] [.int y0] h := by
  obtain ⟨n, e⟩ := k
  exact Exists.intro (n + 3) (Exists.intro _ (And.intro rfl (Exists.intro _ (And.intro rfl (e)))))
theorem bC_52_61 {d : Nat} {Q : Option Value → ai_H → Prop} {h : ai_H} {x1 x2 x3 x4 : Int32} (k : Q (some (.int 0)) h) : RC d 52 Q 61 [some (.ref 23), some (.int x1), some (.int x2), some (.int x3), some (.int x4)] [] h := Exists.intro 2 (And.intro (Or.inr (Or.inl rfl)) k)
theorem bC_53_0 {d : Nat} {Q : Option Value → ai_H → Prop} {h h2 : ai_H} {x1 x2 x3 x4 x5 r : Int32} (hc : CC d 54 [.ref 23, .int x1, .int x2, .int x3, .int x4, .int x5] h (some (.int r)) h2) (k : RC d 53 Q 11 [some (.ref 23), some (.int x1), some (.int x2), some (.int x3), some (.int x4), some (.int x5), none, none, none, none, none, none, none] [.int r] h2) : RC d 53 Q 0 [some (.ref 23), some (.int x1), some (.int x2), some (.int x3), some (.int x4), some (.int x5), none, none, none, none, none, none, none] [] h := by
  obtain ⟨n, e⟩ := k
  exact Exists.intro (n + 7) (Exists.intro [.int x1, .int x2, .int x3, .int x4, .int x5] (Exists.intro 23 (Exists.intro [] (Exists.intro _ (Exists.intro (some (.int r)) (Exists.intro h2 (And.intro rfl (And.intro rfl (And.intro rfl (And.intro (Nat.le_of_ble_eq_true rfl) (And.intro hc e)))))))))))
theorem bC_53_11 {d : Nat} {Q : Option Value → ai_H → Prop} {h : ai_H} {x1 x2 x3 x4 x5 y0 : Int32} (kt : ¬ y0 = 0 → RC d 53 Q 23 [some (.ref 23), some (.int x1), some (.int x2), some (.int x3), some (.int x4), some (.int x5), some (.int y0), none, none, none, none, none, none] [] h) (kf : y0 = 0 → RC d 53 Q 18 [some (.ref 23), some (.int x1), some (.int x2), some (.int x3), some (.int x4), some (.int x5), some (.int y0), none, none, none, none, none, none] [] h) : RC d 53 Q 11 [some (.ref 23), some (.int x1), some (.int x2), some (.int x3), some (.int x4), some (.int x5), none, none, none, none, none, none, none] [.int y0] h := by
  by_cases c : y0 = 0
  · obtain ⟨n, e⟩ := kf c
    exact Exists.intro (n + 3) (Exists.intro _ (And.intro rfl (Or.inr (And.intro (fun z => z c) e))))
  · obtain ⟨n, e⟩ := kt c
    exact Exists.intro (n + 3) (Exists.intro _ (And.intro rfl (Or.inl (And.intro c e))))
theorem bC_53_18 {d : Nat} {Q : Option Value → ai_H → Prop} {h : ai_H} {x1 x2 x3 x4 x5 x6 : Int32} (kt : ¬ x3 = (-1) → RC d 53 Q 26 [some (.ref 23), some (.int x1), some (.int x2), some (.int x3), some (.int x4), some (.int x5), some (.int x6), none, none, none, none, none, none] [] h) (kf : x3 = (-1) → RC d 53 Q 23 [some (.ref 23), some (.int x1), some (.int x2), some (.int x3), some (.int x4), some (.int x5), some (.int x6), none, none, none, none, none, none] [] h) : RC d 53 Q 18 [some (.ref 23), some (.int x1), some (.int x2), some (.int x3), some (.int x4), some (.int x5), some (.int x6), none, none, none, none, none, none] [] h := by
  by_cases c : x3 = (-1)
  · obtain ⟨n, e⟩ := kf c
    exact Exists.intro (n + 3) (Or.inr (And.intro (fun z => z c) e))
  · obtain ⟨n, e⟩ := kt c
    exact Exists.intro (n + 3) (Or.inl (And.intro c e))
theorem bC_53_23 {d : Nat} {Q : Option Value → ai_H → Prop} {h : ai_H} {x1 x2 x3 x4 x5 x6 : Int32} (k : Q (some (.int x6)) h) : RC d 53 Q 23 [some (.ref 23), some (.int x1), some (.int x2), some (.int x3), some (.int x4), some (.int x5), some (.int x6), none, none, none, none, none, none] [] h := Exists.intro 2 (And.intro (Or.inl rfl) k)
theorem bC_53_26 {d : Nat} {Q : Option Value → ai_H → Prop} {h h2 : ai_H} {x1 x2 x3 x4 x5 x6 r : Int32} (hc : CC d 71 [.ref 12] h (some (.int r)) h2) (k : RC d 53 Q 33 [some (.ref 23), some (.int x1), some (.int x2), some (.int x3), some (.int x4), some (.int x5), some (.int x6), none, none, none, none, none, none] [.int r] h2) : RC d 53 Q 26 [some (.ref 23), some (.int x1), some (.int x2), some (.int x3), some (.int x4), some (.int x5), some (.int x6), none, none, none, none, none, none] [] h := by
  obtain ⟨n, e⟩ := k
  exact Exists.intro (n + 3) (And.intro rfl (Exists.intro [] (Exists.intro 12 (Exists.intro [] (Exists.intro _ (Exists.intro (some (.int r)) (Exists.intro h2 (And.intro rfl (And.intro rfl (And.intro rfl (And.intro (Nat.le_of_ble_eq_true rfl) (And.intro hc e))))))))))))
theorem bC_53_33 {d : Nat} {Q : Option Value → ai_H → Prop} {h h2 : ai_H} {x1 x2 x3 x4 x5 x6 y0 r : Int32} (hc : CC d 74 [.ref 12, .int 5, .int x1, .int x2, .int x3, .int x4, .int x5] h (some (.int r)) h2) (k : RC d 53 Q 50 [some (.ref 23), some (.int x1), some (.int x2), some (.int x3), some (.int x4), some (.int x5), some (.int x6), some (.int y0), none, none, none, none, none] [.int r] h2) : RC d 53 Q 33 [some (.ref 23), some (.int x1), some (.int x2), some (.int x3), some (.int x4), some (.int x5), some (.int x6), none, none, none, none, none, none] [.int y0] h := by
  obtain ⟨n, e⟩ := k
  exact Exists.intro (n + 10) (Exists.intro _ (And.intro rfl (And.intro rfl (Exists.intro [.int 5, .int x1, .int x2, .int x3, .int x4, .int x5] (Exists.intro 12 (Exists.intro [] (Exists.intro _ (Exists.intro (some (.int r)) (Exists.intro h2 (And.intro rfl (And.intro rfl (And.intro rfl (And.intro (Nat.le_of_ble_eq_true rfl) (And.intro hc e))))))))))))))
theorem bC_53_50 {d : Nat} {Q : Option Value → ai_H → Prop} {h : ai_H} {x1 x2 x3 x4 x5 x6 x7 y0 : Int32} (k : RC d 53 Q 55 [some (.ref 23), some (.int x1), some (.int x2), some (.int x3), some (.int x4), some (.int x5), some (.int x6), some (.int x7), some (.int y0), some (.int 0), none, none, none] [] h) : RC d 53 Q 50 [some (.ref 23), some (.int x1), some (.int x2), some (.int x3), some (.int x4), some (.int x5), some (.int x6), some (.int x7), none, none, none, none, none] [.int y0] h := by
  obtain ⟨n, e⟩ := k
  exact Exists.intro (n + 3) (Exists.intro _ (And.intro rfl (Exists.intro _ (And.intro rfl (e)))))
theorem bC_53_55 {d : Nat} {Q : Option Value → ai_H → Prop} {h h2 : ai_H} {x1 x2 x3 x4 x5 x6 x7 x8 x9 r : Int32} {o10 o11 o12 : Option Value} (hc : CC d 5 [.ref 0, .int x1] h (some (.int r)) h2) (k : RC d 53 Q 65 [some (.ref 23), some (.int x1), some (.int x2), some (.int x3), some (.int x4), some (.int x5), some (.int x6), some (.int x7), some (.int x8), some (.int x9), o10, o11, o12] [.int r, .int x9] h2) : RC d 53 Q 55 [some (.ref 23), some (.int x1), some (.int x2), some (.int x3), some (.int x4), some (.int x5), some (.int x6), some (.int x7), some (.int x8), some (.int x9), o10, o11, o12] [] h := by
  obtain ⟨n, e⟩ := k
  exact Exists.intro (n + 5) (And.intro rfl (Exists.intro [.int x1] (Exists.intro 0 (Exists.intro [.int x9] (Exists.intro _ (Exists.intro (some (.int r)) (Exists.intro h2 (And.intro rfl (And.intro rfl (And.intro rfl (And.intro (Nat.le_of_ble_eq_true rfl) (And.intro hc e))))))))))))
theorem bC_53_65 {d : Nat} {Q : Option Value → ai_H → Prop} {h : ai_H} {x1 x2 x3 x4 x5 x6 x7 x8 x9 y0 y1 : Int32} {o10 o11 o12 : Option Value} (kt : y1 ≤ y0 → RC d 53 Q 170 [some (.ref 23), some (.int x1), some (.int x2), some (.int x3), some (.int x4), some (.int x5), some (.int x6), some (.int x7), some (.int x8), some (.int x9), o10, o11, o12] [] h) (kf : ¬ y1 ≤ y0 → RC d 53 Q 68 [some (.ref 23), some (.int x1), some (.int x2), some (.int x3), some (.int x4), some (.int x5), some (.int x6), some (.int x7), some (.int x8), some (.int x9), o10, o11, o12] [] h) : RC d 53 Q 65 [some (.ref 23), some (.int x1), some (.int x2), some (.int x3), some (.int x4), some (.int x5), some (.int x6), some (.int x7), some (.int x8), some (.int x9), o10, o11, o12] [.int y1, .int y0] h := by
  by_cases c : y1 ≤ y0
  · obtain ⟨n, e⟩ := kt c
    exact Exists.intro (n + 1) (Or.inl (And.intro c e))
  · obtain ⟨n, e⟩ := kf c
    exact Exists.intro (n + 1) (Or.inr (And.intro c e))
theorem bC_53_68 {d : Nat} {Q : Option Value → ai_H → Prop} {h : ai_H} {x1 x2 x3 x4 x5 x6 x7 x8 x9 : Int32} {o10 o11 o12 : Option Value} (kt : ¬ x6 = 0 → RC d 53 Q 170 [some (.ref 23), some (.int x1), some (.int x2), some (.int x3), some (.int x4), some (.int x5), some (.int x6), some (.int x7), some (.int x8), some (.int x9), o10, o11, o12] [] h) (kf : x6 = 0 → RC d 53 Q 73 [some (.ref 23), some (.int x1), some (.int x2), some (.int x3), some (.int x4), some (.int x5), some (.int x6), some (.int x7), some (.int x8), some (.int x9), o10, o11, o12] [] h) : RC d 53 Q 68 [some (.ref 23), some (.int x1), some (.int x2), some (.int x3), some (.int x4), some (.int x5), some (.int x6), some (.int x7), some (.int x8), some (.int x9), o10, o11, o12] [] h := by
  by_cases c : x6 = 0
  · obtain ⟨n, e⟩ := kf c
    exact Exists.intro (n + 2) (Or.inr (And.intro (fun z => z c) e))
  · obtain ⟨n, e⟩ := kt c
    exact Exists.intro (n + 2) (Or.inl (And.intro c e))
theorem bC_53_73 {d : Nat} {Q : Option Value → ai_H → Prop} {h h2 : ai_H} {x1 x2 x3 x4 x5 x6 x7 x8 x9 r : Int32} {o10 o11 o12 : Option Value} (hc : CC d 65 [.ref 12, .int x8, .int x9] h (some (.int r)) h2) (k : RC d 53 Q 84 [some (.ref 23), some (.int x1), some (.int x2), some (.int x3), some (.int x4), some (.int x5), some (.int x6), some (.int x7), some (.int x8), some (.int x9), o10, o11, o12] [.int r] h2) : RC d 53 Q 73 [some (.ref 23), some (.int x1), some (.int x2), some (.int x3), some (.int x4), some (.int x5), some (.int x6), some (.int x7), some (.int x8), some (.int x9), o10, o11, o12] [] h := by
  obtain ⟨n, e⟩ := k
  exact Exists.intro (n + 5) (And.intro rfl (Exists.intro [.int x8, .int x9] (Exists.intro 12 (Exists.intro [] (Exists.intro _ (Exists.intro (some (.int r)) (Exists.intro h2 (And.intro rfl (And.intro rfl (And.intro rfl (And.intro (Nat.le_of_ble_eq_true rfl) (And.intro hc e))))))))))))
theorem bC_53_84 {d : Nat} {Q : Option Value → ai_H → Prop} {h : ai_H} {x1 x2 x3 x4 x5 x6 x7 x8 x9 y0 : Int32} {o10 o11 o12 : Option Value} (k : RC d 53 Q 89 [some (.ref 23), some (.int x1), some (.int x2), some (.int x3), some (.int x4), some (.int x5), some (.int x6), some (.int x7), some (.int x8), some (.int x9), some (.int y0), some (.int 0), o12] [] h) : RC d 53 Q 84 [some (.ref 23), some (.int x1), some (.int x2), some (.int x3), some (.int x4), some (.int x5), some (.int x6), some (.int x7), some (.int x8), some (.int x9), o10, o11, o12] [.int y0] h := by
  obtain ⟨n, e⟩ := k
  exact Exists.intro (n + 3) (Exists.intro _ (And.intro rfl (Exists.intro _ (And.intro rfl (e)))))
theorem bC_53_89 {d : Nat} {Q : Option Value → ai_H → Prop} {h h2 : ai_H} {x1 x2 x3 x4 x5 x6 x7 x8 x9 x10 x11 r : Int32} {o12 : Option Value} (hc : CC d 10 [.ref 0, .int x1, .int x9] h (some (.int r)) h2) (k : RC d 53 Q 101 [some (.ref 23), some (.int x1), some (.int x2), some (.int x3), some (.int x4), some (.int x5), some (.int x6), some (.int x7), some (.int x8), some (.int x9), some (.int x10), some (.int x11), o12] [.int r, .int x11] h2) : RC d 53 Q 89 [some (.ref 23), some (.int x1), some (.int x2), some (.int x3), some (.int x4), some (.int x5), some (.int x6), some (.int x7), some (.int x8), some (.int x9), some (.int x10), some (.int x11), o12] [] h := by
  obtain ⟨n, e⟩ := k
  exact Exists.intro (n + 6) (And.intro rfl (Exists.intro [.int x1, .int x9] (Exists.intro 0 (Exists.intro [.int x11] (Exists.intro _ (Exists.intro (some (.int r)) (Exists.intro h2 (And.intro rfl (And.intro rfl (And.intro rfl (And.intro (Nat.le_of_ble_eq_true rfl) (And.intro hc e))))))))))))
theorem bC_53_101 {d : Nat} {Q : Option Value → ai_H → Prop} {h : ai_H} {x1 x2 x3 x4 x5 x6 x7 x8 x9 x10 x11 y0 y1 : Int32} {o12 : Option Value} (kt : y1 ≤ y0 → RC d 53 Q 164 [some (.ref 23), some (.int x1), some (.int x2), some (.int x3), some (.int x4), some (.int x5), some (.int x6), some (.int x7), some (.int x8), some (.int x9), some (.int x10), some (.int x11), o12] [] h) (kf : ¬ y1 ≤ y0 → RC d 53 Q 104 [some (.ref 23), some (.int x1), some (.int x2), some (.int x3), some (.int x4), some (.int x5), some (.int x6), some (.int x7), some (.int x8), some (.int x9), some (.int x10), some (.int x11), o12] [] h) : RC d 53 Q 101 [some (.ref 23), some (.int x1), some (.int x2), some (.int x3), some (.int x4), some (.int x5), some (.int x6), some (.int x7), some (.int x8), some (.int x9), some (.int x10), some (.int x11), o12] [.int y1, .int y0] h := by
  by_cases c : y1 ≤ y0
  · obtain ⟨n, e⟩ := kt c
    exact Exists.intro (n + 1) (Or.inl (And.intro c e))
  · obtain ⟨n, e⟩ := kf c
    exact Exists.intro (n + 1) (Or.inr (And.intro c e))
theorem bC_53_104 {d : Nat} {Q : Option Value → ai_H → Prop} {h h2 : ai_H} {x1 x2 x3 x4 x5 x6 x7 x8 x9 x10 x11 r : Int32} {o12 : Option Value} (hc : CC d 97 [.int x10] h (some (.int r)) h2) (k : RC d 53 Q 109 [some (.ref 23), some (.int x1), some (.int x2), some (.int x3), some (.int x4), some (.int x5), some (.int x6), some (.int x7), some (.int x8), some (.int x9), some (.int x10), some (.int x11), o12] [.int r] h2) : RC d 53 Q 104 [some (.ref 23), some (.int x1), some (.int x2), some (.int x3), some (.int x4), some (.int x5), some (.int x6), some (.int x7), some (.int x8), some (.int x9), some (.int x10), some (.int x11), o12] [] h := by
  obtain ⟨n, e⟩ := k
  exact Exists.intro (n + 2) (Exists.intro [.int x10] (Exists.intro [] (Exists.intro (some (.int r)) (Exists.intro h2 (And.intro rfl (And.intro rfl (And.intro (Nat.le_of_ble_eq_true rfl) (And.intro hc e))))))))
theorem bC_53_109 {d : Nat} {Q : Option Value → ai_H → Prop} {h : ai_H} {x1 x2 x3 x4 x5 x6 x7 x8 x9 x10 x11 y0 : Int32} {o12 : Option Value} (kt : ¬ y0 = 0 → RC d 53 Q 164 [some (.ref 23), some (.int x1), some (.int x2), some (.int x3), some (.int x4), some (.int x5), some (.int x6), some (.int x7), some (.int x8), some (.int x9), some (.int x10), some (.int x11), o12] [] h) (kf : y0 = 0 → RC d 53 Q 112 [some (.ref 23), some (.int x1), some (.int x2), some (.int x3), some (.int x4), some (.int x5), some (.int x6), some (.int x7), some (.int x8), some (.int x9), some (.int x10), some (.int x11), o12] [] h) : RC d 53 Q 109 [some (.ref 23), some (.int x1), some (.int x2), some (.int x3), some (.int x4), some (.int x5), some (.int x6), some (.int x7), some (.int x8), some (.int x9), some (.int x10), some (.int x11), o12] [.int y0] h := by
  by_cases c : y0 = 0
  · obtain ⟨n, e⟩ := kf c
    exact Exists.intro (n + 1) (Or.inr (And.intro (fun z => z c) e))
  · obtain ⟨n, e⟩ := kt c
    exact Exists.intro (n + 1) (Or.inl (And.intro c e))
theorem bC_53_112 {d : Nat} {Q : Option Value → ai_H → Prop} {h h2 : ai_H} {x1 x2 x3 x4 x5 x6 x7 x8 x9 x10 x11 r : Int32} {o12 : Option Value} (hc : CC d 11 [.ref 0, .int x1, .int x9, .int x11] h (some (.int r)) h2) (k : RC d 53 Q 128 [some (.ref 23), some (.int x1), some (.int x2), some (.int x3), some (.int x4), some (.int x5), some (.int x6), some (.int x7), some (.int x8), some (.int x9), some (.int x10), some (.int x11), o12] [.int r, .ref 21] h2) : RC d 53 Q 112 [some (.ref 23), some (.int x1), some (.int x2), some (.int x3), some (.int x4), some (.int x5), some (.int x6), some (.int x7), some (.int x8), some (.int x9), some (.int x10), some (.int x11), o12] [] h := by
  obtain ⟨n, e⟩ := k
  exact Exists.intro (n + 8) (And.intro rfl (And.intro rfl (Exists.intro [.int x1, .int x9, .int x11] (Exists.intro 0 (Exists.intro [.ref 21] (Exists.intro _ (Exists.intro (some (.int r)) (Exists.intro h2 (And.intro rfl (And.intro rfl (And.intro rfl (And.intro (Nat.le_of_ble_eq_true rfl) (And.intro hc e)))))))))))))
theorem bC_53_128 {d : Nat} {Q : Option Value → ai_H → Prop} {h h2 : ai_H} {x1 x2 x3 x4 x5 x6 x7 x8 x9 x10 x11 y1 r : Int32} {o12 : Option Value} (hc : CC d 19 [.ref 21, .int y1, .int x8, .int 0] h (some (.int r)) h2) (k : RC d 53 Q 134 [some (.ref 23), some (.int x1), some (.int x2), some (.int x3), some (.int x4), some (.int x5), some (.int x6), some (.int x7), some (.int x8), some (.int x9), some (.int x10), some (.int x11), o12] [.int r] h2) : RC d 53 Q 128 [some (.ref 23), some (.int x1), some (.int x2), some (.int x3), some (.int x4), some (.int x5), some (.int x6), some (.int x7), some (.int x8), some (.int x9), some (.int x10), some (.int x11), o12] [.int y1, .ref 21] h := by
  obtain ⟨n, e⟩ := k
  exact Exists.intro (n + 3) (Exists.intro [.int y1, .int x8, .int 0] (Exists.intro 21 (Exists.intro [] (Exists.intro _ (Exists.intro (some (.int r)) (Exists.intro h2 (And.intro rfl (And.intro rfl (And.intro rfl (And.intro (Nat.le_of_ble_eq_true rfl) (And.intro hc e)))))))))))
theorem bC_53_134 {d : Nat} {Q : Option Value → ai_H → Prop} {h h2 : ai_H} {x1 x2 x3 x4 x5 x6 x7 x8 x9 x10 x11 y0 r : Int32} {o12 : Option Value} (hc : CC d 98 [.int x10] h (some (.int r)) h2) (k : RC d 53 Q 145 [some (.ref 23), some (.int x1), some (.int x2), some (.int x3), some (.int x4), some (.int x5), some (.int x6), some (.int x7), some (.int x8), some (.int x9), some (.int x10), some (.int x11), some (.int y0)] [.int r, .ref 22] h2) : RC d 53 Q 134 [some (.ref 23), some (.int x1), some (.int x2), some (.int x3), some (.int x4), some (.int x5), some (.int x6), some (.int x7), some (.int x8), some (.int x9), some (.int x10), some (.int x11), o12] [.int y0] h := by
  obtain ⟨n, e⟩ := k
  exact Exists.intro (n + 5) (Exists.intro _ (And.intro rfl (And.intro rfl (Exists.intro [.int x10] (Exists.intro [.ref 22] (Exists.intro (some (.int r)) (Exists.intro h2 (And.intro rfl (And.intro rfl (And.intro (Nat.le_of_ble_eq_true rfl) (And.intro hc e)))))))))))
theorem bC_53_145 {d : Nat} {Q : Option Value → ai_H → Prop} {h h2 : ai_H} {x1 x2 x3 x4 x5 x6 x7 x8 x9 x10 x11 x12 y1 r : Int32} (hc : CC d 25 [.ref 22, .int y1, .int x12, .int 0] h (some (.int r)) h2) (k : RC d 53 Q 151 [some (.ref 23), some (.int x1), some (.int x2), some (.int x3), some (.int x4), some (.int x5), some (.int x6), some (.int x7), some (.int x8), some (.int x9), some (.int x10), some (.int x11), some (.int x12)] [.int r] h2) : RC d 53 Q 145 [some (.ref 23), some (.int x1), some (.int x2), some (.int x3), some (.int x4), some (.int x5), some (.int x6), some (.int x7), some (.int x8), some (.int x9), some (.int x10), some (.int x11), some (.int x12)] [.int y1, .ref 22] h := by
  obtain ⟨n, e⟩ := k
  exact Exists.intro (n + 3) (Exists.intro [.int y1, .int x12, .int 0] (Exists.intro 22 (Exists.intro [] (Exists.intro _ (Exists.intro (some (.int r)) (Exists.intro h2 (And.intro rfl (And.intro rfl (And.intro rfl (And.intro (Nat.le_of_ble_eq_true rfl) (And.intro hc e)))))))))))
theorem bC_53_151 {d : Nat} {Q : Option Value → ai_H → Prop} {h : ai_H} {x1 x2 x3 x4 x5 x6 x7 x8 x9 x10 x11 x12 y0 : Int32} (kt : ¬ y0 = 0 → RC d 53 Q 158 [some (.ref 23), some (.int x1), some (.int x2), some (.int x3), some (.int x4), some (.int x5), some (.int x6), some (.int x7), some (.int x8), some (.int x9), some (.int x10), some (.int x11), some (.int x12)] [] h) (kf : y0 = 0 → RC d 53 Q 154 [some (.ref 23), some (.int x1), some (.int x2), some (.int x3), some (.int x4), some (.int x5), some (.int x6), some (.int x7), some (.int x8), some (.int x9), some (.int x10), some (.int x11), some (.int x12)] [] h) : RC d 53 Q 151 [some (.ref 23), some (.int x1), some (.int x2), some (.int x3), some (.int x4), some (.int x5), some (.int x6), some (.int x7), some (.int x8), some (.int x9), some (.int x10), some (.int x11), some (.int x12)] [.int y0] h := by
  by_cases c : y0 = 0
  · obtain ⟨n, e⟩ := kf c
    exact Exists.intro (n + 1) (Or.inr (And.intro (fun z => z c) e))
  · obtain ⟨n, e⟩ := kt c
    exact Exists.intro (n + 1) (Or.inl (And.intro c e))
theorem bC_53_154 {d : Nat} {Q : Option Value → ai_H → Prop} {h : ai_H} {x1 x2 x3 x4 x5 x6 x7 x8 x9 x10 x11 x12 : Int32} (k : RC d 53 Q 158 [some (.ref 23), some (.int x1), some (.int x2), some (.int x3), some (.int x4), some (.int x5), some (.int 13), some (.int x7), some (.int x8), some (.int x9), some (.int x10), some (.int x11), some (.int x12)] [] h) : RC d 53 Q 154 [some (.ref 23), some (.int x1), some (.int x2), some (.int x3), some (.int x4), some (.int x5), some (.int x6), some (.int x7), some (.int x8), some (.int x9), some (.int x10), some (.int x11), some (.int x12)] [] h := by
  obtain ⟨n, e⟩ := k
  exact Exists.intro (n + 2) (Exists.intro _ (And.intro rfl (e)))
theorem bC_53_158 {d : Nat} {Q : Option Value → ai_H → Prop} {h : ai_H} {x1 x2 x3 x4 x5 x6 x7 x8 x9 x10 x11 x12 : Int32} (k : RC d 53 Q 89 [some (.ref 23), some (.int x1), some (.int x2), some (.int x3), some (.int x4), some (.int x5), some (.int x6), some (.int x7), some (.int x8), some (.int x9), some (.int x10), some (.int (x11 + 1)), some (.int x12)] [] h) : RC d 53 Q 158 [some (.ref 23), some (.int x1), some (.int x2), some (.int x3), some (.int x4), some (.int x5), some (.int x6), some (.int x7), some (.int x8), some (.int x9), some (.int x10), some (.int x11), some (.int x12)] [] h := by
  obtain ⟨n, e⟩ := k
  exact Exists.intro (n + 2) (Exists.intro _ (And.intro rfl (e)))
theorem bC_53_164 {d : Nat} {Q : Option Value → ai_H → Prop} {h : ai_H} {x1 x2 x3 x4 x5 x6 x7 x8 x9 x10 x11 : Int32} {o12 : Option Value} (k : RC d 53 Q 55 [some (.ref 23), some (.int x1), some (.int x2), some (.int x3), some (.int x4), some (.int x5), some (.int x6), some (.int x7), some (.int x8), some (.int (x9 + 1)), some (.int x10), some (.int x11), o12] [] h) : RC d 53 Q 164 [some (.ref 23), some (.int x1), some (.int x2), some (.int x3), some (.int x4), some (.int x5), some (.int x6), some (.int x7), some (.int x8), some (.int x9), some (.int x10), some (.int x11), o12] [] h := by
  obtain ⟨n, e⟩ := k
  exact Exists.intro (n + 2) (Exists.intro _ (And.intro rfl (e)))
theorem bC_53_170 {d : Nat} {Q : Option Value → ai_H → Prop} {h h2 : ai_H} {x1 x2 x3 x4 x5 x6 x7 x8 x9 : Int32} {o10 o11 o12 : Option Value} (hc : CC d 72 [.ref 12, .int x7] h (none) h2) (k : RC d 53 Q 179 [some (.ref 23), some (.int x1), some (.int x2), some (.int x3), some (.int x4), some (.int x5), some (.int x6), some (.int x7), some (.int x8), some (.int x9), o10, o11, o12] [] h2) : RC d 53 Q 170 [some (.ref 23), some (.int x1), some (.int x2), some (.int x3), some (.int x4), some (.int x5), some (.int x6), some (.int x7), some (.int x8), some (.int x9), o10, o11, o12] [] h := by
  obtain ⟨n, e⟩ := k
  exact Exists.intro (n + 4) (And.intro rfl (Exists.intro [.int x7] (Exists.intro 12 (Exists.intro [] (Exists.intro _ (Exists.intro (none) (Exists.intro h2 (And.intro rfl (And.intro rfl (And.intro rfl (And.intro (Nat.le_of_ble_eq_true rfl) (And.intro hc e))))))))))))
theorem bC_53_179 {d : Nat} {Q : Option Value → ai_H → Prop} {h : ai_H} {x1 x2 x3 x4 x5 x6 x7 x8 x9 : Int32} {o10 o11 o12 : Option Value} (k : Q (some (.int x6)) h) : RC d 53 Q 179 [some (.ref 23), some (.int x1), some (.int x2), some (.int x3), some (.int x4), some (.int x5), some (.int x6), some (.int x7), some (.int x8), some (.int x9), o10, o11, o12] [] h := Exists.intro 2 (And.intro (Or.inl rfl) k)
theorem bC_54_0 {d : Nat} {Q : Option Value → ai_H → Prop} {h : ai_H} {x1 x2 x3 x4 x5 : Int32} (kt : ¬ x3 = (-1) → RC d 54 Q 9 [some (.ref 23), some (.int x1), some (.int x2), some (.int x3), some (.int x4), some (.int x5), none, none, none] [] h) (kf : x3 = (-1) → RC d 54 Q 5 [some (.ref 23), some (.int x1), some (.int x2), some (.int x3), some (.int x4), some (.int x5), none, none, none] [] h) : RC d 54 Q 0 [some (.ref 23), some (.int x1), some (.int x2), some (.int x3), some (.int x4), some (.int x5), none, none, none] [] h := by
  by_cases c : x3 = (-1)
  · obtain ⟨n, e⟩ := kf c
    exact Exists.intro (n + 3) (Or.inr (And.intro (fun z => z c) e))
  · obtain ⟨n, e⟩ := kt c
    exact Exists.intro (n + 3) (Or.inl (And.intro c e))
theorem bC_54_5 {d : Nat} {Q : Option Value → ai_H → Prop} {h : ai_H} {x1 x2 x3 x4 x5 : Int32} (k : RC d 54 Q 10 [some (.ref 23), some (.int x1), some (.int x2), some (.int x3), some (.int x4), some (.int x5), none, none, none] [.int 0] h) : RC d 54 Q 5 [some (.ref 23), some (.int x1), some (.int x2), some (.int x3), some (.int x4), some (.int x5), none, none, none] [] h := by
  obtain ⟨n, e⟩ := k
  exact Exists.intro (n + 2) (e)
theorem bC_54_9 {d : Nat} {Q : Option Value → ai_H → Prop} {h : ai_H} {x1 x2 x3 x4 x5 : Int32} (k : RC d 54 Q 10 [some (.ref 23), some (.int x1), some (.int x2), some (.int x3), some (.int x4), some (.int x5), none, none, none] [.int 1] h) : RC d 54 Q 9 [some (.ref 23), some (.int x1), some (.int x2), some (.int x3), some (.int x4), some (.int x5), none, none, none] [] h := by
  obtain ⟨n, e⟩ := k
  exact Exists.intro (n + 1) (e)
theorem bC_54_10 {d : Nat} {Q : Option Value → ai_H → Prop} {h : ai_H} {x1 x2 x3 x4 x5 y0 : Int32} (kt : ¬ x4 = (-1) → RC d 54 Q 20 [some (.ref 23), some (.int x1), some (.int x2), some (.int x3), some (.int x4), some (.int x5), none, none, none] [.int y0] h) (kf : x4 = (-1) → RC d 54 Q 16 [some (.ref 23), some (.int x1), some (.int x2), some (.int x3), some (.int x4), some (.int x5), none, none, none] [.int y0] h) : RC d 54 Q 10 [some (.ref 23), some (.int x1), some (.int x2), some (.int x3), some (.int x4), some (.int x5), none, none, none] [.int y0] h := by
  by_cases c : x4 = (-1)
  · obtain ⟨n, e⟩ := kf c
    exact Exists.intro (n + 3) (Or.inr (And.intro (fun z => z c) e))
  · obtain ⟨n, e⟩ := kt c
    exact Exists.intro (n + 3) (Or.inl (And.intro c e))
theorem bC_54_16 {d : Nat} {Q : Option Value → ai_H → Prop} {h : ai_H} {x1 x2 x3 x4 x5 y0 : Int32} (k : RC d 54 Q 21 [some (.ref 23), some (.int x1), some (.int x2), some (.int x3), some (.int x4), some (.int x5), none, none, none] [.int 0, .int y0] h) : RC d 54 Q 16 [some (.ref 23), some (.int x1), some (.int x2), some (.int x3), some (.int x4), some (.int x5), none, none, none] [.int y0] h := by
  obtain ⟨n, e⟩ := k
  exact Exists.intro (n + 2) (e)
theorem bC_54_20 {d : Nat} {Q : Option Value → ai_H → Prop} {h : ai_H} {x1 x2 x3 x4 x5 y0 : Int32} (k : RC d 54 Q 21 [some (.ref 23), some (.int x1), some (.int x2), some (.int x3), some (.int x4), some (.int x5), none, none, none] [.int 1, .int y0] h) : RC d 54 Q 20 [some (.ref 23), some (.int x1), some (.int x2), some (.int x3), some (.int x4), some (.int x5), none, none, none] [.int y0] h := by
  obtain ⟨n, e⟩ := k
  exact Exists.intro (n + 1) (e)
theorem bC_54_21 {d : Nat} {Q : Option Value → ai_H → Prop} {h : ai_H} {x1 x2 x3 x4 x5 y0 y1 : Int32} (kt : ¬ x5 = (-1) → RC d 54 Q 32 [some (.ref 23), some (.int x1), some (.int x2), some (.int x3), some (.int x4), some (.int x5), none, none, none] [.int (y0 + y1)] h) (kf : x5 = (-1) → RC d 54 Q 28 [some (.ref 23), some (.int x1), some (.int x2), some (.int x3), some (.int x4), some (.int x5), none, none, none] [.int (y0 + y1)] h) : RC d 54 Q 21 [some (.ref 23), some (.int x1), some (.int x2), some (.int x3), some (.int x4), some (.int x5), none, none, none] [.int y1, .int y0] h := by
  by_cases c : x5 = (-1)
  · obtain ⟨n, e⟩ := kf c
    exact Exists.intro (n + 4) (Or.inr (And.intro (fun z => z c) e))
  · obtain ⟨n, e⟩ := kt c
    exact Exists.intro (n + 4) (Or.inl (And.intro c e))
theorem bC_54_28 {d : Nat} {Q : Option Value → ai_H → Prop} {h : ai_H} {x1 x2 x3 x4 x5 y0 : Int32} (k : RC d 54 Q 33 [some (.ref 23), some (.int x1), some (.int x2), some (.int x3), some (.int x4), some (.int x5), none, none, none] [.int 0, .int y0] h) : RC d 54 Q 28 [some (.ref 23), some (.int x1), some (.int x2), some (.int x3), some (.int x4), some (.int x5), none, none, none] [.int y0] h := by
  obtain ⟨n, e⟩ := k
  exact Exists.intro (n + 2) (e)
theorem bC_54_32 {d : Nat} {Q : Option Value → ai_H → Prop} {h : ai_H} {x1 x2 x3 x4 x5 y0 : Int32} (k : RC d 54 Q 33 [some (.ref 23), some (.int x1), some (.int x2), some (.int x3), some (.int x4), some (.int x5), none, none, none] [.int 1, .int y0] h) : RC d 54 Q 32 [some (.ref 23), some (.int x1), some (.int x2), some (.int x3), some (.int x4), some (.int x5), none, none, none] [.int y0] h := by
  obtain ⟨n, e⟩ := k
  exact Exists.intro (n + 1) (e)
theorem bC_54_33 {d : Nat} {Q : Option Value → ai_H → Prop} {h : ai_H} {x1 x2 x3 x4 x5 y0 y1 : Int32} (kt : (y0 + y1) ≤ 0 → RC d 54 Q 57 [some (.ref 23), some (.int x1), some (.int x2), some (.int x3), some (.int x4), some (.int x5), some (.int (y0 + y1)), none, none] [] h) (kf : ¬ (y0 + y1) ≤ 0 → RC d 54 Q 41 [some (.ref 23), some (.int x1), some (.int x2), some (.int x3), some (.int x4), some (.int x5), some (.int (y0 + y1)), none, none] [] h) : RC d 54 Q 33 [some (.ref 23), some (.int x1), some (.int x2), some (.int x3), some (.int x4), some (.int x5), none, none, none] [.int y1, .int y0] h := by
  by_cases c : (y0 + y1) ≤ 0
  · obtain ⟨n, e⟩ := kt c
    exact Exists.intro (n + 4) (Exists.intro _ (And.intro rfl (Or.inl (And.intro c e))))
  · obtain ⟨n, e⟩ := kf c
    exact Exists.intro (n + 4) (Exists.intro _ (And.intro rfl (Or.inr (And.intro c e))))
theorem bC_54_41 {d : Nat} {Q : Option Value → ai_H → Prop} {h h2 : ai_H} {x1 x2 x3 x4 x5 x6 r : Int32} (hc : CC d 5 [.ref 0, .int x1] h (some (.int r)) h2) (k : RC d 54 Q 51 [some (.ref 23), some (.int x1), some (.int x2), some (.int x3), some (.int x4), some (.int x5), some (.int x6), none, none] [.int r, .int x6] h2) : RC d 54 Q 41 [some (.ref 23), some (.int x1), some (.int x2), some (.int x3), some (.int x4), some (.int x5), some (.int x6), none, none] [] h := by
  obtain ⟨n, e⟩ := k
  exact Exists.intro (n + 5) (And.intro rfl (Exists.intro [.int x1] (Exists.intro 0 (Exists.intro [.int x6] (Exists.intro _ (Exists.intro (some (.int r)) (Exists.intro h2 (And.intro rfl (And.intro rfl (And.intro rfl (And.intro (Nat.le_of_ble_eq_true rfl) (And.intro hc e))))))))))))
theorem bC_54_51 {d : Nat} {Q : Option Value → ai_H → Prop} {h : ai_H} {x1 x2 x3 x4 x5 x6 y0 y1 : Int32} (kt : y0 = y1 → RC d 54 Q 57 [some (.ref 23), some (.int x1), some (.int x2), some (.int x3), some (.int x4), some (.int x5), some (.int x6), none, none] [] h) (kf : ¬ y0 = y1 → RC d 54 Q 54 [some (.ref 23), some (.int x1), some (.int x2), some (.int x3), some (.int x4), some (.int x5), some (.int x6), none, none] [] h) : RC d 54 Q 51 [some (.ref 23), some (.int x1), some (.int x2), some (.int x3), some (.int x4), some (.int x5), some (.int x6), none, none] [.int y1, .int y0] h := by
  by_cases c : y0 = y1
  · obtain ⟨n, e⟩ := kt c
    exact Exists.intro (n + 1) (Or.inl (And.intro c e))
  · obtain ⟨n, e⟩ := kf c
    exact Exists.intro (n + 1) (Or.inr (And.intro c e))
theorem bC_54_54 {d : Nat} {Q : Option Value → ai_H → Prop} {h : ai_H} {x1 x2 x3 x4 x5 x6 : Int32} (k : Q (some (.int 10)) h) : RC d 54 Q 54 [some (.ref 23), some (.int x1), some (.int x2), some (.int x3), some (.int x4), some (.int x5), some (.int x6), none, none] [] h := Exists.intro 2 (And.intro (Or.inl rfl) k)
theorem bC_54_57 {d : Nat} {Q : Option Value → ai_H → Prop} {h h2 : ai_H} {x1 x2 x3 x4 x5 x6 r : Int32} (hc : CC d 6 [.ref 0, .int x1] h (some (.int r)) h2) (k : RC d 54 Q 65 [some (.ref 23), some (.int x1), some (.int x2), some (.int x3), some (.int x4), some (.int x5), some (.int x6), none, none] [.int r] h2) : RC d 54 Q 57 [some (.ref 23), some (.int x1), some (.int x2), some (.int x3), some (.int x4), some (.int x5), some (.int x6), none, none] [] h := by
  obtain ⟨n, e⟩ := k
  exact Exists.intro (n + 4) (And.intro rfl (Exists.intro [.int x1] (Exists.intro 0 (Exists.intro [] (Exists.intro _ (Exists.intro (some (.int r)) (Exists.intro h2 (And.intro rfl (And.intro rfl (And.intro rfl (And.intro (Nat.le_of_ble_eq_true rfl) (And.intro hc e))))))))))))
theorem bC_54_65 {d : Nat} {Q : Option Value → ai_H → Prop} {h h2 : ai_H} {x1 x2 x3 x4 x5 x6 y0 r : Int32} (hc : CC d 60 [.ref 12, .int x2] h (some (.int r)) h2) (k : RC d 54 Q 75 [some (.ref 23), some (.int x1), some (.int x2), some (.int x3), some (.int x4), some (.int x5), some (.int x6), some (.int y0), none] [.int r] h2) : RC d 54 Q 65 [some (.ref 23), some (.int x1), some (.int x2), some (.int x3), some (.int x4), some (.int x5), some (.int x6), none, none] [.int y0] h := by
  obtain ⟨n, e⟩ := k
  exact Exists.intro (n + 5) (Exists.intro _ (And.intro rfl (And.intro rfl (Exists.intro [.int x2] (Exists.intro 12 (Exists.intro [] (Exists.intro _ (Exists.intro (some (.int r)) (Exists.intro h2 (And.intro rfl (And.intro rfl (And.intro rfl (And.intro (Nat.le_of_ble_eq_true rfl) (And.intro hc e))))))))))))))
theorem bC_54_75 {d : Nat} {Q : Option Value → ai_H → Prop} {h : ai_H} {x1 x2 x3 x4 x5 x6 x7 y0 : Int32} (kt : ¬ y0 = 5 → RC d 54 Q 96 [some (.ref 23), some (.int x1), some (.int x2), some (.int x3), some (.int x4), some (.int x5), some (.int x6), some (.int x7), none] [] h) (kf : y0 = 5 → RC d 54 Q 79 [some (.ref 23), some (.int x1), some (.int x2), some (.int x3), some (.int x4), some (.int x5), some (.int x6), some (.int x7), none] [] h) : RC d 54 Q 75 [some (.ref 23), some (.int x1), some (.int x2), some (.int x3), some (.int x4), some (.int x5), some (.int x6), some (.int x7), none] [.int y0] h := by
  by_cases c : y0 = 5
  · obtain ⟨n, e⟩ := kf c
    exact Exists.intro (n + 2) (Or.inr (And.intro (fun z => z c) e))
  · obtain ⟨n, e⟩ := kt c
    exact Exists.intro (n + 2) (Or.inl (And.intro c e))
theorem bC_54_79 {d : Nat} {Q : Option Value → ai_H → Prop} {h h2 : ai_H} {x1 x2 x3 x4 x5 x6 x7 r : Int32} (hc : CC d 61 [.ref 12, .int x2] h (some (.int r)) h2) (k : RC d 54 Q 87 [some (.ref 23), some (.int x1), some (.int x2), some (.int x3), some (.int x4), some (.int x5), some (.int x6), some (.int x7), none] [.int r] h2) : RC d 54 Q 79 [some (.ref 23), some (.int x1), some (.int x2), some (.int x3), some (.int x4), some (.int x5), some (.int x6), some (.int x7), none] [] h := by
  obtain ⟨n, e⟩ := k
  exact Exists.intro (n + 4) (And.intro rfl (Exists.intro [.int x2] (Exists.intro 12 (Exists.intro [] (Exists.intro _ (Exists.intro (some (.int r)) (Exists.intro h2 (And.intro rfl (And.intro rfl (And.intro rfl (And.intro (Nat.le_of_ble_eq_true rfl) (And.intro hc e))))))))))))
theorem bC_54_87 {d : Nat} {Q : Option Value → ai_H → Prop} {h : ai_H} {x1 x2 x3 x4 x5 x6 x7 y0 : Int32} (kt : ¬ y0 = x7 → RC d 54 Q 96 [some (.ref 23), some (.int x1), some (.int x2), some (.int x3), some (.int x4), some (.int x5), some (.int x6), some (.int x7), none] [] h) (kf : y0 = x7 → RC d 54 Q 92 [some (.ref 23), some (.int x1), some (.int x2), some (.int x3), some (.int x4), some (.int x5), some (.int x6), some (.int x7), none] [] h) : RC d 54 Q 87 [some (.ref 23), some (.int x1), some (.int x2), some (.int x3), some (.int x4), some (.int x5), some (.int x6), some (.int x7), none] [.int y0] h := by
  by_cases c : y0 = x7
  · obtain ⟨n, e⟩ := kf c
    exact Exists.intro (n + 2) (Or.inr (And.intro (fun z => z c) e))
  · obtain ⟨n, e⟩ := kt c
    exact Exists.intro (n + 2) (Or.inl (And.intro c e))
theorem bC_54_92 {d : Nat} {Q : Option Value → ai_H → Prop} {h : ai_H} {x1 x2 x3 x4 x5 x6 x7 : Int32} (k : RC d 54 Q 97 [some (.ref 23), some (.int x1), some (.int x2), some (.int x3), some (.int x4), some (.int x5), some (.int x6), some (.int x7), none] [.int 1] h) : RC d 54 Q 92 [some (.ref 23), some (.int x1), some (.int x2), some (.int x3), some (.int x4), some (.int x5), some (.int x6), some (.int x7), none] [] h := by
  obtain ⟨n, e⟩ := k
  exact Exists.intro (n + 2) (e)
theorem bC_54_96 {d : Nat} {Q : Option Value → ai_H → Prop} {h : ai_H} {x1 x2 x3 x4 x5 x6 x7 : Int32} (k : RC d 54 Q 97 [some (.ref 23), some (.int x1), some (.int x2), some (.int x3), some (.int x4), some (.int x5), some (.int x6), some (.int x7), none] [.int 0] h) : RC d 54 Q 96 [some (.ref 23), some (.int x1), some (.int x2), some (.int x3), some (.int x4), some (.int x5), some (.int x6), some (.int x7), none] [] h := by
  obtain ⟨n, e⟩ := k
  exact Exists.intro (n + 1) (e)
theorem bC_54_97 {d : Nat} {Q : Option Value → ai_H → Prop} {h : ai_H} {x1 x2 x3 x4 x5 x6 x7 y0 : Int32} (kt : ¬ x7 = (-1) → RC d 54 Q 113 [some (.ref 23), some (.int x1), some (.int x2), some (.int x3), some (.int x4), some (.int x5), some (.int x6), some (.int x7), some (.int y0)] [] h) (kf : x7 = (-1) → RC d 54 Q 105 [some (.ref 23), some (.int x1), some (.int x2), some (.int x3), some (.int x4), some (.int x5), some (.int x6), some (.int x7), some (.int y0)] [] h) : RC d 54 Q 97 [some (.ref 23), some (.int x1), some (.int x2), some (.int x3), some (.int x4), some (.int x5), some (.int x6), some (.int x7), none] [.int y0] h := by
  by_cases c : x7 = (-1)
  · obtain ⟨n, e⟩ := kf c
    exact Exists.intro (n + 4) (Exists.intro _ (And.intro rfl (Or.inr (And.intro (fun z => z c) e))))
  · obtain ⟨n, e⟩ := kt c
    exact Exists.intro (n + 4) (Exists.intro _ (And.intro rfl (Or.inl (And.intro c e))))
theorem bC_54_105 {d : Nat} {Q : Option Value → ai_H → Prop} {h : ai_H} {x1 x2 x3 x4 x5 x6 x7 x8 : Int32} (kt : x2 = (-1) → RC d 54 Q 121 [some (.ref 23), some (.int x1), some (.int x2), some (.int x3), some (.int x4), some (.int x5), some (.int x6), some (.int x7), some (.int x8)] [] h) (kf : ¬ x2 = (-1) → RC d 54 Q 110 [some (.ref 23), some (.int x1), some (.int x2), some (.int x3), some (.int x4), some (.int x5), some (.int x6), some (.int x7), some (.int x8)] [] h) : RC d 54 Q 105 [some (.ref 23), some (.int x1), some (.int x2), some (.int x3), some (.int x4), some (.int x5), some (.int x6), some (.int x7), some (.int x8)] [] h := by
  by_cases c : x2 = (-1)
  · obtain ⟨n, e⟩ := kt c
    exact Exists.intro (n + 3) (Or.inl (And.intro c e))
  · obtain ⟨n, e⟩ := kf c
    exact Exists.intro (n + 3) (Or.inr (And.intro c e))
theorem bC_54_110 {d : Nat} {Q : Option Value → ai_H → Prop} {h : ai_H} {x1 x2 x3 x4 x5 x6 x7 x8 : Int32} (k : RC d 54 Q 118 [some (.ref 23), some (.int x1), some (.int x2), some (.int x3), some (.int x4), some (.int x5), some (.int x6), some (.int x7), some (.int x8)] [] h) : RC d 54 Q 110 [some (.ref 23), some (.int x1), some (.int x2), some (.int x3), some (.int x4), some (.int x5), some (.int x6), some (.int x7), some (.int x8)] [] h := by
  obtain ⟨n, e⟩ := k
  exact Exists.intro (n + 1) (e)
theorem bC_54_113 {d : Nat} {Q : Option Value → ai_H → Prop} {h : ai_H} {x1 x2 x3 x4 x5 x6 x7 x8 : Int32} (kt : ¬ x8 = 0 → RC d 54 Q 121 [some (.ref 23), some (.int x1), some (.int x2), some (.int x3), some (.int x4), some (.int x5), some (.int x6), some (.int x7), some (.int x8)] [] h) (kf : x8 = 0 → RC d 54 Q 118 [some (.ref 23), some (.int x1), some (.int x2), some (.int x3), some (.int x4), some (.int x5), some (.int x6), some (.int x7), some (.int x8)] [] h) : RC d 54 Q 113 [some (.ref 23), some (.int x1), some (.int x2), some (.int x3), some (.int x4), some (.int x5), some (.int x6), some (.int x7), some (.int x8)] [] h := by
  by_cases c : x8 = 0
  · obtain ⟨n, e⟩ := kf c
    exact Exists.intro (n + 2) (Or.inr (And.intro (fun z => z c) e))
  · obtain ⟨n, e⟩ := kt c
    exact Exists.intro (n + 2) (Or.inl (And.intro c e))
theorem bC_54_118 {d : Nat} {Q : Option Value → ai_H → Prop} {h : ai_H} {x1 x2 x3 x4 x5 x6 x7 x8 : Int32} (k : Q (some (.int 11)) h) : RC d 54 Q 118 [some (.ref 23), some (.int x1), some (.int x2), some (.int x3), some (.int x4), some (.int x5), some (.int x6), some (.int x7), some (.int x8)] [] h := Exists.intro 2 (And.intro (Or.inl rfl) k)
theorem bC_54_121 {d : Nat} {Q : Option Value → ai_H → Prop} {h : ai_H} {x1 x2 x3 x4 x5 x6 x7 x8 : Int32} (kt : x6 ≤ 0 → RC d 54 Q 142 [some (.ref 23), some (.int x1), some (.int x2), some (.int x3), some (.int x4), some (.int x5), some (.int x6), some (.int x7), some (.int x8)] [] h) (kf : ¬ x6 ≤ 0 → RC d 54 Q 126 [some (.ref 23), some (.int x1), some (.int x2), some (.int x3), some (.int x4), some (.int x5), some (.int x6), some (.int x7), some (.int x8)] [] h) : RC d 54 Q 121 [some (.ref 23), some (.int x1), some (.int x2), some (.int x3), some (.int x4), some (.int x5), some (.int x6), some (.int x7), some (.int x8)] [] h := by
  by_cases c : x6 ≤ 0
  · obtain ⟨n, e⟩ := kt c
    exact Exists.intro (n + 2) (Or.inl (And.intro c e))
  · obtain ⟨n, e⟩ := kf c
    exact Exists.intro (n + 2) (Or.inr (And.intro c e))
theorem bC_54_126 {d : Nat} {Q : Option Value → ai_H → Prop} {h h2 : ai_H} {x1 x2 x3 x4 x5 x6 x7 x8 r : Int32} (hc : CC d 67 [.ref 12, .int x2] h (some (.int r)) h2) (k : RC d 54 Q 134 [some (.ref 23), some (.int x1), some (.int x2), some (.int x3), some (.int x4), some (.int x5), some (.int x6), some (.int x7), some (.int x8)] [.int r] h2) : RC d 54 Q 126 [some (.ref 23), some (.int x1), some (.int x2), some (.int x3), some (.int x4), some (.int x5), some (.int x6), some (.int x7), some (.int x8)] [] h := by
  obtain ⟨n, e⟩ := k
  exact Exists.intro (n + 4) (And.intro rfl (Exists.intro [.int x2] (Exists.intro 12 (Exists.intro [] (Exists.intro _ (Exists.intro (some (.int r)) (Exists.intro h2 (And.intro rfl (And.intro rfl (And.intro rfl (And.intro (Nat.le_of_ble_eq_true rfl) (And.intro hc e))))))))))))
theorem bC_54_134 {d : Nat} {Q : Option Value → ai_H → Prop} {h : ai_H} {x1 x2 x3 x4 x5 x6 x7 x8 y0 : Int32} (kt : y0 = 0 → RC d 54 Q 142 [some (.ref 23), some (.int x1), some (.int x2), some (.int x3), some (.int x4), some (.int x5), some (.int x6), some (.int x7), some (.int x8)] [] h) (kf : ¬ y0 = 0 → RC d 54 Q 137 [some (.ref 23), some (.int x1), some (.int x2), some (.int x3), some (.int x4), some (.int x5), some (.int x6), some (.int x7), some (.int x8)] [] h) : RC d 54 Q 134 [some (.ref 23), some (.int x1), some (.int x2), some (.int x3), some (.int x4), some (.int x5), some (.int x6), some (.int x7), some (.int x8)] [.int y0] h := by
  by_cases c : y0 = 0
  · obtain ⟨n, e⟩ := kt c
    exact Exists.intro (n + 1) (Or.inl (And.intro c e))
  · obtain ⟨n, e⟩ := kf c
    exact Exists.intro (n + 1) (Or.inr (And.intro c e))
theorem bC_54_137 {d : Nat} {Q : Option Value → ai_H → Prop} {h : ai_H} {x1 x2 x3 x4 x5 x6 x7 x8 : Int32} (k : RC d 54 Q 143 [some (.ref 23), some (.int x1), some (.int x2), some (.int x3), some (.int x4), some (.int x5), some (.int x6), some (.int x7), some (.int x8)] [.int 12] h) : RC d 54 Q 137 [some (.ref 23), some (.int x1), some (.int x2), some (.int x3), some (.int x4), some (.int x5), some (.int x6), some (.int x7), some (.int x8)] [] h := by
  obtain ⟨n, e⟩ := k
  exact Exists.intro (n + 2) (e)
theorem bC_54_142 {d : Nat} {Q : Option Value → ai_H → Prop} {h : ai_H} {x1 x2 x3 x4 x5 x6 x7 x8 : Int32} (k : RC d 54 Q 143 [some (.ref 23), some (.int x1), some (.int x2), some (.int x3), some (.int x4), some (.int x5), some (.int x6), some (.int x7), some (.int x8)] [.int 0] h) : RC d 54 Q 142 [some (.ref 23), some (.int x1), some (.int x2), some (.int x3), some (.int x4), some (.int x5), some (.int x6), some (.int x7), some (.int x8)] [] h := by
  obtain ⟨n, e⟩ := k
  exact Exists.intro (n + 1) (e)
theorem bC_54_143 {d : Nat} {Q : Option Value → ai_H → Prop} {h : ai_H} {x1 x2 x3 x4 x5 x6 x7 x8 y0 : Int32} (k : Q (some (.int y0)) h) : RC d 54 Q 143 [some (.ref 23), some (.int x1), some (.int x2), some (.int x3), some (.int x4), some (.int x5), some (.int x6), some (.int x7), some (.int x8)] [.int y0] h := Exists.intro 1 (And.intro (Or.inl rfl) k)
theorem bC_55_0 {d : Nat} {Q : Option Value → ai_H → Prop} {h : ai_H} {x1 x2 x3 x4 : Int32} (hi1 : vp_in x1 512) (hi2 : vp_in x1 512) (hi3 : vp_in x1 512) (hi4 : vp_in x1 512) (k : RC d 55 Q 32 [some (.ref 12), some (.int x1), some (.int x2), some (.int x3), some (.int x4), some (.int 0)] [] (ai_up (ai_up (ai_up (ai_up h 13 (Int32.toNatClampNeg x1) x2) 14 (Int32.toNatClampNeg x1) x3) 15 (Int32.toNatClampNeg x1) x4) 16 (Int32.toNatClampNeg x1) (-1))) : RC d 55 Q 0 [some (.ref 12), some (.int x1), some (.int x2), some (.int x3), some (.int x4), none] [] h := by
  obtain ⟨n, e⟩ := k
  exact Exists.intro (n + 22) (And.intro rfl (Exists.intro 512 (And.intro rfl (And.intro hi1 (And.intro rfl (Exists.intro 512 (And.intro rfl (And.intro hi2 (And.intro rfl (Exists.intro 512 (And.intro rfl (And.intro hi3 (And.intro rfl (Exists.intro 512 (And.intro rfl (And.intro hi4 (Exists.intro _ (And.intro rfl (e)))))))))))))))))))
theorem bC_55_32 {d : Nat} {Q : Option Value → ai_H → Prop} {h : ai_H} {x1 x2 x3 x4 x5 : Int32} (kt : 3 ≤ x5 → RC d 55 Q 56 [some (.ref 12), some (.int x1), some (.int x2), some (.int x3), some (.int x4), some (.int x5)] [] h) (kf : ¬ 3 ≤ x5 → RC d 55 Q 38 [some (.ref 12), some (.int x1), some (.int x2), some (.int x3), some (.int x4), some (.int x5)] [] h) : RC d 55 Q 32 [some (.ref 12), some (.int x1), some (.int x2), some (.int x3), some (.int x4), some (.int x5)] [] h := by
  by_cases c : 3 ≤ x5
  · obtain ⟨n, e⟩ := kt c
    exact Exists.intro (n + 3) (Or.inl (And.intro c e))
  · obtain ⟨n, e⟩ := kf c
    exact Exists.intro (n + 3) (Or.inr (And.intro c e))
theorem bC_55_38 {d : Nat} {Q : Option Value → ai_H → Prop} {h : ai_H} {x1 x2 x3 x4 x5 : Int32} (hi1 : vp_in ((x1 * 3) + x5) 1536) (k : RC d 55 Q 32 [some (.ref 12), some (.int x1), some (.int x2), some (.int x3), some (.int x4), some (.int (x5 + 1))] [] (ai_up h 17 (Int32.toNatClampNeg ((x1 * 3) + x5)) (-1))) : RC d 55 Q 38 [some (.ref 12), some (.int x1), some (.int x2), some (.int x3), some (.int x4), some (.int x5)] [] h := by
  obtain ⟨n, e⟩ := k
  exact Exists.intro (n + 11) (And.intro rfl (Exists.intro 1536 (And.intro rfl (And.intro hi1 (Exists.intro _ (And.intro rfl (e)))))))
theorem bC_55_56 {d : Nat} {Q : Option Value → ai_H → Prop} {h : ai_H} {x1 x2 x3 x4 x5 : Int32} (hi1 : vp_in x1 512) (hi2 : vp_in x1 512) (kt : ¬ x2 = 3 → RC d 55 Q 84 [some (.ref 12), some (.int x1), some (.int x2), some (.int x3), some (.int x4), some (.int x5)] [.int x1, .ref 20] (ai_up (ai_up h 18 (Int32.toNatClampNeg x1) 1) 19 (Int32.toNatClampNeg x1) 0)) (kf : x2 = 3 → RC d 55 Q 80 [some (.ref 12), some (.int x1), some (.int x2), some (.int x3), some (.int x4), some (.int x5)] [.int x1, .ref 20] (ai_up (ai_up h 18 (Int32.toNatClampNeg x1) 1) 19 (Int32.toNatClampNeg x1) 0)) : RC d 55 Q 56 [some (.ref 12), some (.int x1), some (.int x2), some (.int x3), some (.int x4), some (.int x5)] [] h := by
  by_cases c : x2 = 3
  · obtain ⟨n, e⟩ := kf c
    exact Exists.intro (n + 16) (And.intro rfl (Exists.intro 512 (And.intro rfl (And.intro hi1 (And.intro rfl (Exists.intro 512 (And.intro rfl (And.intro hi2 (And.intro (Or.inl rfl) (And.intro rfl (Or.inr (And.intro (fun z => z c) e))))))))))))
  · obtain ⟨n, e⟩ := kt c
    exact Exists.intro (n + 16) (And.intro rfl (Exists.intro 512 (And.intro rfl (And.intro hi1 (And.intro rfl (Exists.intro 512 (And.intro rfl (And.intro hi2 (And.intro (Or.inl rfl) (And.intro rfl (Or.inl (And.intro c e))))))))))))
theorem bC_55_80 {d : Nat} {Q : Option Value → ai_H → Prop} {h : ai_H} {x1 x2 x3 x4 x5 y1 : Int32} (k : RC d 55 Q 85 [some (.ref 12), some (.int x1), some (.int x2), some (.int x3), some (.int x4), some (.int x5)] [.int 1, .int y1, .ref 20] h) : RC d 55 Q 80 [some (.ref 12), some (.int x1), some (.int x2), some (.int x3), some (.int x4), some (.int x5)] [.int y1, .ref 20] h := by
  obtain ⟨n, e⟩ := k
  exact Exists.intro (n + 2) (e)
theorem bC_55_84 {d : Nat} {Q : Option Value → ai_H → Prop} {h : ai_H} {x1 x2 x3 x4 x5 y1 : Int32} (k : RC d 55 Q 85 [some (.ref 12), some (.int x1), some (.int x2), some (.int x3), some (.int x4), some (.int x5)] [.int 0, .int y1, .ref 20] h) : RC d 55 Q 84 [some (.ref 12), some (.int x1), some (.int x2), some (.int x3), some (.int x4), some (.int x5)] [.int y1, .ref 20] h := by
  obtain ⟨n, e⟩ := k
  exact Exists.intro (n + 1) (e)
theorem bC_55_85 {d : Nat} {Q : Option Value → ai_H → Prop} {h : ai_H} {x1 x2 x3 x4 x5 y1 y2 : Int32} (hi1 : vp_in y1 512) (hz2 : y2 = 0 ∨ y2 = 1) (k : Q none (ai_up h 20 (Int32.toNatClampNeg y1) y2)) : RC d 55 Q 85 [some (.ref 12), some (.int x1), some (.int x2), some (.int x3), some (.int x4), some (.int x5)] [.int y2, .int y1, .ref 20] h := Exists.intro 2 (Exists.intro 512 (And.intro rfl (And.intro hi1 (And.intro hz2 (k)))))
theorem bC_56_0 {d : Nat} {Q : Option Value → ai_H → Prop} {h : ai_H} (k : Q (some (.int (h 12 9))) h) : RC d 56 Q 0 [some (.ref 12)] [] h := Exists.intro 3 (And.intro rfl (And.intro (Or.inl rfl) k))
theorem bC_57_0 {d : Nat} {Q : Option Value → ai_H → Prop} {h : ai_H} {x1 : Int32} (kt : x1 < 0 → RC d 57 Q 16 [some (.ref 12), some (.int x1)] [] h) (kf : ¬ x1 < 0 → RC d 57 Q 4 [some (.ref 12), some (.int x1)] [] h) : RC d 57 Q 0 [some (.ref 12), some (.int x1)] [] h := by
  by_cases c : x1 < 0
  · obtain ⟨n, e⟩ := kt c
    exact Exists.intro (n + 2) (Or.inl (And.intro c e))
  · obtain ⟨n, e⟩ := kf c
    exact Exists.intro (n + 2) (Or.inr (And.intro c e))
theorem bC_57_4 {d : Nat} {Q : Option Value → ai_H → Prop} {h : ai_H} {x1 : Int32} (kt : (h 12 9) ≤ x1 → RC d 57 Q 16 [some (.ref 12), some (.int x1)] [] h) (kf : ¬ (h 12 9) ≤ x1 → RC d 57 Q 12 [some (.ref 12), some (.int x1)] [] h) : RC d 57 Q 4 [some (.ref 12), some (.int x1)] [] h := by
  by_cases c : (h 12 9) ≤ x1
  · obtain ⟨n, e⟩ := kt c
    exact Exists.intro (n + 4) (And.intro rfl (Or.inl (And.intro c e)))
  · obtain ⟨n, e⟩ := kf c
    exact Exists.intro (n + 4) (And.intro rfl (Or.inr (And.intro c e)))
theorem bC_57_12 {d : Nat} {Q : Option Value → ai_H → Prop} {h : ai_H} {x1 : Int32} (k : RC d 57 Q 17 [some (.ref 12), some (.int x1)] [.int 1] h) : RC d 57 Q 12 [some (.ref 12), some (.int x1)] [] h := by
  obtain ⟨n, e⟩ := k
  exact Exists.intro (n + 2) (e)
theorem bC_57_16 {d : Nat} {Q : Option Value → ai_H → Prop} {h : ai_H} {x1 : Int32} (k : RC d 57 Q 17 [some (.ref 12), some (.int x1)] [.int 0] h) : RC d 57 Q 16 [some (.ref 12), some (.int x1)] [] h := by
  obtain ⟨n, e⟩ := k
  exact Exists.intro (n + 1) (e)
theorem bC_57_17 {d : Nat} {Q : Option Value → ai_H → Prop} {h : ai_H} {x1 y0 : Int32} (hz : y0 = 0 ∨ y0 = 1) (k : Q (some (.int y0)) h) : RC d 57 Q 17 [some (.ref 12), some (.int x1)] [.int y0] h := Exists.intro 1 (And.intro (Or.inr hz) k)
theorem bC_58_0 {d : Nat} {Q : Option Value → ai_H → Prop} {h : ai_H} {x1 : Int32} (kt : 200 < ((h 12 9) + x1) → RC d 58 Q 16 [some (.ref 12), some (.int x1)] [] h) (kf : ¬ 200 < ((h 12 9) + x1) → RC d 58 Q 12 [some (.ref 12), some (.int x1)] [] h) : RC d 58 Q 0 [some (.ref 12), some (.int x1)] [] h := by
  by_cases c : 200 < ((h 12 9) + x1)
  · obtain ⟨n, e⟩ := kt c
    exact Exists.intro (n + 6) (And.intro rfl (Or.inl (And.intro c e)))
  · obtain ⟨n, e⟩ := kf c
    exact Exists.intro (n + 6) (And.intro rfl (Or.inr (And.intro c e)))
theorem bC_58_12 {d : Nat} {Q : Option Value → ai_H → Prop} {h : ai_H} {x1 : Int32} (k : RC d 58 Q 17 [some (.ref 12), some (.int x1)] [.int 1] h) : RC d 58 Q 12 [some (.ref 12), some (.int x1)] [] h := by
  obtain ⟨n, e⟩ := k
  exact Exists.intro (n + 2) (e)
theorem bC_58_16 {d : Nat} {Q : Option Value → ai_H → Prop} {h : ai_H} {x1 : Int32} (k : RC d 58 Q 17 [some (.ref 12), some (.int x1)] [.int 0] h) : RC d 58 Q 16 [some (.ref 12), some (.int x1)] [] h := by
  obtain ⟨n, e⟩ := k
  exact Exists.intro (n + 1) (e)
theorem bC_58_17 {d : Nat} {Q : Option Value → ai_H → Prop} {h : ai_H} {x1 y0 : Int32} (hz : y0 = 0 ∨ y0 = 1) (k : Q (some (.int y0)) h) : RC d 58 Q 17 [some (.ref 12), some (.int x1)] [.int y0] h := Exists.intro 1 (And.intro (Or.inr hz) k)
theorem bC_59_0 {d : Nat} {Q : Option Value → ai_H → Prop} {h : ai_H} {x1 x2 : Int32} (k : RC d 59 Q 8 [some (.ref 12), some (.int x1), some (.int x2), some (.int (h 12 9)), some (.int 0)] [] h) : RC d 59 Q 0 [some (.ref 12), some (.int x1), some (.int x2), none, none] [] h := by
  obtain ⟨n, e⟩ := k
  exact Exists.intro (n + 5) (And.intro rfl (Exists.intro _ (And.intro rfl (Exists.intro _ (And.intro rfl (e))))))
theorem bC_59_8 {d : Nat} {Q : Option Value → ai_H → Prop} {h : ai_H} {x1 x2 x3 x4 : Int32} (kt : x2 ≤ x4 → RC d 59 Q 52 [some (.ref 12), some (.int x1), some (.int x2), some (.int x3), some (.int x4)] [] h) (kf : ¬ x2 ≤ x4 → RC d 59 Q 14 [some (.ref 12), some (.int x1), some (.int x2), some (.int x3), some (.int x4)] [] h) : RC d 59 Q 8 [some (.ref 12), some (.int x1), some (.int x2), some (.int x3), some (.int x4)] [] h := by
  by_cases c : x2 ≤ x4
  · obtain ⟨n, e⟩ := kt c
    exact Exists.intro (n + 3) (Or.inl (And.intro c e))
  · obtain ⟨n, e⟩ := kf c
    exact Exists.intro (n + 3) (Or.inr (And.intro c e))
theorem bC_59_14 {d : Nat} {Q : Option Value → ai_H → Prop} {h : ai_H} {x1 x2 x3 x4 : Int32} (kt : 200 ≤ (h 12 9) → RC d 59 Q 52 [some (.ref 12), some (.int x1), some (.int x2), some (.int x3), some (.int x4)] [] h) (kf : ¬ 200 ≤ (h 12 9) → RC d 59 Q 24 [some (.ref 12), some (.int x1), some (.int x2), some (.int x3), some (.int x4)] [] h) : RC d 59 Q 14 [some (.ref 12), some (.int x1), some (.int x2), some (.int x3), some (.int x4)] [] h := by
  by_cases c : 200 ≤ (h 12 9)
  · obtain ⟨n, e⟩ := kt c
    exact Exists.intro (n + 4) (And.intro rfl (Or.inl (And.intro c e)))
  · obtain ⟨n, e⟩ := kf c
    exact Exists.intro (n + 4) (And.intro rfl (Or.inr (And.intro c e)))
theorem bC_59_24 {d : Nat} {Q : Option Value → ai_H → Prop} {h h2 : ai_H} {x1 x2 x3 x4 : Int32} (hc : CC d 55 [.ref 12, .int (h 12 9), .int 3, .int x1, .int x4] h (none) h2) (k : RC d 59 Q 36 [some (.ref 12), some (.int x1), some (.int x2), some (.int x3), some (.int x4)] [] h2) : RC d 59 Q 24 [some (.ref 12), some (.int x1), some (.int x2), some (.int x3), some (.int x4)] [] h := by
  obtain ⟨n, e⟩ := k
  exact Exists.intro (n + 7) (And.intro rfl (Exists.intro [.int (h 12 9), .int 3, .int x1, .int x4] (Exists.intro 12 (Exists.intro [] (Exists.intro _ (Exists.intro (none) (Exists.intro h2 (And.intro rfl (And.intro rfl (And.intro rfl (And.intro (Nat.le_of_ble_eq_true rfl) (And.intro hc e))))))))))))
theorem bC_59_36 {d : Nat} {Q : Option Value → ai_H → Prop} {h : ai_H} {x1 x2 x3 x4 : Int32} (k : RC d 59 Q 8 [some (.ref 12), some (.int x1), some (.int x2), some (.int x3), some (.int (x4 + 1))] [] (ai_up h 12 9 ((h 12 9) + 1))) : RC d 59 Q 36 [some (.ref 12), some (.int x1), some (.int x2), some (.int x3), some (.int x4)] [] h := by
  obtain ⟨n, e⟩ := k
  exact Exists.intro (n + 8) (And.intro rfl (And.intro rfl (And.intro (Exists.intro _ (And.intro rfl rfl)) (And.intro (Or.inl rfl) (Exists.intro _ (And.intro rfl (e)))))))
theorem bC_59_52 {d : Nat} {Q : Option Value → ai_H → Prop} {h : ai_H} {x1 x2 x3 x4 : Int32} (k : Q (some (.int x3)) h) : RC d 59 Q 52 [some (.ref 12), some (.int x1), some (.int x2), some (.int x3), some (.int x4)] [] h := Exists.intro 2 (And.intro (Or.inl rfl) k)
theorem bC_60_0 {d : Nat} {Q : Option Value → ai_H → Prop} {h : ai_H} {x1 : Int32} (kt : x1 < 0 → RC d 60 Q 20 [some (.ref 12), some (.int x1)] [] h) (kf : ¬ x1 < 0 → RC d 60 Q 4 [some (.ref 12), some (.int x1)] [] h) : RC d 60 Q 0 [some (.ref 12), some (.int x1)] [] h := by
  by_cases c : x1 < 0
  · obtain ⟨n, e⟩ := kt c
    exact Exists.intro (n + 2) (Or.inl (And.intro c e))
  · obtain ⟨n, e⟩ := kf c
    exact Exists.intro (n + 2) (Or.inr (And.intro c e))
theorem bC_60_4 {d : Nat} {Q : Option Value → ai_H → Prop} {h : ai_H} {x1 : Int32} (kt : 512 ≤ x1 → RC d 60 Q 20 [some (.ref 12), some (.int x1)] [] h) (kf : ¬ 512 ≤ x1 → RC d 60 Q 11 [some (.ref 12), some (.int x1)] [] h) : RC d 60 Q 4 [some (.ref 12), some (.int x1)] [] h := by
  by_cases c : 512 ≤ x1
  · obtain ⟨n, e⟩ := kt c
    exact Exists.intro (n + 3) (Or.inl (And.intro c e))
  · obtain ⟨n, e⟩ := kf c
    exact Exists.intro (n + 3) (Or.inr (And.intro c e))
theorem bC_60_11 {d : Nat} {Q : Option Value → ai_H → Prop} {h : ai_H} {x1 : Int32} (hi1 : vp_in x1 512) (k : RC d 60 Q 21 [some (.ref 12), some (.int x1)] [.int (h 13 (Int32.toNatClampNeg x1))] h) : RC d 60 Q 11 [some (.ref 12), some (.int x1)] [] h := by
  obtain ⟨n, e⟩ := k
  exact Exists.intro (n + 5) (And.intro rfl (Exists.intro 512 (And.intro rfl (And.intro hi1 (e)))))
theorem bC_60_20 {d : Nat} {Q : Option Value → ai_H → Prop} {h : ai_H} {x1 : Int32} (k : RC d 60 Q 21 [some (.ref 12), some (.int x1)] [.int (-1)] h) : RC d 60 Q 20 [some (.ref 12), some (.int x1)] [] h := by
  obtain ⟨n, e⟩ := k
  exact Exists.intro (n + 1) (e)
theorem bC_60_21 {d : Nat} {Q : Option Value → ai_H → Prop} {h : ai_H} {x1 y0 : Int32} (k : Q (some (.int y0)) h) : RC d 60 Q 21 [some (.ref 12), some (.int x1)] [.int y0] h := Exists.intro 1 (And.intro (Or.inl rfl) k)
theorem bC_61_0 {d : Nat} {Q : Option Value → ai_H → Prop} {h : ai_H} {x1 : Int32} (kt : x1 < 0 → RC d 61 Q 20 [some (.ref 12), some (.int x1)] [] h) (kf : ¬ x1 < 0 → RC d 61 Q 4 [some (.ref 12), some (.int x1)] [] h) : RC d 61 Q 0 [some (.ref 12), some (.int x1)] [] h := by
  by_cases c : x1 < 0
  · obtain ⟨n, e⟩ := kt c
    exact Exists.intro (n + 2) (Or.inl (And.intro c e))
  · obtain ⟨n, e⟩ := kf c
    exact Exists.intro (n + 2) (Or.inr (And.intro c e))
theorem bC_61_4 {d : Nat} {Q : Option Value → ai_H → Prop} {h : ai_H} {x1 : Int32} (kt : 512 ≤ x1 → RC d 61 Q 20 [some (.ref 12), some (.int x1)] [] h) (kf : ¬ 512 ≤ x1 → RC d 61 Q 11 [some (.ref 12), some (.int x1)] [] h) : RC d 61 Q 4 [some (.ref 12), some (.int x1)] [] h := by
  by_cases c : 512 ≤ x1
  · obtain ⟨n, e⟩ := kt c
    exact Exists.intro (n + 3) (Or.inl (And.intro c e))
  · obtain ⟨n, e⟩ := kf c
    exact Exists.intro (n + 3) (Or.inr (And.intro c e))
theorem bC_61_11 {d : Nat} {Q : Option Value → ai_H → Prop} {h : ai_H} {x1 : Int32} (hi1 : vp_in x1 512) (k : RC d 61 Q 21 [some (.ref 12), some (.int x1)] [.int (h 14 (Int32.toNatClampNeg x1))] h) : RC d 61 Q 11 [some (.ref 12), some (.int x1)] [] h := by
  obtain ⟨n, e⟩ := k
  exact Exists.intro (n + 5) (And.intro rfl (Exists.intro 512 (And.intro rfl (And.intro hi1 (e)))))
theorem bC_61_20 {d : Nat} {Q : Option Value → ai_H → Prop} {h : ai_H} {x1 : Int32} (k : RC d 61 Q 21 [some (.ref 12), some (.int x1)] [.int (-1)] h) : RC d 61 Q 20 [some (.ref 12), some (.int x1)] [] h := by
  obtain ⟨n, e⟩ := k
  exact Exists.intro (n + 1) (e)
theorem bC_61_21 {d : Nat} {Q : Option Value → ai_H → Prop} {h : ai_H} {x1 y0 : Int32} (k : Q (some (.int y0)) h) : RC d 61 Q 21 [some (.ref 12), some (.int x1)] [.int y0] h := Exists.intro 1 (And.intro (Or.inl rfl) k)
theorem bC_62_0 {d : Nat} {Q : Option Value → ai_H → Prop} {h : ai_H} {x1 : Int32} (kt : x1 < 0 → RC d 62 Q 20 [some (.ref 12), some (.int x1)] [] h) (kf : ¬ x1 < 0 → RC d 62 Q 4 [some (.ref 12), some (.int x1)] [] h) : RC d 62 Q 0 [some (.ref 12), some (.int x1)] [] h := by
  by_cases c : x1 < 0
  · obtain ⟨n, e⟩ := kt c
    exact Exists.intro (n + 2) (Or.inl (And.intro c e))
  · obtain ⟨n, e⟩ := kf c
    exact Exists.intro (n + 2) (Or.inr (And.intro c e))
theorem bC_62_4 {d : Nat} {Q : Option Value → ai_H → Prop} {h : ai_H} {x1 : Int32} (kt : 512 ≤ x1 → RC d 62 Q 20 [some (.ref 12), some (.int x1)] [] h) (kf : ¬ 512 ≤ x1 → RC d 62 Q 11 [some (.ref 12), some (.int x1)] [] h) : RC d 62 Q 4 [some (.ref 12), some (.int x1)] [] h := by
  by_cases c : 512 ≤ x1
  · obtain ⟨n, e⟩ := kt c
    exact Exists.intro (n + 3) (Or.inl (And.intro c e))
  · obtain ⟨n, e⟩ := kf c
    exact Exists.intro (n + 3) (Or.inr (And.intro c e))
theorem bC_62_11 {d : Nat} {Q : Option Value → ai_H → Prop} {h : ai_H} {x1 : Int32} (hi1 : vp_in x1 512) (k : RC d 62 Q 21 [some (.ref 12), some (.int x1)] [.int (h 15 (Int32.toNatClampNeg x1))] h) : RC d 62 Q 11 [some (.ref 12), some (.int x1)] [] h := by
  obtain ⟨n, e⟩ := k
  exact Exists.intro (n + 5) (And.intro rfl (Exists.intro 512 (And.intro rfl (And.intro hi1 (e)))))
theorem bC_62_20 {d : Nat} {Q : Option Value → ai_H → Prop} {h : ai_H} {x1 : Int32} (k : RC d 62 Q 21 [some (.ref 12), some (.int x1)] [.int (-1)] h) : RC d 62 Q 20 [some (.ref 12), some (.int x1)] [] h := by
  obtain ⟨n, e⟩ := k
  exact Exists.intro (n + 1) (e)
theorem bC_62_21 {d : Nat} {Q : Option Value → ai_H → Prop} {h : ai_H} {x1 y0 : Int32} (k : Q (some (.int y0)) h) : RC d 62 Q 21 [some (.ref 12), some (.int x1)] [.int y0] h := Exists.intro 1 (And.intro (Or.inl rfl) k)
theorem bC_63_0 {d : Nat} {Q : Option Value → ai_H → Prop} {h : ai_H} {x1 : Int32} (kt : x1 < 0 → RC d 63 Q 30 [some (.ref 12), some (.int x1)] [] h) (kf : ¬ x1 < 0 → RC d 63 Q 4 [some (.ref 12), some (.int x1)] [] h) : RC d 63 Q 0 [some (.ref 12), some (.int x1)] [] h := by
  by_cases c : x1 < 0
  · obtain ⟨n, e⟩ := kt c
    exact Exists.intro (n + 2) (Or.inl (And.intro c e))
  · obtain ⟨n, e⟩ := kf c
    exact Exists.intro (n + 2) (Or.inr (And.intro c e))
theorem bC_63_4 {d : Nat} {Q : Option Value → ai_H → Prop} {h : ai_H} {x1 : Int32} (kt : 512 ≤ x1 → RC d 63 Q 30 [some (.ref 12), some (.int x1)] [] h) (kf : ¬ 512 ≤ x1 → RC d 63 Q 11 [some (.ref 12), some (.int x1)] [] h) : RC d 63 Q 4 [some (.ref 12), some (.int x1)] [] h := by
  by_cases c : 512 ≤ x1
  · obtain ⟨n, e⟩ := kt c
    exact Exists.intro (n + 3) (Or.inl (And.intro c e))
  · obtain ⟨n, e⟩ := kf c
    exact Exists.intro (n + 3) (Or.inr (And.intro c e))
theorem bC_63_11 {d : Nat} {Q : Option Value → ai_H → Prop} {h : ai_H} {x1 : Int32} (hi1 : vp_in x1 512) (kt : ¬ (h 13 (Int32.toNatClampNeg x1)) = 4 → RC d 63 Q 30 [some (.ref 12), some (.int x1)] [] h) (kf : (h 13 (Int32.toNatClampNeg x1)) = 4 → RC d 63 Q 21 [some (.ref 12), some (.int x1)] [] h) : RC d 63 Q 11 [some (.ref 12), some (.int x1)] [] h := by
  by_cases c : (h 13 (Int32.toNatClampNeg x1)) = 4
  · obtain ⟨n, e⟩ := kf c
    exact Exists.intro (n + 6) (And.intro rfl (Exists.intro 512 (And.intro rfl (And.intro hi1 (Or.inr (And.intro (fun z => z c) e))))))
  · obtain ⟨n, e⟩ := kt c
    exact Exists.intro (n + 6) (And.intro rfl (Exists.intro 512 (And.intro rfl (And.intro hi1 (Or.inl (And.intro c e))))))
theorem bC_63_21 {d : Nat} {Q : Option Value → ai_H → Prop} {h : ai_H} {x1 : Int32} (hi1 : vp_in x1 512) (k : RC d 63 Q 31 [some (.ref 12), some (.int x1)] [.int (h 16 (Int32.toNatClampNeg x1))] h) : RC d 63 Q 21 [some (.ref 12), some (.int x1)] [] h := by
  obtain ⟨n, e⟩ := k
  exact Exists.intro (n + 5) (And.intro rfl (Exists.intro 512 (And.intro rfl (And.intro hi1 (e)))))
theorem bC_63_30 {d : Nat} {Q : Option Value → ai_H → Prop} {h : ai_H} {x1 : Int32} (k : RC d 63 Q 31 [some (.ref 12), some (.int x1)] [.int (-1)] h) : RC d 63 Q 30 [some (.ref 12), some (.int x1)] [] h := by
  obtain ⟨n, e⟩ := k
  exact Exists.intro (n + 1) (e)
theorem bC_63_31 {d : Nat} {Q : Option Value → ai_H → Prop} {h : ai_H} {x1 y0 : Int32} (k : Q (some (.int y0)) h) : RC d 63 Q 31 [some (.ref 12), some (.int x1)] [.int y0] h := Exists.intro 1 (And.intro (Or.inl rfl) k)
theorem bC_64_0 {d : Nat} {Q : Option Value → ai_H → Prop} {h : ai_H} {x1 : Int32} (kt : x1 < 0 → RC d 64 Q 30 [some (.ref 12), some (.int x1)] [] h) (kf : ¬ x1 < 0 → RC d 64 Q 4 [some (.ref 12), some (.int x1)] [] h) : RC d 64 Q 0 [some (.ref 12), some (.int x1)] [] h := by
  by_cases c : x1 < 0
  · obtain ⟨n, e⟩ := kt c
    exact Exists.intro (n + 2) (Or.inl (And.intro c e))
  · obtain ⟨n, e⟩ := kf c
    exact Exists.intro (n + 2) (Or.inr (And.intro c e))
theorem bC_64_4 {d : Nat} {Q : Option Value → ai_H → Prop} {h : ai_H} {x1 : Int32} (kt : 512 ≤ x1 → RC d 64 Q 30 [some (.ref 12), some (.int x1)] [] h) (kf : ¬ 512 ≤ x1 → RC d 64 Q 11 [some (.ref 12), some (.int x1)] [] h) : RC d 64 Q 4 [some (.ref 12), some (.int x1)] [] h := by
  by_cases c : 512 ≤ x1
  · obtain ⟨n, e⟩ := kt c
    exact Exists.intro (n + 3) (Or.inl (And.intro c e))
  · obtain ⟨n, e⟩ := kf c
    exact Exists.intro (n + 3) (Or.inr (And.intro c e))
theorem bC_64_11 {d : Nat} {Q : Option Value → ai_H → Prop} {h : ai_H} {x1 : Int32} (hi1 : vp_in x1 512) (kt : ¬ (h 13 (Int32.toNatClampNeg x1)) = 5 → RC d 64 Q 30 [some (.ref 12), some (.int x1)] [] h) (kf : (h 13 (Int32.toNatClampNeg x1)) = 5 → RC d 64 Q 21 [some (.ref 12), some (.int x1)] [] h) : RC d 64 Q 11 [some (.ref 12), some (.int x1)] [] h := by
  by_cases c : (h 13 (Int32.toNatClampNeg x1)) = 5
  · obtain ⟨n, e⟩ := kf c
    exact Exists.intro (n + 6) (And.intro rfl (Exists.intro 512 (And.intro rfl (And.intro hi1 (Or.inr (And.intro (fun z => z c) e))))))
  · obtain ⟨n, e⟩ := kt c
    exact Exists.intro (n + 6) (And.intro rfl (Exists.intro 512 (And.intro rfl (And.intro hi1 (Or.inl (And.intro c e))))))
theorem bC_64_21 {d : Nat} {Q : Option Value → ai_H → Prop} {h : ai_H} {x1 : Int32} (hi1 : vp_in x1 512) (k : RC d 64 Q 31 [some (.ref 12), some (.int x1)] [.int (h 16 (Int32.toNatClampNeg x1))] h) : RC d 64 Q 21 [some (.ref 12), some (.int x1)] [] h := by
  obtain ⟨n, e⟩ := k
  exact Exists.intro (n + 5) (And.intro rfl (Exists.intro 512 (And.intro rfl (And.intro hi1 (e)))))
theorem bC_64_30 {d : Nat} {Q : Option Value → ai_H → Prop} {h : ai_H} {x1 : Int32} (k : RC d 64 Q 31 [some (.ref 12), some (.int x1)] [.int (-1)] h) : RC d 64 Q 30 [some (.ref 12), some (.int x1)] [] h := by
  obtain ⟨n, e⟩ := k
  exact Exists.intro (n + 1) (e)
theorem bC_64_31 {d : Nat} {Q : Option Value → ai_H → Prop} {h : ai_H} {x1 y0 : Int32} (k : Q (some (.int y0)) h) : RC d 64 Q 31 [some (.ref 12), some (.int x1)] [.int y0] h := Exists.intro 1 (And.intro (Or.inl rfl) k)
theorem bC_65_0 {d : Nat} {Q : Option Value → ai_H → Prop} {h : ai_H} {x1 x2 : Int32} (kt : x1 < 0 → RC d 65 Q 24 [some (.ref 12), some (.int x1), some (.int x2), none] [] h) (kf : ¬ x1 < 0 → RC d 65 Q 4 [some (.ref 12), some (.int x1), some (.int x2), none] [] h) : RC d 65 Q 0 [some (.ref 12), some (.int x1), some (.int x2), none] [] h := by
  by_cases c : x1 < 0
  · obtain ⟨n, e⟩ := kt c
    exact Exists.intro (n + 2) (Or.inl (And.intro c e))
  · obtain ⟨n, e⟩ := kf c
    exact Exists.intro (n + 2) (Or.inr (And.intro c e))
theorem bC_65_4 {d : Nat} {Q : Option Value → ai_H → Prop} {h : ai_H} {x1 x2 : Int32} (kt : 512 ≤ x1 → RC d 65 Q 24 [some (.ref 12), some (.int x1), some (.int x2), none] [] h) (kf : ¬ 512 ≤ x1 → RC d 65 Q 11 [some (.ref 12), some (.int x1), some (.int x2), none] [] h) : RC d 65 Q 4 [some (.ref 12), some (.int x1), some (.int x2), none] [] h := by
  by_cases c : 512 ≤ x1
  · obtain ⟨n, e⟩ := kt c
    exact Exists.intro (n + 3) (Or.inl (And.intro c e))
  · obtain ⟨n, e⟩ := kf c
    exact Exists.intro (n + 3) (Or.inr (And.intro c e))
theorem bC_65_11 {d : Nat} {Q : Option Value → ai_H → Prop} {h : ai_H} {x1 x2 : Int32} (kt : x2 < 0 → RC d 65 Q 24 [some (.ref 12), some (.int x1), some (.int x2), none] [] h) (kf : ¬ x2 < 0 → RC d 65 Q 15 [some (.ref 12), some (.int x1), some (.int x2), none] [] h) : RC d 65 Q 11 [some (.ref 12), some (.int x1), some (.int x2), none] [] h := by
  by_cases c : x2 < 0
  · obtain ⟨n, e⟩ := kt c
    exact Exists.intro (n + 2) (Or.inl (And.intro c e))
  · obtain ⟨n, e⟩ := kf c
    exact Exists.intro (n + 2) (Or.inr (And.intro c e))
theorem bC_65_15 {d : Nat} {Q : Option Value → ai_H → Prop} {h : ai_H} {x1 x2 : Int32} (kt : 3 ≤ x2 → RC d 65 Q 24 [some (.ref 12), some (.int x1), some (.int x2), none] [] h) (kf : ¬ 3 ≤ x2 → RC d 65 Q 20 [some (.ref 12), some (.int x1), some (.int x2), none] [] h) : RC d 65 Q 15 [some (.ref 12), some (.int x1), some (.int x2), none] [] h := by
  by_cases c : 3 ≤ x2
  · obtain ⟨n, e⟩ := kt c
    exact Exists.intro (n + 3) (Or.inl (And.intro c e))
  · obtain ⟨n, e⟩ := kf c
    exact Exists.intro (n + 3) (Or.inr (And.intro c e))
theorem bC_65_20 {d : Nat} {Q : Option Value → ai_H → Prop} {h : ai_H} {x1 x2 : Int32} (k : RC d 65 Q 25 [some (.ref 12), some (.int x1), some (.int x2), none] [.int 1] h) : RC d 65 Q 20 [some (.ref 12), some (.int x1), some (.int x2), none] [] h := by
  obtain ⟨n, e⟩ := k
  exact Exists.intro (n + 2) (e)
theorem bC_65_24 {d : Nat} {Q : Option Value → ai_H → Prop} {h : ai_H} {x1 x2 : Int32} (k : RC d 65 Q 25 [some (.ref 12), some (.int x1), some (.int x2), none] [.int 0] h) : RC d 65 Q 24 [some (.ref 12), some (.int x1), some (.int x2), none] [] h := by
  obtain ⟨n, e⟩ := k
  exact Exists.intro (n + 1) (e)
theorem bC_65_25 {d : Nat} {Q : Option Value → ai_H → Prop} {h : ai_H} {x1 x2 y0 : Int32} (kt : y0 = 0 → RC d 65 Q 43 [some (.ref 12), some (.int x1), some (.int x2), some (.int y0)] [] h) (kf : ¬ y0 = 0 → RC d 65 Q 30 [some (.ref 12), some (.int x1), some (.int x2), some (.int y0)] [] h) : RC d 65 Q 25 [some (.ref 12), some (.int x1), some (.int x2), none] [.int y0] h := by
  by_cases c : y0 = 0
  · obtain ⟨n, e⟩ := kt c
    exact Exists.intro (n + 3) (Exists.intro _ (And.intro rfl (Or.inl (And.intro c e))))
  · obtain ⟨n, e⟩ := kf c
    exact Exists.intro (n + 3) (Exists.intro _ (And.intro rfl (Or.inr (And.intro c e))))
theorem bC_65_30 {d : Nat} {Q : Option Value → ai_H → Prop} {h : ai_H} {x1 x2 x3 : Int32} (hi1 : vp_in ((x1 * 3) + x2) 1536) (k : RC d 65 Q 44 [some (.ref 12), some (.int x1), some (.int x2), some (.int x3)] [.int (h 17 (Int32.toNatClampNeg ((x1 * 3) + x2)))] h) : RC d 65 Q 30 [some (.ref 12), some (.int x1), some (.int x2), some (.int x3)] [] h := by
  obtain ⟨n, e⟩ := k
  exact Exists.intro (n + 9) (And.intro rfl (Exists.intro 1536 (And.intro rfl (And.intro hi1 (e)))))
theorem bC_65_43 {d : Nat} {Q : Option Value → ai_H → Prop} {h : ai_H} {x1 x2 x3 : Int32} (k : RC d 65 Q 44 [some (.ref 12), some (.int x1), some (.int x2), some (.int x3)] [.int (-1)] h) : RC d 65 Q 43 [some (.ref 12), some (.int x1), some (.int x2), some (.int x3)] [] h := by
  obtain ⟨n, e⟩ := k
  exact Exists.intro (n + 1) (e)
theorem bC_65_44 {d : Nat} {Q : Option Value → ai_H → Prop} {h : ai_H} {x1 x2 x3 y0 : Int32} (k : Q (some (.int y0)) h) : RC d 65 Q 44 [some (.ref 12), some (.int x1), some (.int x2), some (.int x3)] [.int y0] h := Exists.intro 1 (And.intro (Or.inl rfl) k)
theorem bC_66_0 {d : Nat} {Q : Option Value → ai_H → Prop} {h : ai_H} {x1 : Int32} (k : RC d 66 Q 4 [some (.ref 12), some (.int x1), some (.int 0), some (.int 0)] [] h) : RC d 66 Q 0 [some (.ref 12), some (.int x1), none, none] [] h := by
  obtain ⟨n, e⟩ := k
  exact Exists.intro (n + 4) (Exists.intro _ (And.intro rfl (Exists.intro _ (And.intro rfl (e)))))
theorem bC_66_4 {d : Nat} {Q : Option Value → ai_H → Prop} {h : ai_H} {x1 x2 x3 : Int32} (kt : 3 ≤ x3 → RC d 66 Q 33 [some (.ref 12), some (.int x1), some (.int x2), some (.int x3)] [] h) (kf : ¬ 3 ≤ x3 → RC d 66 Q 9 [some (.ref 12), some (.int x1), some (.int x2), some (.int x3)] [] h) : RC d 66 Q 4 [some (.ref 12), some (.int x1), some (.int x2), some (.int x3)] [] h := by
  by_cases c : 3 ≤ x3
  · obtain ⟨n, e⟩ := kt c
    exact Exists.intro (n + 3) (Or.inl (And.intro c e))
  · obtain ⟨n, e⟩ := kf c
    exact Exists.intro (n + 3) (Or.inr (And.intro c e))
theorem bC_66_9 {d : Nat} {Q : Option Value → ai_H → Prop} {h h2 : ai_H} {x1 x2 x3 r : Int32} (hc : CC d 65 [.ref 12, .int x1, .int x3] h (some (.int r)) h2) (k : RC d 66 Q 16 [some (.ref 12), some (.int x1), some (.int x2), some (.int x3)] [.int r, .int x2] h2) : RC d 66 Q 9 [some (.ref 12), some (.int x1), some (.int x2), some (.int x3)] [] h := by
  obtain ⟨n, e⟩ := k
  exact Exists.intro (n + 5) (Exists.intro [.int x1, .int x3] (Exists.intro 12 (Exists.intro [.int x2] (Exists.intro _ (Exists.intro (some (.int r)) (Exists.intro h2 (And.intro rfl (And.intro rfl (And.intro rfl (And.intro (Nat.le_of_ble_eq_true rfl) (And.intro hc e)))))))))))
theorem bC_66_16 {d : Nat} {Q : Option Value → ai_H → Prop} {h : ai_H} {x1 x2 x3 y0 y1 : Int32} (kt : ¬ y1 = (-1) → RC d 66 Q 24 [some (.ref 12), some (.int x1), some (.int x2), some (.int x3)] [.int y0] h) (kf : y1 = (-1) → RC d 66 Q 20 [some (.ref 12), some (.int x1), some (.int x2), some (.int x3)] [.int y0] h) : RC d 66 Q 16 [some (.ref 12), some (.int x1), some (.int x2), some (.int x3)] [.int y1, .int y0] h := by
  by_cases c : y1 = (-1)
  · obtain ⟨n, e⟩ := kf c
    exact Exists.intro (n + 2) (Or.inr (And.intro (fun z => z c) e))
  · obtain ⟨n, e⟩ := kt c
    exact Exists.intro (n + 2) (Or.inl (And.intro c e))
theorem bC_66_20 {d : Nat} {Q : Option Value → ai_H → Prop} {h : ai_H} {x1 x2 x3 y0 : Int32} (k : RC d 66 Q 25 [some (.ref 12), some (.int x1), some (.int x2), some (.int x3)] [.int 0, .int y0] h) : RC d 66 Q 20 [some (.ref 12), some (.int x1), some (.int x2), some (.int x3)] [.int y0] h := by
  obtain ⟨n, e⟩ := k
  exact Exists.intro (n + 2) (e)
theorem bC_66_24 {d : Nat} {Q : Option Value → ai_H → Prop} {h : ai_H} {x1 x2 x3 y0 : Int32} (k : RC d 66 Q 25 [some (.ref 12), some (.int x1), some (.int x2), some (.int x3)] [.int 1, .int y0] h) : RC d 66 Q 24 [some (.ref 12), some (.int x1), some (.int x2), some (.int x3)] [.int y0] h := by
  obtain ⟨n, e⟩ := k
  exact Exists.intro (n + 1) (e)
theorem bC_66_25 {d : Nat} {Q : Option Value → ai_H → Prop} {h : ai_H} {x1 x2 x3 y0 y1 : Int32} (k : RC d 66 Q 4 [some (.ref 12), some (.int x1), some (.int (y0 + y1)), some (.int (x3 + 1))] [] h) : RC d 66 Q 25 [some (.ref 12), some (.int x1), some (.int x2), some (.int x3)] [.int y1, .int y0] h := by
  obtain ⟨n, e⟩ := k
  exact Exists.intro (n + 4) (Exists.intro _ (And.intro rfl (Exists.intro _ (And.intro rfl (e)))))
theorem bC_66_33 {d : Nat} {Q : Option Value → ai_H → Prop} {h : ai_H} {x1 x2 x3 : Int32} (k : Q (some (.int x2)) h) : RC d 66 Q 33 [some (.ref 12), some (.int x1), some (.int x2), some (.int x3)] [] h := Exists.intro 2 (And.intro (Or.inl rfl) k)
theorem bC_67_0 {d : Nat} {Q : Option Value → ai_H → Prop} {h : ai_H} {x1 : Int32} (kt : x1 < 0 → RC d 67 Q 24 [some (.ref 12), some (.int x1)] [] h) (kf : ¬ x1 < 0 → RC d 67 Q 4 [some (.ref 12), some (.int x1)] [] h) : RC d 67 Q 0 [some (.ref 12), some (.int x1)] [] h := by
  by_cases c : x1 < 0
  · obtain ⟨n, e⟩ := kt c
    exact Exists.intro (n + 2) (Or.inl (And.intro c e))
  · obtain ⟨n, e⟩ := kf c
    exact Exists.intro (n + 2) (Or.inr (And.intro c e))
theorem bC_67_4 {d : Nat} {Q : Option Value → ai_H → Prop} {h : ai_H} {x1 : Int32} (kt : 512 ≤ x1 → RC d 67 Q 24 [some (.ref 12), some (.int x1)] [] h) (kf : ¬ 512 ≤ x1 → RC d 67 Q 11 [some (.ref 12), some (.int x1)] [] h) : RC d 67 Q 4 [some (.ref 12), some (.int x1)] [] h := by
  by_cases c : 512 ≤ x1
  · obtain ⟨n, e⟩ := kt c
    exact Exists.intro (n + 3) (Or.inl (And.intro c e))
  · obtain ⟨n, e⟩ := kf c
    exact Exists.intro (n + 3) (Or.inr (And.intro c e))
theorem bC_67_11 {d : Nat} {Q : Option Value → ai_H → Prop} {h : ai_H} {x1 : Int32} (hi1 : vp_in x1 512) (kt : (h 19 (Int32.toNatClampNeg x1)) = 0 → RC d 67 Q 24 [some (.ref 12), some (.int x1)] [] h) (kf : ¬ (h 19 (Int32.toNatClampNeg x1)) = 0 → RC d 67 Q 20 [some (.ref 12), some (.int x1)] [] h) : RC d 67 Q 11 [some (.ref 12), some (.int x1)] [] h := by
  by_cases c : (h 19 (Int32.toNatClampNeg x1)) = 0
  · obtain ⟨n, e⟩ := kt c
    exact Exists.intro (n + 5) (And.intro rfl (Exists.intro 512 (And.intro rfl (And.intro hi1 (Or.inl (And.intro c e))))))
  · obtain ⟨n, e⟩ := kf c
    exact Exists.intro (n + 5) (And.intro rfl (Exists.intro 512 (And.intro rfl (And.intro hi1 (Or.inr (And.intro c e))))))
theorem bC_67_20 {d : Nat} {Q : Option Value → ai_H → Prop} {h : ai_H} {x1 : Int32} (k : RC d 67 Q 25 [some (.ref 12), some (.int x1)] [.int 1] h) : RC d 67 Q 20 [some (.ref 12), some (.int x1)] [] h := by
  obtain ⟨n, e⟩ := k
  exact Exists.intro (n + 2) (e)
theorem bC_67_24 {d : Nat} {Q : Option Value → ai_H → Prop} {h : ai_H} {x1 : Int32} (k : RC d 67 Q 25 [some (.ref 12), some (.int x1)] [.int 0] h) : RC d 67 Q 24 [some (.ref 12), some (.int x1)] [] h := by
  obtain ⟨n, e⟩ := k
  exact Exists.intro (n + 1) (e)
theorem bC_67_25 {d : Nat} {Q : Option Value → ai_H → Prop} {h : ai_H} {x1 y0 : Int32} (hz : y0 = 0 ∨ y0 = 1) (k : Q (some (.int y0)) h) : RC d 67 Q 25 [some (.ref 12), some (.int x1)] [.int y0] h := Exists.intro 1 (And.intro (Or.inr hz) k)
theorem bC_68_0 {d : Nat} {Q : Option Value → ai_H → Prop} {h : ai_H} {x1 : Int32} (kt : x1 < 0 → RC d 68 Q 24 [some (.ref 12), some (.int x1)] [] h) (kf : ¬ x1 < 0 → RC d 68 Q 4 [some (.ref 12), some (.int x1)] [] h) : RC d 68 Q 0 [some (.ref 12), some (.int x1)] [] h := by
  by_cases c : x1 < 0
  · obtain ⟨n, e⟩ := kt c
    exact Exists.intro (n + 2) (Or.inl (And.intro c e))
  · obtain ⟨n, e⟩ := kf c
    exact Exists.intro (n + 2) (Or.inr (And.intro c e))
theorem bC_68_4 {d : Nat} {Q : Option Value → ai_H → Prop} {h : ai_H} {x1 : Int32} (kt : 512 ≤ x1 → RC d 68 Q 24 [some (.ref 12), some (.int x1)] [] h) (kf : ¬ 512 ≤ x1 → RC d 68 Q 11 [some (.ref 12), some (.int x1)] [] h) : RC d 68 Q 4 [some (.ref 12), some (.int x1)] [] h := by
  by_cases c : 512 ≤ x1
  · obtain ⟨n, e⟩ := kt c
    exact Exists.intro (n + 3) (Or.inl (And.intro c e))
  · obtain ⟨n, e⟩ := kf c
    exact Exists.intro (n + 3) (Or.inr (And.intro c e))
theorem bC_68_11 {d : Nat} {Q : Option Value → ai_H → Prop} {h : ai_H} {x1 : Int32} (hi1 : vp_in x1 512) (kt : (h 20 (Int32.toNatClampNeg x1)) = 0 → RC d 68 Q 24 [some (.ref 12), some (.int x1)] [] h) (kf : ¬ (h 20 (Int32.toNatClampNeg x1)) = 0 → RC d 68 Q 20 [some (.ref 12), some (.int x1)] [] h) : RC d 68 Q 11 [some (.ref 12), some (.int x1)] [] h := by
  by_cases c : (h 20 (Int32.toNatClampNeg x1)) = 0
  · obtain ⟨n, e⟩ := kt c
    exact Exists.intro (n + 5) (And.intro rfl (Exists.intro 512 (And.intro rfl (And.intro hi1 (Or.inl (And.intro c e))))))
  · obtain ⟨n, e⟩ := kf c
    exact Exists.intro (n + 5) (And.intro rfl (Exists.intro 512 (And.intro rfl (And.intro hi1 (Or.inr (And.intro c e))))))
theorem bC_68_20 {d : Nat} {Q : Option Value → ai_H → Prop} {h : ai_H} {x1 : Int32} (k : RC d 68 Q 25 [some (.ref 12), some (.int x1)] [.int 1] h) : RC d 68 Q 20 [some (.ref 12), some (.int x1)] [] h := by
  obtain ⟨n, e⟩ := k
  exact Exists.intro (n + 2) (e)
theorem bC_68_24 {d : Nat} {Q : Option Value → ai_H → Prop} {h : ai_H} {x1 : Int32} (k : RC d 68 Q 25 [some (.ref 12), some (.int x1)] [.int 0] h) : RC d 68 Q 24 [some (.ref 12), some (.int x1)] [] h := by
  obtain ⟨n, e⟩ := k
  exact Exists.intro (n + 1) (e)
theorem bC_68_25 {d : Nat} {Q : Option Value → ai_H → Prop} {h : ai_H} {x1 y0 : Int32} (hz : y0 = 0 ∨ y0 = 1) (k : Q (some (.int y0)) h) : RC d 68 Q 25 [some (.ref 12), some (.int x1)] [.int y0] h := Exists.intro 1 (And.intro (Or.inr hz) k)
theorem bC_69_0 {d : Nat} {Q : Option Value → ai_H → Prop} {h h2 : ai_H} {x1 r : Int32} (hc : CC d 60 [.ref 12, .int x1] h (some (.int r)) h2) (k : RC d 69 Q 5 [some (.ref 12), some (.int x1)] [.int r] h2) : RC d 69 Q 0 [some (.ref 12), some (.int x1)] [] h := by
  obtain ⟨n, e⟩ := k
  exact Exists.intro (n + 3) (Exists.intro [.int x1] (Exists.intro 12 (Exists.intro [] (Exists.intro _ (Exists.intro (some (.int r)) (Exists.intro h2 (And.intro rfl (And.intro rfl (And.intro rfl (And.intro (Nat.le_of_ble_eq_true rfl) (And.intro hc e)))))))))))
theorem bC_69_5 {d : Nat} {Q : Option Value → ai_H → Prop} {h : ai_H} {x1 y0 : Int32} (kt : y0 ≤ 2 → RC d 69 Q 13 [some (.ref 12), some (.int x1)] [] h) (kf : ¬ y0 ≤ 2 → RC d 69 Q 9 [some (.ref 12), some (.int x1)] [] h) : RC d 69 Q 5 [some (.ref 12), some (.int x1)] [.int y0] h := by
  by_cases c : y0 ≤ 2
  · obtain ⟨n, e⟩ := kt c
    exact Exists.intro (n + 2) (Or.inl (And.intro c e))
  · obtain ⟨n, e⟩ := kf c
    exact Exists.intro (n + 2) (Or.inr (And.intro c e))
theorem bC_69_9 {d : Nat} {Q : Option Value → ai_H → Prop} {h : ai_H} {x1 : Int32} (k : RC d 69 Q 14 [some (.ref 12), some (.int x1)] [.int 1] h) : RC d 69 Q 9 [some (.ref 12), some (.int x1)] [] h := by
  obtain ⟨n, e⟩ := k
  exact Exists.intro (n + 2) (e)
theorem bC_69_13 {d : Nat} {Q : Option Value → ai_H → Prop} {h : ai_H} {x1 : Int32} (k : RC d 69 Q 14 [some (.ref 12), some (.int x1)] [.int 0] h) : RC d 69 Q 13 [some (.ref 12), some (.int x1)] [] h := by
  obtain ⟨n, e⟩ := k
  exact Exists.intro (n + 1) (e)
theorem bC_69_14 {d : Nat} {Q : Option Value → ai_H → Prop} {h : ai_H} {x1 y0 : Int32} (hz : y0 = 0 ∨ y0 = 1) (k : Q (some (.int y0)) h) : RC d 69 Q 14 [some (.ref 12), some (.int x1)] [.int y0] h := Exists.intro 1 (And.intro (Or.inr hz) k)
theorem bC_70_0 {d : Nat} {Q : Option Value → ai_H → Prop} {h h2 : ai_H} {x1 r : Int32} (hc : CC d 60 [.ref 12, .int x1] h (some (.int r)) h2) (k : RC d 70 Q 5 [some (.ref 12), some (.int x1)] [.int r] h2) : RC d 70 Q 0 [some (.ref 12), some (.int x1)] [] h := by
  obtain ⟨n, e⟩ := k
  exact Exists.intro (n + 3) (Exists.intro [.int x1] (Exists.intro 12 (Exists.intro [] (Exists.intro _ (Exists.intro (some (.int r)) (Exists.intro h2 (And.intro rfl (And.intro rfl (And.intro rfl (And.intro (Nat.le_of_ble_eq_true rfl) (And.intro hc e)))))))))))
theorem bC_70_5 {d : Nat} {Q : Option Value → ai_H → Prop} {h : ai_H} {x1 y0 : Int32} (kt : y0 = 1 → RC d 70 Q 22 [some (.ref 12), some (.int x1)] [] h) (kf : ¬ y0 = 1 → RC d 70 Q 9 [some (.ref 12), some (.int x1)] [] h) : RC d 70 Q 5 [some (.ref 12), some (.int x1)] [.int y0] h := by
  by_cases c : y0 = 1
  · obtain ⟨n, e⟩ := kt c
    exact Exists.intro (n + 2) (Or.inl (And.intro c e))
  · obtain ⟨n, e⟩ := kf c
    exact Exists.intro (n + 2) (Or.inr (And.intro c e))
theorem bC_70_9 {d : Nat} {Q : Option Value → ai_H → Prop} {h h2 : ai_H} {x1 r : Int32} (hc : CC d 60 [.ref 12, .int x1] h (some (.int r)) h2) (k : RC d 70 Q 14 [some (.ref 12), some (.int x1)] [.int r] h2) : RC d 70 Q 9 [some (.ref 12), some (.int x1)] [] h := by
  obtain ⟨n, e⟩ := k
  exact Exists.intro (n + 3) (Exists.intro [.int x1] (Exists.intro 12 (Exists.intro [] (Exists.intro _ (Exists.intro (some (.int r)) (Exists.intro h2 (And.intro rfl (And.intro rfl (And.intro rfl (And.intro (Nat.le_of_ble_eq_true rfl) (And.intro hc e)))))))))))
theorem bC_70_14 {d : Nat} {Q : Option Value → ai_H → Prop} {h : ai_H} {x1 y0 : Int32} (kt : y0 = 2 → RC d 70 Q 22 [some (.ref 12), some (.int x1)] [] h) (kf : ¬ y0 = 2 → RC d 70 Q 18 [some (.ref 12), some (.int x1)] [] h) : RC d 70 Q 14 [some (.ref 12), some (.int x1)] [.int y0] h := by
  by_cases c : y0 = 2
  · obtain ⟨n, e⟩ := kt c
    exact Exists.intro (n + 2) (Or.inl (And.intro c e))
  · obtain ⟨n, e⟩ := kf c
    exact Exists.intro (n + 2) (Or.inr (And.intro c e))
theorem bC_70_18 {d : Nat} {Q : Option Value → ai_H → Prop} {h : ai_H} {x1 : Int32} (k : RC d 70 Q 23 [some (.ref 12), some (.int x1)] [.int 1] h) : RC d 70 Q 18 [some (.ref 12), some (.int x1)] [] h := by
  obtain ⟨n, e⟩ := k
  exact Exists.intro (n + 2) (e)
theorem bC_70_22 {d : Nat} {Q : Option Value → ai_H → Prop} {h : ai_H} {x1 : Int32} (k : RC d 70 Q 23 [some (.ref 12), some (.int x1)] [.int 0] h) : RC d 70 Q 22 [some (.ref 12), some (.int x1)] [] h := by
  obtain ⟨n, e⟩ := k
  exact Exists.intro (n + 1) (e)
theorem bC_70_23 {d : Nat} {Q : Option Value → ai_H → Prop} {h : ai_H} {x1 y0 : Int32} (hz : y0 = 0 ∨ y0 = 1) (k : Q (some (.int y0)) h) : RC d 70 Q 23 [some (.ref 12), some (.int x1)] [.int y0] h := Exists.intro 1 (And.intro (Or.inr hz) k)
theorem bC_71_0 {d : Nat} {Q : Option Value → ai_H → Prop} {h : ai_H} (k : Q (some (.int (h 12 10))) h) : RC d 71 Q 0 [some (.ref 12)] [] h := Exists.intro 3 (And.intro rfl (And.intro (Or.inl rfl) k))
theorem bC_72_0 {d : Nat} {Q : Option Value → ai_H → Prop} {h : ai_H} {x1 : Int32} (kt : x1 < 200 → RC d 72 Q 20 [some (.ref 12), some (.int x1)] [] h) (kf : ¬ x1 < 200 → RC d 72 Q 7 [some (.ref 12), some (.int x1)] [] h) : RC d 72 Q 0 [some (.ref 12), some (.int x1)] [] h := by
  by_cases c : x1 < 200
  · obtain ⟨n, e⟩ := kt c
    exact Exists.intro (n + 3) (Or.inl (And.intro c e))
  · obtain ⟨n, e⟩ := kf c
    exact Exists.intro (n + 3) (Or.inr (And.intro c e))
theorem bC_72_7 {d : Nat} {Q : Option Value → ai_H → Prop} {h : ai_H} {x1 : Int32} (kt : (h 12 10) < x1 → RC d 72 Q 20 [some (.ref 12), some (.int x1)] [] h) (kf : ¬ (h 12 10) < x1 → RC d 72 Q 15 [some (.ref 12), some (.int x1)] [] h) : RC d 72 Q 7 [some (.ref 12), some (.int x1)] [] h := by
  by_cases c : (h 12 10) < x1
  · obtain ⟨n, e⟩ := kt c
    exact Exists.intro (n + 4) (And.intro rfl (Or.inl (And.intro c e)))
  · obtain ⟨n, e⟩ := kf c
    exact Exists.intro (n + 4) (And.intro rfl (Or.inr (And.intro c e)))
theorem bC_72_15 {d : Nat} {Q : Option Value → ai_H → Prop} {h : ai_H} {x1 : Int32} (k : RC d 72 Q 20 [some (.ref 12), some (.int x1)] [] (ai_up h 12 10 x1)) : RC d 72 Q 15 [some (.ref 12), some (.int x1)] [] h := by
  obtain ⟨n, e⟩ := k
  exact Exists.intro (n + 3) (And.intro (Exists.intro _ (And.intro rfl rfl)) (And.intro (Or.inl rfl) (e)))
theorem bC_72_20 {d : Nat} {Q : Option Value → ai_H → Prop} {h : ai_H} {x1 : Int32} (k : Q none h) : RC d 72 Q 20 [some (.ref 12), some (.int x1)] [] h := Exists.intro 1 (k)
theorem bC_73_0 {d : Nat} {Q : Option Value → ai_H → Prop} {h : ai_H} (k : Q none (ai_up (ai_up h 12 10 200) 12 12 0)) : RC d 73 Q 0 [some (.ref 12)] [] h := Exists.intro 7 (And.intro (Exists.intro _ (And.intro rfl rfl)) (And.intro (Or.inl rfl) (And.intro (Exists.intro _ (And.intro rfl rfl)) (And.intro (Or.inr (Or.inl rfl)) (k)))))
set_option maxRecDepth 4000 in
theorem bC_74_0 {d : Nat} {Q : Option Value → ai_H → Prop} {h : ai_H} {x1 x2 x3 x4 x5 x6 : Int32} (k : RC d 74 Q 4 [some (.ref 12), some (.int x1), some (.int x2), some (.int x3), some (.int x4), some (.int x5), some (.int x6), some (.int 10), none, none, none, none] [] h) : RC d 74 Q 0 [some (.ref 12), some (.int x1), some (.int x2), some (.int x3), some (.int x4), some (.int x5), some (.int x6), none, none, none, none, none] [] h := by
  obtain ⟨n, e⟩ := k
  exact Exists.intro (n + 2) (Exists.intro _ (And.intro rfl (e)))
set_option maxRecDepth 4000 in
theorem bC_74_4 {d : Nat} {Q : Option Value → ai_H → Prop} {h : ai_H} {x1 x2 x3 x4 x5 x6 x7 : Int32} (kt : (h 12 10) ≤ x7 → RC d 74 Q 126 [some (.ref 12), some (.int x1), some (.int x2), some (.int x3), some (.int x4), some (.int x5), some (.int x6), some (.int x7), none, none, none, none] [] h) (kf : ¬ (h 12 10) ≤ x7 → RC d 74 Q 13 [some (.ref 12), some (.int x1), some (.int x2), some (.int x3), some (.int x4), some (.int x5), some (.int x6), some (.int x7), none, none, none, none] [] h) : RC d 74 Q 4 [some (.ref 12), some (.int x1), some (.int x2), some (.int x3), some (.int x4), some (.int x5), some (.int x6), some (.int x7), none, none, none, none] [] h := by
  by_cases c : (h 12 10) ≤ x7
  · obtain ⟨n, e⟩ := kt c
    exact Exists.intro (n + 4) (And.intro rfl (Or.inl (And.intro c e)))
  · obtain ⟨n, e⟩ := kf c
    exact Exists.intro (n + 4) (And.intro rfl (Or.inr (And.intro c e)))
set_option maxRecDepth 4000 in
theorem bC_74_13 {d : Nat} {Q : Option Value → ai_H → Prop} {h : ai_H} {x1 x2 x3 x4 x5 x6 x7 : Int32} (kt : x7 < (h 12 9) → RC d 74 Q 38 [some (.ref 12), some (.int x1), some (.int x2), some (.int x3), some (.int x4), some (.int x5), some (.int x6), some (.int x7), none, none, none, none] [] h) (kf : ¬ x7 < (h 12 9) → RC d 74 Q 22 [some (.ref 12), some (.int x1), some (.int x2), some (.int x3), some (.int x4), some (.int x5), some (.int x6), some (.int x7), none, none, none, none] [] h) : RC d 74 Q 13 [some (.ref 12), some (.int x1), some (.int x2), some (.int x3), some (.int x4), some (.int x5), some (.int x6), some (.int x7), none, none, none, none] [] h := by
  by_cases c : x7 < (h 12 9)
  · obtain ⟨n, e⟩ := kt c
    exact Exists.intro (n + 4) (And.intro rfl (Or.inl (And.intro c e)))
  · obtain ⟨n, e⟩ := kf c
    exact Exists.intro (n + 4) (And.intro rfl (Or.inr (And.intro c e)))
set_option maxRecDepth 4000 in
theorem bC_74_22 {d : Nat} {Q : Option Value → ai_H → Prop} {h : ai_H} {x1 x2 x3 x4 x5 x6 x7 : Int32} (kt : 200 ≤ x7 → RC d 74 Q 38 [some (.ref 12), some (.int x1), some (.int x2), some (.int x3), some (.int x4), some (.int x5), some (.int x6), some (.int x7), none, none, none, none] [] h) (kf : ¬ 200 ≤ x7 → RC d 74 Q 30 [some (.ref 12), some (.int x1), some (.int x2), some (.int x3), some (.int x4), some (.int x5), some (.int x6), some (.int x7), none, none, none, none] [] h) : RC d 74 Q 22 [some (.ref 12), some (.int x1), some (.int x2), some (.int x3), some (.int x4), some (.int x5), some (.int x6), some (.int x7), none, none, none, none] [] h := by
  by_cases c : 200 ≤ x7
  · obtain ⟨n, e⟩ := kt c
    exact Exists.intro (n + 3) (Or.inl (And.intro c e))
  · obtain ⟨n, e⟩ := kf c
    exact Exists.intro (n + 3) (Or.inr (And.intro c e))
set_option maxRecDepth 4000 in
theorem bC_74_30 {d : Nat} {Q : Option Value → ai_H → Prop} {h : ai_H} {x1 x2 x3 x4 x5 x6 x7 : Int32} (k : RC d 74 Q 120 [some (.ref 12), some (.int x1), some (.int x2), some (.int x3), some (.int x4), some (.int x5), some (.int x6), some (.int 199), none, none, none, none] [] h) : RC d 74 Q 30 [some (.ref 12), some (.int x1), some (.int x2), some (.int x3), some (.int x4), some (.int x5), some (.int x6), some (.int x7), none, none, none, none] [] h := by
  obtain ⟨n, e⟩ := k
  exact Exists.intro (n + 3) (Exists.intro _ (And.intro rfl (e)))
set_option maxRecDepth 4000 in
theorem bC_74_38 {d : Nat} {Q : Option Value → ai_H → Prop} {h : ai_H} {x1 x2 x3 x4 x5 x6 x7 : Int32} (hi1 : vp_in x7 512) (kt : ¬ (h 13 (Int32.toNatClampNeg x7)) = x1 → RC d 74 Q 120 [some (.ref 12), some (.int x1), some (.int x2), some (.int x3), some (.int x4), some (.int x5), some (.int x6), some (.int x7), none, none, none, none] [] h) (kf : (h 13 (Int32.toNatClampNeg x7)) = x1 → RC d 74 Q 49 [some (.ref 12), some (.int x1), some (.int x2), some (.int x3), some (.int x4), some (.int x5), some (.int x6), some (.int x7), none, none, none, none] [] h) : RC d 74 Q 38 [some (.ref 12), some (.int x1), some (.int x2), some (.int x3), some (.int x4), some (.int x5), some (.int x6), some (.int x7), none, none, none, none] [] h := by
  by_cases c : (h 13 (Int32.toNatClampNeg x7)) = x1
  · obtain ⟨n, e⟩ := kf c
    exact Exists.intro (n + 6) (And.intro rfl (Exists.intro 512 (And.intro rfl (And.intro hi1 (Or.inr (And.intro (fun z => z c) e))))))
  · obtain ⟨n, e⟩ := kt c
    exact Exists.intro (n + 6) (And.intro rfl (Exists.intro 512 (And.intro rfl (And.intro hi1 (Or.inl (And.intro c e))))))
set_option maxRecDepth 4000 in
theorem bC_74_49 {d : Nat} {Q : Option Value → ai_H → Prop} {h : ai_H} {x1 x2 x3 x4 x5 x6 x7 : Int32} (hi1 : vp_in x7 512) (kt : ¬ (h 14 (Int32.toNatClampNeg x7)) = x2 → RC d 74 Q 120 [some (.ref 12), some (.int x1), some (.int x2), some (.int x3), some (.int x4), some (.int x5), some (.int x6), some (.int x7), none, none, none, none] [] h) (kf : (h 14 (Int32.toNatClampNeg x7)) = x2 → RC d 74 Q 60 [some (.ref 12), some (.int x1), some (.int x2), some (.int x3), some (.int x4), some (.int x5), some (.int x6), some (.int x7), none, none, none, none] [] h) : RC d 74 Q 49 [some (.ref 12), some (.int x1), some (.int x2), some (.int x3), some (.int x4), some (.int x5), some (.int x6), some (.int x7), none, none, none, none] [] h := by
  by_cases c : (h 14 (Int32.toNatClampNeg x7)) = x2
  · obtain ⟨n, e⟩ := kf c
    exact Exists.intro (n + 6) (And.intro rfl (Exists.intro 512 (And.intro rfl (And.intro hi1 (Or.inr (And.intro (fun z => z c) e))))))
  · obtain ⟨n, e⟩ := kt c
    exact Exists.intro (n + 6) (And.intro rfl (Exists.intro 512 (And.intro rfl (And.intro hi1 (Or.inl (And.intro c e))))))
set_option maxRecDepth 4000 in
theorem bC_74_60 {d : Nat} {Q : Option Value → ai_H → Prop} {h : ai_H} {x1 x2 x3 x4 x5 x6 x7 : Int32} (hi1 : vp_in x7 512) (kt : ¬ (h 16 (Int32.toNatClampNeg x7)) = x3 → RC d 74 Q 120 [some (.ref 12), some (.int x1), some (.int x2), some (.int x3), some (.int x4), some (.int x5), some (.int x6), some (.int x7), none, none, none, none] [] h) (kf : (h 16 (Int32.toNatClampNeg x7)) = x3 → RC d 74 Q 71 [some (.ref 12), some (.int x1), some (.int x2), some (.int x3), some (.int x4), some (.int x5), some (.int x6), some (.int x7), none, none, none, none] [] h) : RC d 74 Q 60 [some (.ref 12), some (.int x1), some (.int x2), some (.int x3), some (.int x4), some (.int x5), some (.int x6), some (.int x7), none, none, none, none] [] h := by
  by_cases c : (h 16 (Int32.toNatClampNeg x7)) = x3
  · obtain ⟨n, e⟩ := kf c
    exact Exists.intro (n + 6) (And.intro rfl (Exists.intro 512 (And.intro rfl (And.intro hi1 (Or.inr (And.intro (fun z => z c) e))))))
  · obtain ⟨n, e⟩ := kt c
    exact Exists.intro (n + 6) (And.intro rfl (Exists.intro 512 (And.intro rfl (And.intro hi1 (Or.inl (And.intro c e))))))
set_option maxRecDepth 4000 in
theorem bC_74_71 {d : Nat} {Q : Option Value → ai_H → Prop} {h : ai_H} {x1 x2 x3 x4 x5 x6 x7 : Int32} (hi1 : vp_in (x7 * 3) 1536) (kt : ¬ (h 17 (Int32.toNatClampNeg (x7 * 3))) = x4 → RC d 74 Q 120 [some (.ref 12), some (.int x1), some (.int x2), some (.int x3), some (.int x4), some (.int x5), some (.int x6), some (.int x7), none, none, none, none] [] h) (kf : (h 17 (Int32.toNatClampNeg (x7 * 3))) = x4 → RC d 74 Q 85 [some (.ref 12), some (.int x1), some (.int x2), some (.int x3), some (.int x4), some (.int x5), some (.int x6), some (.int x7), none, none, none, none] [] h) : RC d 74 Q 71 [some (.ref 12), some (.int x1), some (.int x2), some (.int x3), some (.int x4), some (.int x5), some (.int x6), some (.int x7), none, none, none, none] [] h := by
  by_cases c : (h 17 (Int32.toNatClampNeg (x7 * 3))) = x4
  · obtain ⟨n, e⟩ := kf c
    exact Exists.intro (n + 8) (And.intro rfl (Exists.intro 1536 (And.intro rfl (And.intro hi1 (Or.inr (And.intro (fun z => z c) e))))))
  · obtain ⟨n, e⟩ := kt c
    exact Exists.intro (n + 8) (And.intro rfl (Exists.intro 1536 (And.intro rfl (And.intro hi1 (Or.inl (And.intro c e))))))
set_option maxRecDepth 4000 in
theorem bC_74_85 {d : Nat} {Q : Option Value → ai_H → Prop} {h : ai_H} {x1 x2 x3 x4 x5 x6 x7 : Int32} (hi1 : vp_in ((x7 * 3) + 1) 1536) (kt : ¬ (h 17 (Int32.toNatClampNeg ((x7 * 3) + 1))) = x5 → RC d 74 Q 120 [some (.ref 12), some (.int x1), some (.int x2), some (.int x3), some (.int x4), some (.int x5), some (.int x6), some (.int x7), none, none, none, none] [] h) (kf : (h 17 (Int32.toNatClampNeg ((x7 * 3) + 1))) = x5 → RC d 74 Q 101 [some (.ref 12), some (.int x1), some (.int x2), some (.int x3), some (.int x4), some (.int x5), some (.int x6), some (.int x7), none, none, none, none] [] h) : RC d 74 Q 85 [some (.ref 12), some (.int x1), some (.int x2), some (.int x3), some (.int x4), some (.int x5), some (.int x6), some (.int x7), none, none, none, none] [] h := by
  by_cases c : (h 17 (Int32.toNatClampNeg ((x7 * 3) + 1))) = x5
  · obtain ⟨n, e⟩ := kf c
    exact Exists.intro (n + 10) (And.intro rfl (Exists.intro 1536 (And.intro rfl (And.intro hi1 (Or.inr (And.intro (fun z => z c) e))))))
  · obtain ⟨n, e⟩ := kt c
    exact Exists.intro (n + 10) (And.intro rfl (Exists.intro 1536 (And.intro rfl (And.intro hi1 (Or.inl (And.intro c e))))))
set_option maxRecDepth 4000 in
theorem bC_74_101 {d : Nat} {Q : Option Value → ai_H → Prop} {h : ai_H} {x1 x2 x3 x4 x5 x6 x7 : Int32} (hi1 : vp_in ((x7 * 3) + 2) 1536) (kt : ¬ (h 17 (Int32.toNatClampNeg ((x7 * 3) + 2))) = x6 → RC d 74 Q 120 [some (.ref 12), some (.int x1), some (.int x2), some (.int x3), some (.int x4), some (.int x5), some (.int x6), some (.int x7), none, none, none, none] [] h) (kf : (h 17 (Int32.toNatClampNeg ((x7 * 3) + 2))) = x6 → RC d 74 Q 117 [some (.ref 12), some (.int x1), some (.int x2), some (.int x3), some (.int x4), some (.int x5), some (.int x6), some (.int x7), none, none, none, none] [] h) : RC d 74 Q 101 [some (.ref 12), some (.int x1), some (.int x2), some (.int x3), some (.int x4), some (.int x5), some (.int x6), some (.int x7), none, none, none, none] [] h := by
  by_cases c : (h 17 (Int32.toNatClampNeg ((x7 * 3) + 2))) = x6
  · obtain ⟨n, e⟩ := kf c
    exact Exists.intro (n + 10) (And.intro rfl (Exists.intro 1536 (And.intro rfl (And.intro hi1 (Or.inr (And.intro (fun z => z c) e))))))
  · obtain ⟨n, e⟩ := kt c
    exact Exists.intro (n + 10) (And.intro rfl (Exists.intro 1536 (And.intro rfl (And.intro hi1 (Or.inl (And.intro c e))))))
set_option maxRecDepth 4000 in
theorem bC_74_117 {d : Nat} {Q : Option Value → ai_H → Prop} {h : ai_H} {x1 x2 x3 x4 x5 x6 x7 : Int32} (k : Q (some (.int x7)) h) : RC d 74 Q 117 [some (.ref 12), some (.int x1), some (.int x2), some (.int x3), some (.int x4), some (.int x5), some (.int x6), some (.int x7), none, none, none, none] [] h := Exists.intro 2 (And.intro (Or.inl rfl) k)
set_option maxRecDepth 4000 in
theorem bC_74_120 {d : Nat} {Q : Option Value → ai_H → Prop} {h : ai_H} {x1 x2 x3 x4 x5 x6 x7 : Int32} (k : RC d 74 Q 4 [some (.ref 12), some (.int x1), some (.int x2), some (.int x3), some (.int x4), some (.int x5), some (.int x6), some (.int (x7 + 1)), none, none, none, none] [] h) : RC d 74 Q 120 [some (.ref 12), some (.int x1), some (.int x2), some (.int x3), some (.int x4), some (.int x5), some (.int x6), some (.int x7), none, none, none, none] [] h := by
  obtain ⟨n, e⟩ := k
  exact Exists.intro (n + 2) (Exists.intro _ (And.intro rfl (e)))
set_option maxRecDepth 4000 in
theorem bC_74_126 {d : Nat} {Q : Option Value → ai_H → Prop} {h : ai_H} {x1 x2 x3 x4 x5 x6 x7 : Int32} (kt : (h 12 11) = 0 → RC d 74 Q 140 [some (.ref 12), some (.int x1), some (.int x2), some (.int x3), some (.int x4), some (.int x5), some (.int x6), some (.int x7), none, none, none, none] [] h) (kf : ¬ (h 12 11) = 0 → RC d 74 Q 133 [some (.ref 12), some (.int x1), some (.int x2), some (.int x3), some (.int x4), some (.int x5), some (.int x6), some (.int x7), none, none, none, none] [] h) : RC d 74 Q 126 [some (.ref 12), some (.int x1), some (.int x2), some (.int x3), some (.int x4), some (.int x5), some (.int x6), some (.int x7), none, none, none, none] [] h := by
  by_cases c : (h 12 11) = 0
  · obtain ⟨n, e⟩ := kt c
    exact Exists.intro (n + 3) (And.intro rfl (Or.inl (And.intro c e)))
  · obtain ⟨n, e⟩ := kf c
    exact Exists.intro (n + 3) (And.intro rfl (Or.inr (And.intro c e)))
set_option maxRecDepth 4000 in
theorem bC_74_133 {d : Nat} {Q : Option Value → ai_H → Prop} {h : ai_H} {x1 x2 x3 x4 x5 x6 x7 : Int32} (k : RC d 74 Q 144 [some (.ref 12), some (.int x1), some (.int x2), some (.int x3), some (.int x4), some (.int x5), some (.int x6), some (.int x7), none, none, none, none] [.int (h 12 9)] h) : RC d 74 Q 133 [some (.ref 12), some (.int x1), some (.int x2), some (.int x3), some (.int x4), some (.int x5), some (.int x6), some (.int x7), none, none, none, none] [] h := by
  obtain ⟨n, e⟩ := k
  exact Exists.intro (n + 3) (And.intro rfl (e))
set_option maxRecDepth 4000 in
theorem bC_74_140 {d : Nat} {Q : Option Value → ai_H → Prop} {h : ai_H} {x1 x2 x3 x4 x5 x6 x7 : Int32} (k : RC d 74 Q 144 [some (.ref 12), some (.int x1), some (.int x2), some (.int x3), some (.int x4), some (.int x5), some (.int x6), some (.int x7), none, none, none, none] [.int (h 12 10)] h) : RC d 74 Q 140 [some (.ref 12), some (.int x1), some (.int x2), some (.int x3), some (.int x4), some (.int x5), some (.int x6), some (.int x7), none, none, none, none] [] h := by
  obtain ⟨n, e⟩ := k
  exact Exists.intro (n + 2) (And.intro rfl (e))
set_option maxRecDepth 4000 in
theorem bC_74_144 {d : Nat} {Q : Option Value → ai_H → Prop} {h : ai_H} {x1 x2 x3 x4 x5 x6 x7 y0 : Int32} (kt : (h 12 11) = 0 → RC d 74 Q 161 [some (.ref 12), some (.int x1), some (.int x2), some (.int x3), some (.int x4), some (.int x5), some (.int x6), some (.int y0), none, none, none, none] [.int y0] h) (kf : ¬ (h 12 11) = 0 → RC d 74 Q 155 [some (.ref 12), some (.int x1), some (.int x2), some (.int x3), some (.int x4), some (.int x5), some (.int x6), some (.int y0), none, none, none, none] [.int y0] h) : RC d 74 Q 144 [some (.ref 12), some (.int x1), some (.int x2), some (.int x3), some (.int x4), some (.int x5), some (.int x6), some (.int x7), none, none, none, none] [.int y0] h := by
  by_cases c : (h 12 11) = 0
  · obtain ⟨n, e⟩ := kt c
    exact Exists.intro (n + 5) (Exists.intro _ (And.intro rfl (And.intro rfl (Or.inl (And.intro c e)))))
  · obtain ⟨n, e⟩ := kf c
    exact Exists.intro (n + 5) (Exists.intro _ (And.intro rfl (And.intro rfl (Or.inr (And.intro c e)))))
set_option maxRecDepth 4000 in
theorem bC_74_155 {d : Nat} {Q : Option Value → ai_H → Prop} {h : ai_H} {x1 x2 x3 x4 x5 x6 x7 y0 : Int32} (k : RC d 74 Q 164 [some (.ref 12), some (.int x1), some (.int x2), some (.int x3), some (.int x4), some (.int x5), some (.int x6), some (.int x7), none, none, none, none] [.int 200, .int y0] h) : RC d 74 Q 155 [some (.ref 12), some (.int x1), some (.int x2), some (.int x3), some (.int x4), some (.int x5), some (.int x6), some (.int x7), none, none, none, none] [.int y0] h := by
  obtain ⟨n, e⟩ := k
  exact Exists.intro (n + 2) (e)
set_option maxRecDepth 4000 in
theorem bC_74_161 {d : Nat} {Q : Option Value → ai_H → Prop} {h : ai_H} {x1 x2 x3 x4 x5 x6 x7 y0 : Int32} (k : RC d 74 Q 164 [some (.ref 12), some (.int x1), some (.int x2), some (.int x3), some (.int x4), some (.int x5), some (.int x6), some (.int x7), none, none, none, none] [.int 512, .int y0] h) : RC d 74 Q 161 [some (.ref 12), some (.int x1), some (.int x2), some (.int x3), some (.int x4), some (.int x5), some (.int x6), some (.int x7), none, none, none, none] [.int y0] h := by
  obtain ⟨n, e⟩ := k
  exact Exists.intro (n + 1) (e)
set_option maxRecDepth 4000 in
theorem bC_74_164 {d : Nat} {Q : Option Value → ai_H → Prop} {h : ai_H} {x1 x2 x3 x4 x5 x6 x7 y0 y1 : Int32} (kt : y0 < y1 → RC d 74 Q 175 [some (.ref 12), some (.int x1), some (.int x2), some (.int x3), some (.int x4), some (.int x5), some (.int x6), some (.int x7), none, none, none, none] [] h) (kf : ¬ y0 < y1 → RC d 74 Q 167 [some (.ref 12), some (.int x1), some (.int x2), some (.int x3), some (.int x4), some (.int x5), some (.int x6), some (.int x7), none, none, none, none] [] h) : RC d 74 Q 164 [some (.ref 12), some (.int x1), some (.int x2), some (.int x3), some (.int x4), some (.int x5), some (.int x6), some (.int x7), none, none, none, none] [.int y1, .int y0] h := by
  by_cases c : y0 < y1
  · obtain ⟨n, e⟩ := kt c
    exact Exists.intro (n + 1) (Or.inl (And.intro c e))
  · obtain ⟨n, e⟩ := kf c
    exact Exists.intro (n + 1) (Or.inr (And.intro c e))
set_option maxRecDepth 4000 in
theorem bC_74_167 {d : Nat} {Q : Option Value → ai_H → Prop} {h : ai_H} {x1 x2 x3 x4 x5 x6 x7 : Int32} (k : Q (some (.int 10)) (ai_up h 12 12 1)) : RC d 74 Q 167 [some (.ref 12), some (.int x1), some (.int x2), some (.int x3), some (.int x4), some (.int x5), some (.int x6), some (.int x7), none, none, none, none] [] h := Exists.intro 5 (And.intro (Exists.intro _ (And.intro rfl rfl)) (And.intro (Or.inr (Or.inr rfl)) (And.intro (Or.inl rfl) k)))
set_option maxRecDepth 4000 in
theorem bC_74_175 {d : Nat} {Q : Option Value → ai_H → Prop} {h : ai_H} {x1 x2 x3 x4 x5 x6 x7 : Int32} (hi1 : vp_in x7 512) (hi2 : vp_in x7 512) (hi3 : vp_in x7 512) (hi4 : vp_in x7 512) (hi5 : vp_in (x7 * 3) 1536) (hi6 : vp_in ((x7 * 3) + 1) 1536) (hi7 : vp_in ((x7 * 3) + 2) 1536) (k : RC d 74 Q 253 [some (.ref 12), some (.int x1), some (.int x2), some (.int x3), some (.int x4), some (.int x5), some (.int x6), some (.int x7), some (.int 1), some (.int 0), some (.int 0), none] [] (ai_up (ai_up (ai_up (ai_up (ai_up (ai_up (ai_up h 13 (Int32.toNatClampNeg x7) x1) 14 (Int32.toNatClampNeg x7) x2) 15 (Int32.toNatClampNeg x7) (-1)) 16 (Int32.toNatClampNeg x7) x3) 17 (Int32.toNatClampNeg (x7 * 3)) x4) 17 (Int32.toNatClampNeg ((x7 * 3) + 1)) x5) 17 (Int32.toNatClampNeg ((x7 * 3) + 2)) x6)) : RC d 74 Q 175 [some (.ref 12), some (.int x1), some (.int x2), some (.int x3), some (.int x4), some (.int x5), some (.int x6), some (.int x7), none, none, none, none] [] h := by
  obtain ⟨n, e⟩ := k
  exact Exists.intro (n + 51) (And.intro rfl (Exists.intro 512 (And.intro rfl (And.intro hi1 (And.intro rfl (Exists.intro 512 (And.intro rfl (And.intro hi2 (And.intro rfl (Exists.intro 512 (And.intro rfl (And.intro hi3 (And.intro rfl (Exists.intro 512 (And.intro rfl (And.intro hi4 (And.intro rfl (Exists.intro 1536 (And.intro rfl (And.intro hi5 (And.intro rfl (Exists.intro 1536 (And.intro rfl (And.intro hi6 (And.intro rfl (Exists.intro 1536 (And.intro rfl (And.intro hi7 (Exists.intro _ (And.intro rfl (Exists.intro _ (And.intro rfl (Exists.intro _ (And.intro rfl (e)))))))))))))))))))))))))))))))))))
set_option maxRecDepth 4000 in
theorem bC_74_253 {d : Nat} {Q : Option Value → ai_H → Prop} {h : ai_H} {x1 x2 x3 x4 x5 x6 x7 x8 x9 x10 : Int32} {o11 : Option Value} (kt : 3 < x10 → RC d 74 Q 330 [some (.ref 12), some (.int x1), some (.int x2), some (.int x3), some (.int x4), some (.int x5), some (.int x6), some (.int x7), some (.int x8), some (.int x9), some (.int x10), o11] [] h) (kf : ¬ 3 < x10 → RC d 74 Q 259 [some (.ref 12), some (.int x1), some (.int x2), some (.int x3), some (.int x4), some (.int x5), some (.int x6), some (.int x7), some (.int x8), some (.int x9), some (.int x10), o11] [] h) : RC d 74 Q 253 [some (.ref 12), some (.int x1), some (.int x2), some (.int x3), some (.int x4), some (.int x5), some (.int x6), some (.int x7), some (.int x8), some (.int x9), some (.int x10), o11] [] h := by
  by_cases c : 3 < x10
  · obtain ⟨n, e⟩ := kt c
    exact Exists.intro (n + 3) (Or.inl (And.intro c e))
  · obtain ⟨n, e⟩ := kf c
    exact Exists.intro (n + 3) (Or.inr (And.intro c e))
set_option maxRecDepth 4000 in
theorem bC_74_259 {d : Nat} {Q : Option Value → ai_H → Prop} {h : ai_H} {x1 x2 x3 x4 x5 x6 x7 x8 x9 x10 : Int32} {o11 : Option Value} (kt : 3 ≤ x10 → RC d 74 Q 284 [some (.ref 12), some (.int x1), some (.int x2), some (.int x3), some (.int x4), some (.int x5), some (.int x6), some (.int x7), some (.int x8), some (.int x9), some (.int x10), o11] [] h) (kf : ¬ 3 ≤ x10 → RC d 74 Q 265 [some (.ref 12), some (.int x1), some (.int x2), some (.int x3), some (.int x4), some (.int x5), some (.int x6), some (.int x7), some (.int x8), some (.int x9), some (.int x10), o11] [] h) : RC d 74 Q 259 [some (.ref 12), some (.int x1), some (.int x2), some (.int x3), some (.int x4), some (.int x5), some (.int x6), some (.int x7), some (.int x8), some (.int x9), some (.int x10), o11] [] h := by
  by_cases c : 3 ≤ x10
  · obtain ⟨n, e⟩ := kt c
    exact Exists.intro (n + 3) (Or.inl (And.intro c e))
  · obtain ⟨n, e⟩ := kf c
    exact Exists.intro (n + 3) (Or.inr (And.intro c e))
set_option maxRecDepth 4000 in
theorem bC_74_265 {d : Nat} {Q : Option Value → ai_H → Prop} {h : ai_H} {x1 x2 x3 x4 x5 x6 x7 x8 x9 x10 : Int32} {o11 : Option Value} (hi1 : vp_in ((x7 * 3) + x10) 1536) (k : RC d 74 Q 285 [some (.ref 12), some (.int x1), some (.int x2), some (.int x3), some (.int x4), some (.int x5), some (.int x6), some (.int x7), some (.int x8), some (.int x9), some (.int x10), o11] [.int (((h 17 (Int32.toNatClampNeg ((x7 * 3) + x10))) >>> (2 &&& 31)) - 1)] h) : RC d 74 Q 265 [some (.ref 12), some (.int x1), some (.int x2), some (.int x3), some (.int x4), some (.int x5), some (.int x6), some (.int x7), some (.int x8), some (.int x9), some (.int x10), o11] [] h := by
  obtain ⟨n, e⟩ := k
  exact Exists.intro (n + 13) (And.intro rfl (Exists.intro 1536 (And.intro rfl (And.intro hi1 (e)))))
set_option maxRecDepth 4000 in
theorem bC_74_284 {d : Nat} {Q : Option Value → ai_H → Prop} {h : ai_H} {x1 x2 x3 x4 x5 x6 x7 x8 x9 x10 : Int32} {o11 : Option Value} (k : RC d 74 Q 285 [some (.ref 12), some (.int x1), some (.int x2), some (.int x3), some (.int x4), some (.int x5), some (.int x6), some (.int x7), some (.int x8), some (.int x9), some (.int x10), o11] [.int x3] h) : RC d 74 Q 284 [some (.ref 12), some (.int x1), some (.int x2), some (.int x3), some (.int x4), some (.int x5), some (.int x6), some (.int x7), some (.int x8), some (.int x9), some (.int x10), o11] [] h := by
  obtain ⟨n, e⟩ := k
  exact Exists.intro (n + 1) (e)
set_option maxRecDepth 4000 in
theorem bC_74_285 {d : Nat} {Q : Option Value → ai_H → Prop} {h : ai_H} {x1 x2 x3 x4 x5 x6 x7 x8 x9 x10 y0 : Int32} {o11 : Option Value} (kt : y0 < 0 → RC d 74 Q 324 [some (.ref 12), some (.int x1), some (.int x2), some (.int x3), some (.int x4), some (.int x5), some (.int x6), some (.int x7), some (.int x8), some (.int x9), some (.int x10), some (.int y0)] [] h) (kf : ¬ y0 < 0 → RC d 74 Q 292 [some (.ref 12), some (.int x1), some (.int x2), some (.int x3), some (.int x4), some (.int x5), some (.int x6), some (.int x7), some (.int x8), some (.int x9), some (.int x10), some (.int y0)] [] h) : RC d 74 Q 285 [some (.ref 12), some (.int x1), some (.int x2), some (.int x3), some (.int x4), some (.int x5), some (.int x6), some (.int x7), some (.int x8), some (.int x9), some (.int x10), o11] [.int y0] h := by
  by_cases c : y0 < 0
  · obtain ⟨n, e⟩ := kt c
    exact Exists.intro (n + 3) (Exists.intro _ (And.intro rfl (Or.inl (And.intro c e))))
  · obtain ⟨n, e⟩ := kf c
    exact Exists.intro (n + 3) (Exists.intro _ (And.intro rfl (Or.inr (And.intro c e))))
set_option maxRecDepth 4000 in
theorem bC_74_292 {d : Nat} {Q : Option Value → ai_H → Prop} {h : ai_H} {x1 x2 x3 x4 x5 x6 x7 x8 x9 x10 x11 : Int32} (kt : 512 ≤ x11 → RC d 74 Q 324 [some (.ref 12), some (.int x1), some (.int x2), some (.int x3), some (.int x4), some (.int x5), some (.int x6), some (.int x7), some (.int x8), some (.int x9), some (.int x10), some (.int x11)] [] h) (kf : ¬ 512 ≤ x11 → RC d 74 Q 300 [some (.ref 12), some (.int x1), some (.int x2), some (.int x3), some (.int x4), some (.int x5), some (.int x6), some (.int x7), some (.int x8), some (.int x9), some (.int x10), some (.int x11)] [] h) : RC d 74 Q 292 [some (.ref 12), some (.int x1), some (.int x2), some (.int x3), some (.int x4), some (.int x5), some (.int x6), some (.int x7), some (.int x8), some (.int x9), some (.int x10), some (.int x11)] [] h := by
  by_cases c : 512 ≤ x11
  · obtain ⟨n, e⟩ := kt c
    exact Exists.intro (n + 3) (Or.inl (And.intro c e))
  · obtain ⟨n, e⟩ := kf c
    exact Exists.intro (n + 3) (Or.inr (And.intro c e))
set_option maxRecDepth 4000 in
theorem bC_74_300 {d : Nat} {Q : Option Value → ai_H → Prop} {h : ai_H} {x1 x2 x3 x4 x5 x6 x7 x8 x9 x10 x11 : Int32} (hi1 : vp_in x11 512) (hi2 : vp_in x11 512) (k : RC d 74 Q 324 [some (.ref 12), some (.int x1), some (.int x2), some (.int x3), some (.int x4), some (.int x5), some (.int x6), some (.int x7), some (.int (x8 + (h 18 (Int32.toNatClampNeg x11)))), some (.int (x9 ||| (h 20 (Int32.toNatClampNeg x11)))), some (.int x10), some (.int x11)] [] h) : RC d 74 Q 300 [some (.ref 12), some (.int x1), some (.int x2), some (.int x3), some (.int x4), some (.int x5), some (.int x6), some (.int x7), some (.int x8), some (.int x9), some (.int x10), some (.int x11)] [] h := by
  obtain ⟨n, e⟩ := k
  exact Exists.intro (n + 14) (And.intro rfl (Exists.intro 512 (And.intro rfl (And.intro hi1 (Exists.intro _ (And.intro rfl (And.intro rfl (Exists.intro 512 (And.intro rfl (And.intro hi2 (Exists.intro _ (And.intro rfl (e)))))))))))))
set_option maxRecDepth 4000 in
theorem bC_74_324 {d : Nat} {Q : Option Value → ai_H → Prop} {h : ai_H} {x1 x2 x3 x4 x5 x6 x7 x8 x9 x10 x11 : Int32} (k : RC d 74 Q 253 [some (.ref 12), some (.int x1), some (.int x2), some (.int x3), some (.int x4), some (.int x5), some (.int x6), some (.int x7), some (.int x8), some (.int x9), some (.int (x10 + 1)), some (.int x11)] [] h) : RC d 74 Q 324 [some (.ref 12), some (.int x1), some (.int x2), some (.int x3), some (.int x4), some (.int x5), some (.int x6), some (.int x7), some (.int x8), some (.int x9), some (.int x10), some (.int x11)] [] h := by
  obtain ⟨n, e⟩ := k
  exact Exists.intro (n + 2) (Exists.intro _ (And.intro rfl (e)))
set_option maxRecDepth 4000 in
theorem bC_74_330 {d : Nat} {Q : Option Value → ai_H → Prop} {h : ai_H} {x1 x2 x3 x4 x5 x6 x7 x8 x9 x10 : Int32} {o11 : Option Value} (hi1 : vp_in x7 512) (hi2 : vp_in x7 512) (hz3 : x9 = 0 ∨ x9 = 1) (kt : ¬ x4 = (-1) → RC d 74 Q 385 [some (.ref 12), some (.int x1), some (.int x2), some (.int x3), some (.int x4), some (.int x5), some (.int x6), some (.int x7), some (.int x8), some (.int x9), some (.int x10), o11] [] (ai_up (ai_up h 18 (Int32.toNatClampNeg x7) (if 61 < x8 then 61 else x8)) 20 (Int32.toNatClampNeg x7) x9)) (kf : x4 = (-1) → RC d 74 Q 359 [some (.ref 12), some (.int x1), some (.int x2), some (.int x3), some (.int x4), some (.int x5), some (.int x6), some (.int x7), some (.int x8), some (.int x9), some (.int x10), o11] [] (ai_up (ai_up h 18 (Int32.toNatClampNeg x7) (if 61 < x8 then 61 else x8)) 20 (Int32.toNatClampNeg x7) x9)) : RC d 74 Q 330 [some (.ref 12), some (.int x1), some (.int x2), some (.int x3), some (.int x4), some (.int x5), some (.int x6), some (.int x7), some (.int x8), some (.int x9), some (.int x10), o11] [] h := by
  by_cases c : x4 = (-1)
  · obtain ⟨n, e⟩ := kf c
    exact Exists.intro (n + 15) (And.intro rfl (And.intro (Nat.le_of_ble_eq_true rfl) (Exists.intro 512 (And.intro rfl (And.intro hi1 (And.intro rfl (Exists.intro 512 (And.intro rfl (And.intro hi2 (And.intro hz3 (Or.inr (And.intro (fun z => z c) e))))))))))))
  · obtain ⟨n, e⟩ := kt c
    exact Exists.intro (n + 15) (And.intro rfl (And.intro (Nat.le_of_ble_eq_true rfl) (Exists.intro 512 (And.intro rfl (And.intro hi1 (And.intro rfl (Exists.intro 512 (And.intro rfl (And.intro hi2 (And.intro hz3 (Or.inl (And.intro c e))))))))))))
set_option maxRecDepth 4000 in
theorem bC_74_359 {d : Nat} {Q : Option Value → ai_H → Prop} {h : ai_H} {x1 x2 x3 x4 x5 x6 x7 x8 x9 x10 : Int32} {o11 : Option Value} (kt : x2 < 0 → RC d 74 Q 385 [some (.ref 12), some (.int x1), some (.int x2), some (.int x3), some (.int x4), some (.int x5), some (.int x6), some (.int x7), some (.int x8), some (.int x9), some (.int x10), o11] [] h) (kf : ¬ x2 < 0 → RC d 74 Q 363 [some (.ref 12), some (.int x1), some (.int x2), some (.int x3), some (.int x4), some (.int x5), some (.int x6), some (.int x7), some (.int x8), some (.int x9), some (.int x10), o11] [] h) : RC d 74 Q 359 [some (.ref 12), some (.int x1), some (.int x2), some (.int x3), some (.int x4), some (.int x5), some (.int x6), some (.int x7), some (.int x8), some (.int x9), some (.int x10), o11] [] h := by
  by_cases c : x2 < 0
  · obtain ⟨n, e⟩ := kt c
    exact Exists.intro (n + 2) (Or.inl (And.intro c e))
  · obtain ⟨n, e⟩ := kf c
    exact Exists.intro (n + 2) (Or.inr (And.intro c e))
set_option maxRecDepth 4000 in
theorem bC_74_363 {d : Nat} {Q : Option Value → ai_H → Prop} {h : ai_H} {x1 x2 x3 x4 x5 x6 x7 x8 x9 x10 : Int32} {o11 : Option Value} (kt : 12 ≤ x2 → RC d 74 Q 385 [some (.ref 12), some (.int x1), some (.int x2), some (.int x3), some (.int x4), some (.int x5), some (.int x6), some (.int x7), some (.int x8), some (.int x9), some (.int x10), o11] [] h) (kf : ¬ 12 ≤ x2 → RC d 74 Q 369 [some (.ref 12), some (.int x1), some (.int x2), some (.int x3), some (.int x4), some (.int x5), some (.int x6), some (.int x7), some (.int x8), some (.int x9), some (.int x10), o11] [] h) : RC d 74 Q 363 [some (.ref 12), some (.int x1), some (.int x2), some (.int x3), some (.int x4), some (.int x5), some (.int x6), some (.int x7), some (.int x8), some (.int x9), some (.int x10), o11] [] h := by
  by_cases c : 12 ≤ x2
  · obtain ⟨n, e⟩ := kt c
    exact Exists.intro (n + 3) (Or.inl (And.intro c e))
  · obtain ⟨n, e⟩ := kf c
    exact Exists.intro (n + 3) (Or.inr (And.intro c e))
set_option maxRecDepth 4000 in
theorem bC_74_369 {d : Nat} {Q : Option Value → ai_H → Prop} {h : ai_H} {x1 x2 x3 x4 x5 x6 x7 x8 x9 x10 : Int32} {o11 : Option Value} (hi1 : vp_in x2 12) (kt : (h 2 (Int32.toNatClampNeg x2)) ≤ 0 → RC d 74 Q 385 [some (.ref 12), some (.int x1), some (.int x2), some (.int x3), some (.int x4), some (.int x5), some (.int x6), some (.int x7), some (.int x8), some (.int x9), some (.int x10), o11] [] h) (kf : ¬ (h 2 (Int32.toNatClampNeg x2)) ≤ 0 → RC d 74 Q 381 [some (.ref 12), some (.int x1), some (.int x2), some (.int x3), some (.int x4), some (.int x5), some (.int x6), some (.int x7), some (.int x8), some (.int x9), some (.int x10), o11] [] h) : RC d 74 Q 369 [some (.ref 12), some (.int x1), some (.int x2), some (.int x3), some (.int x4), some (.int x5), some (.int x6), some (.int x7), some (.int x8), some (.int x9), some (.int x10), o11] [] h := by
  by_cases c : (h 2 (Int32.toNatClampNeg x2)) ≤ 0
  · obtain ⟨n, e⟩ := kt c
    exact Exists.intro (n + 6) (And.intro rfl (And.intro rfl (Exists.intro 12 (And.intro rfl (And.intro hi1 (Or.inl (And.intro c e)))))))
  · obtain ⟨n, e⟩ := kf c
    exact Exists.intro (n + 6) (And.intro rfl (And.intro rfl (Exists.intro 12 (And.intro rfl (And.intro hi1 (Or.inr (And.intro c e)))))))
set_option maxRecDepth 4000 in
theorem bC_74_381 {d : Nat} {Q : Option Value → ai_H → Prop} {h : ai_H} {x1 x2 x3 x4 x5 x6 x7 x8 x9 x10 : Int32} {o11 : Option Value} (k : RC d 74 Q 386 [some (.ref 12), some (.int x1), some (.int x2), some (.int x3), some (.int x4), some (.int x5), some (.int x6), some (.int x7), some (.int x8), some (.int x9), some (.int x10), o11] [.int 1] h) : RC d 74 Q 381 [some (.ref 12), some (.int x1), some (.int x2), some (.int x3), some (.int x4), some (.int x5), some (.int x6), some (.int x7), some (.int x8), some (.int x9), some (.int x10), o11] [] h := by
  obtain ⟨n, e⟩ := k
  exact Exists.intro (n + 2) (e)
set_option maxRecDepth 4000 in
theorem bC_74_385 {d : Nat} {Q : Option Value → ai_H → Prop} {h : ai_H} {x1 x2 x3 x4 x5 x6 x7 x8 x9 x10 : Int32} {o11 : Option Value} (k : RC d 74 Q 386 [some (.ref 12), some (.int x1), some (.int x2), some (.int x3), some (.int x4), some (.int x5), some (.int x6), some (.int x7), some (.int x8), some (.int x9), some (.int x10), o11] [.int 0] h) : RC d 74 Q 385 [some (.ref 12), some (.int x1), some (.int x2), some (.int x3), some (.int x4), some (.int x5), some (.int x6), some (.int x7), some (.int x8), some (.int x9), some (.int x10), o11] [] h := by
  obtain ⟨n, e⟩ := k
  exact Exists.intro (n + 1) (e)
set_option maxRecDepth 4000 in
theorem bC_74_386 {d : Nat} {Q : Option Value → ai_H → Prop} {h : ai_H} {x1 x2 x3 x4 x5 x6 x7 x8 x9 x10 y0 : Int32} {o11 : Option Value} (kt : x3 < 0 → RC d 74 Q 412 [some (.ref 12), some (.int x1), some (.int x2), some (.int x3), some (.int x4), some (.int x5), some (.int x6), some (.int x7), some (.int x8), some (.int x9), some (.int y0), o11] [] h) (kf : ¬ x3 < 0 → RC d 74 Q 392 [some (.ref 12), some (.int x1), some (.int x2), some (.int x3), some (.int x4), some (.int x5), some (.int x6), some (.int x7), some (.int x8), some (.int x9), some (.int y0), o11] [] h) : RC d 74 Q 386 [some (.ref 12), some (.int x1), some (.int x2), some (.int x3), some (.int x4), some (.int x5), some (.int x6), some (.int x7), some (.int x8), some (.int x9), some (.int x10), o11] [.int y0] h := by
  by_cases c : x3 < 0
  · obtain ⟨n, e⟩ := kt c
    exact Exists.intro (n + 3) (Exists.intro _ (And.intro rfl (Or.inl (And.intro c e))))
  · obtain ⟨n, e⟩ := kf c
    exact Exists.intro (n + 3) (Exists.intro _ (And.intro rfl (Or.inr (And.intro c e))))
set_option maxRecDepth 4000 in
theorem bC_74_392 {d : Nat} {Q : Option Value → ai_H → Prop} {h : ai_H} {x1 x2 x3 x4 x5 x6 x7 x8 x9 x10 : Int32} {o11 : Option Value} (kt : 512 ≤ x3 → RC d 74 Q 412 [some (.ref 12), some (.int x1), some (.int x2), some (.int x3), some (.int x4), some (.int x5), some (.int x6), some (.int x7), some (.int x8), some (.int x9), some (.int x10), o11] [] h) (kf : ¬ 512 ≤ x3 → RC d 74 Q 399 [some (.ref 12), some (.int x1), some (.int x2), some (.int x3), some (.int x4), some (.int x5), some (.int x6), some (.int x7), some (.int x8), some (.int x9), some (.int x10), o11] [] h) : RC d 74 Q 392 [some (.ref 12), some (.int x1), some (.int x2), some (.int x3), some (.int x4), some (.int x5), some (.int x6), some (.int x7), some (.int x8), some (.int x9), some (.int x10), o11] [] h := by
  by_cases c : 512 ≤ x3
  · obtain ⟨n, e⟩ := kt c
    exact Exists.intro (n + 3) (Or.inl (And.intro c e))
  · obtain ⟨n, e⟩ := kf c
    exact Exists.intro (n + 3) (Or.inr (And.intro c e))
set_option maxRecDepth 4000 in
theorem bC_74_399 {d : Nat} {Q : Option Value → ai_H → Prop} {h : ai_H} {x1 x2 x3 x4 x5 x6 x7 x8 x9 x10 : Int32} {o11 : Option Value} (hi1 : vp_in x3 512) (kt : (h 19 (Int32.toNatClampNeg x3)) = 0 → RC d 74 Q 412 [some (.ref 12), some (.int x1), some (.int x2), some (.int x3), some (.int x4), some (.int x5), some (.int x6), some (.int x7), some (.int x8), some (.int x9), some (.int x10), o11] [] h) (kf : ¬ (h 19 (Int32.toNatClampNeg x3)) = 0 → RC d 74 Q 408 [some (.ref 12), some (.int x1), some (.int x2), some (.int x3), some (.int x4), some (.int x5), some (.int x6), some (.int x7), some (.int x8), some (.int x9), some (.int x10), o11] [] h) : RC d 74 Q 399 [some (.ref 12), some (.int x1), some (.int x2), some (.int x3), some (.int x4), some (.int x5), some (.int x6), some (.int x7), some (.int x8), some (.int x9), some (.int x10), o11] [] h := by
  by_cases c : (h 19 (Int32.toNatClampNeg x3)) = 0
  · obtain ⟨n, e⟩ := kt c
    exact Exists.intro (n + 5) (And.intro rfl (Exists.intro 512 (And.intro rfl (And.intro hi1 (Or.inl (And.intro c e))))))
  · obtain ⟨n, e⟩ := kf c
    exact Exists.intro (n + 5) (And.intro rfl (Exists.intro 512 (And.intro rfl (And.intro hi1 (Or.inr (And.intro c e))))))
set_option maxRecDepth 4000 in
theorem bC_74_408 {d : Nat} {Q : Option Value → ai_H → Prop} {h : ai_H} {x1 x2 x3 x4 x5 x6 x7 x8 x9 x10 : Int32} {o11 : Option Value} (k : RC d 74 Q 413 [some (.ref 12), some (.int x1), some (.int x2), some (.int x3), some (.int x4), some (.int x5), some (.int x6), some (.int x7), some (.int x8), some (.int x9), some (.int x10), o11] [.int 1] h) : RC d 74 Q 408 [some (.ref 12), some (.int x1), some (.int x2), some (.int x3), some (.int x4), some (.int x5), some (.int x6), some (.int x7), some (.int x8), some (.int x9), some (.int x10), o11] [] h := by
  obtain ⟨n, e⟩ := k
  exact Exists.intro (n + 2) (e)
set_option maxRecDepth 4000 in
theorem bC_74_412 {d : Nat} {Q : Option Value → ai_H → Prop} {h : ai_H} {x1 x2 x3 x4 x5 x6 x7 x8 x9 x10 : Int32} {o11 : Option Value} (k : RC d 74 Q 413 [some (.ref 12), some (.int x1), some (.int x2), some (.int x3), some (.int x4), some (.int x5), some (.int x6), some (.int x7), some (.int x8), some (.int x9), some (.int x10), o11] [.int 0] h) : RC d 74 Q 412 [some (.ref 12), some (.int x1), some (.int x2), some (.int x3), some (.int x4), some (.int x5), some (.int x6), some (.int x7), some (.int x8), some (.int x9), some (.int x10), o11] [] h := by
  obtain ⟨n, e⟩ := k
  exact Exists.intro (n + 1) (e)
set_option maxRecDepth 4000 in
theorem bC_74_413 {d : Nat} {Q : Option Value → ai_H → Prop} {h : ai_H} {x1 x2 x3 x4 x5 x6 x7 x8 x9 x10 y0 : Int32} {o11 : Option Value} (kt : ¬ x1 = 5 → RC d 74 Q 440 [some (.ref 12), some (.int x1), some (.int x2), some (.int x3), some (.int x4), some (.int x5), some (.int x6), some (.int x7), some (.int x8), some (.int x9), some (.int x10), some (.int y0)] [.int x7, .ref 19] h) (kf : x1 = 5 → RC d 74 Q 426 [some (.ref 12), some (.int x1), some (.int x2), some (.int x3), some (.int x4), some (.int x5), some (.int x6), some (.int x7), some (.int x8), some (.int x9), some (.int x10), some (.int y0)] [.int x7, .ref 19] h) : RC d 74 Q 413 [some (.ref 12), some (.int x1), some (.int x2), some (.int x3), some (.int x4), some (.int x5), some (.int x6), some (.int x7), some (.int x8), some (.int x9), some (.int x10), o11] [.int y0] h := by
  by_cases c : x1 = 5
  · obtain ⟨n, e⟩ := kf c
    exact Exists.intro (n + 7) (Exists.intro _ (And.intro rfl (And.intro rfl (Or.inr (And.intro (fun z => z c) e)))))
  · obtain ⟨n, e⟩ := kt c
    exact Exists.intro (n + 7) (Exists.intro _ (And.intro rfl (And.intro rfl (Or.inl (And.intro c e)))))
set_option maxRecDepth 4000 in
theorem bC_74_426 {d : Nat} {Q : Option Value → ai_H → Prop} {h : ai_H} {x1 x2 x3 x4 x5 x6 x7 x8 x9 x10 x11 y1 : Int32} (kt : ¬ x10 = 0 → RC d 74 Q 436 [some (.ref 12), some (.int x1), some (.int x2), some (.int x3), some (.int x4), some (.int x5), some (.int x6), some (.int x7), some (.int x8), some (.int x9), some (.int x10), some (.int x11)] [.int y1, .ref 19] h) (kf : x10 = 0 → RC d 74 Q 431 [some (.ref 12), some (.int x1), some (.int x2), some (.int x3), some (.int x4), some (.int x5), some (.int x6), some (.int x7), some (.int x8), some (.int x9), some (.int x10), some (.int x11)] [.int y1, .ref 19] h) : RC d 74 Q 426 [some (.ref 12), some (.int x1), some (.int x2), some (.int x3), some (.int x4), some (.int x5), some (.int x6), some (.int x7), some (.int x8), some (.int x9), some (.int x10), some (.int x11)] [.int y1, .ref 19] h := by
  by_cases c : x10 = 0
  · obtain ⟨n, e⟩ := kf c
    exact Exists.intro (n + 2) (Or.inr (And.intro (fun z => z c) e))
  · obtain ⟨n, e⟩ := kt c
    exact Exists.intro (n + 2) (Or.inl (And.intro c e))
set_option maxRecDepth 4000 in
theorem bC_74_431 {d : Nat} {Q : Option Value → ai_H → Prop} {h : ai_H} {x1 x2 x3 x4 x5 x6 x7 x8 x9 x10 x11 y1 : Int32} (kt : x11 = 0 → RC d 74 Q 440 [some (.ref 12), some (.int x1), some (.int x2), some (.int x3), some (.int x4), some (.int x5), some (.int x6), some (.int x7), some (.int x8), some (.int x9), some (.int x10), some (.int x11)] [.int y1, .ref 19] h) (kf : ¬ x11 = 0 → RC d 74 Q 436 [some (.ref 12), some (.int x1), some (.int x2), some (.int x3), some (.int x4), some (.int x5), some (.int x6), some (.int x7), some (.int x8), some (.int x9), some (.int x10), some (.int x11)] [.int y1, .ref 19] h) : RC d 74 Q 431 [some (.ref 12), some (.int x1), some (.int x2), some (.int x3), some (.int x4), some (.int x5), some (.int x6), some (.int x7), some (.int x8), some (.int x9), some (.int x10), some (.int x11)] [.int y1, .ref 19] h := by
  by_cases c : x11 = 0
  · obtain ⟨n, e⟩ := kt c
    exact Exists.intro (n + 2) (Or.inl (And.intro c e))
  · obtain ⟨n, e⟩ := kf c
    exact Exists.intro (n + 2) (Or.inr (And.intro c e))
set_option maxRecDepth 4000 in
theorem bC_74_436 {d : Nat} {Q : Option Value → ai_H → Prop} {h : ai_H} {x1 x2 x3 x4 x5 x6 x7 x8 x9 x10 x11 y1 : Int32} (k : RC d 74 Q 441 [some (.ref 12), some (.int x1), some (.int x2), some (.int x3), some (.int x4), some (.int x5), some (.int x6), some (.int x7), some (.int x8), some (.int x9), some (.int x10), some (.int x11)] [.int 1, .int y1, .ref 19] h) : RC d 74 Q 436 [some (.ref 12), some (.int x1), some (.int x2), some (.int x3), some (.int x4), some (.int x5), some (.int x6), some (.int x7), some (.int x8), some (.int x9), some (.int x10), some (.int x11)] [.int y1, .ref 19] h := by
  obtain ⟨n, e⟩ := k
  exact Exists.intro (n + 2) (e)
set_option maxRecDepth 4000 in
theorem bC_74_440 {d : Nat} {Q : Option Value → ai_H → Prop} {h : ai_H} {x1 x2 x3 x4 x5 x6 x7 x8 x9 x10 x11 y1 : Int32} (k : RC d 74 Q 441 [some (.ref 12), some (.int x1), some (.int x2), some (.int x3), some (.int x4), some (.int x5), some (.int x6), some (.int x7), some (.int x8), some (.int x9), some (.int x10), some (.int x11)] [.int 0, .int y1, .ref 19] h) : RC d 74 Q 440 [some (.ref 12), some (.int x1), some (.int x2), some (.int x3), some (.int x4), some (.int x5), some (.int x6), some (.int x7), some (.int x8), some (.int x9), some (.int x10), some (.int x11)] [.int y1, .ref 19] h := by
  obtain ⟨n, e⟩ := k
  exact Exists.intro (n + 1) (e)
set_option maxRecDepth 4000 in
theorem bC_74_441 {d : Nat} {Q : Option Value → ai_H → Prop} {h : ai_H} {x1 x2 x3 x4 x5 x6 x7 x8 x9 x10 x11 y1 y2 : Int32} (hi1 : vp_in y1 512) (hz2 : y2 = 0 ∨ y2 = 1) (kt : ((ai_up h 19 (Int32.toNatClampNeg y1) y2) 12 11) = 0 → RC d 74 Q 462 [some (.ref 12), some (.int x1), some (.int x2), some (.int x3), some (.int x4), some (.int x5), some (.int x6), some (.int x7), some (.int x8), some (.int x9), some (.int x10), some (.int x11)] [] (ai_up h 19 (Int32.toNatClampNeg y1) y2)) (kf : ¬ ((ai_up h 19 (Int32.toNatClampNeg y1) y2) 12 11) = 0 → RC d 74 Q 449 [some (.ref 12), some (.int x1), some (.int x2), some (.int x3), some (.int x4), some (.int x5), some (.int x6), some (.int x7), some (.int x8), some (.int x9), some (.int x10), some (.int x11)] [] (ai_up h 19 (Int32.toNatClampNeg y1) y2)) : RC d 74 Q 441 [some (.ref 12), some (.int x1), some (.int x2), some (.int x3), some (.int x4), some (.int x5), some (.int x6), some (.int x7), some (.int x8), some (.int x9), some (.int x10), some (.int x11)] [.int y2, .int y1, .ref 19] h := by
  by_cases c : ((ai_up h 19 (Int32.toNatClampNeg y1) y2) 12 11) = 0
  · obtain ⟨n, e⟩ := kt c
    exact Exists.intro (n + 4) (Exists.intro 512 (And.intro rfl (And.intro hi1 (And.intro hz2 (And.intro rfl (Or.inl (And.intro c e)))))))
  · obtain ⟨n, e⟩ := kf c
    exact Exists.intro (n + 4) (Exists.intro 512 (And.intro rfl (And.intro hi1 (And.intro hz2 (And.intro rfl (Or.inr (And.intro c e)))))))
set_option maxRecDepth 4000 in
theorem bC_74_449 {d : Nat} {Q : Option Value → ai_H → Prop} {h : ai_H} {x1 x2 x3 x4 x5 x6 x7 x8 x9 x10 x11 : Int32} (k : RC d 74 Q 472 [some (.ref 12), some (.int x1), some (.int x2), some (.int x3), some (.int x4), some (.int x5), some (.int x6), some (.int x7), some (.int x8), some (.int x9), some (.int x10), some (.int x11)] [] (ai_up h 12 9 ((h 12 9) + 1))) : RC d 74 Q 449 [some (.ref 12), some (.int x1), some (.int x2), some (.int x3), some (.int x4), some (.int x5), some (.int x6), some (.int x7), some (.int x8), some (.int x9), some (.int x10), some (.int x11)] [] h := by
  obtain ⟨n, e⟩ := k
  exact Exists.intro (n + 7) (And.intro rfl (And.intro rfl (And.intro (Exists.intro _ (And.intro rfl rfl)) (And.intro (Or.inl rfl) (e)))))
set_option maxRecDepth 4000 in
theorem bC_74_462 {d : Nat} {Q : Option Value → ai_H → Prop} {h : ai_H} {x1 x2 x3 x4 x5 x6 x7 x8 x9 x10 x11 : Int32} (k : RC d 74 Q 472 [some (.ref 12), some (.int x1), some (.int x2), some (.int x3), some (.int x4), some (.int x5), some (.int x6), some (.int x7), some (.int x8), some (.int x9), some (.int x10), some (.int x11)] [] (ai_up h 12 10 ((h 12 10) + 1))) : RC d 74 Q 462 [some (.ref 12), some (.int x1), some (.int x2), some (.int x3), some (.int x4), some (.int x5), some (.int x6), some (.int x7), some (.int x8), some (.int x9), some (.int x10), some (.int x11)] [] h := by
  obtain ⟨n, e⟩ := k
  exact Exists.intro (n + 6) (And.intro rfl (And.intro rfl (And.intro (Exists.intro _ (And.intro rfl rfl)) (And.intro (Or.inl rfl) (e)))))
set_option maxRecDepth 4000 in
theorem bC_74_472 {d : Nat} {Q : Option Value → ai_H → Prop} {h : ai_H} {x1 x2 x3 x4 x5 x6 x7 x8 x9 x10 x11 : Int32} (k : Q (some (.int x7)) h) : RC d 74 Q 472 [some (.ref 12), some (.int x1), some (.int x2), some (.int x3), some (.int x4), some (.int x5), some (.int x6), some (.int x7), some (.int x8), some (.int x9), some (.int x10), some (.int x11)] [] h := Exists.intro 2 (And.intro (Or.inl rfl) k)
theorem bC_75_0 {d : Nat} {Q : Option Value → ai_H → Prop} {h : ai_H} {x1 : Int32} (kt : ¬ (h 12 12) = 0 → RC d 75 Q 29 [some (.ref 12), some (.int x1), none, none] [] h) (kf : (h 12 12) = 0 → RC d 75 Q 7 [some (.ref 12), some (.int x1), none, none] [] h) : RC d 75 Q 0 [some (.ref 12), some (.int x1), none, none] [] h := by
  by_cases c : (h 12 12) = 0
  · obtain ⟨n, e⟩ := kf c
    exact Exists.intro (n + 3) (And.intro rfl (Or.inr (And.intro (fun z => z c) e)))
  · obtain ⟨n, e⟩ := kt c
    exact Exists.intro (n + 3) (And.intro rfl (Or.inl (And.intro c e)))
theorem bC_75_7 {d : Nat} {Q : Option Value → ai_H → Prop} {h : ai_H} {x1 : Int32} (kt : x1 < 0 → RC d 75 Q 29 [some (.ref 12), some (.int x1), none, none] [] h) (kf : ¬ x1 < 0 → RC d 75 Q 11 [some (.ref 12), some (.int x1), none, none] [] h) : RC d 75 Q 7 [some (.ref 12), some (.int x1), none, none] [] h := by
  by_cases c : x1 < 0
  · obtain ⟨n, e⟩ := kt c
    exact Exists.intro (n + 2) (Or.inl (And.intro c e))
  · obtain ⟨n, e⟩ := kf c
    exact Exists.intro (n + 2) (Or.inr (And.intro c e))
theorem bC_75_11 {d : Nat} {Q : Option Value → ai_H → Prop} {h : ai_H} {x1 : Int32} (kt : 512 ≤ x1 → RC d 75 Q 29 [some (.ref 12), some (.int x1), none, none] [] h) (kf : ¬ 512 ≤ x1 → RC d 75 Q 18 [some (.ref 12), some (.int x1), none, none] [] h) : RC d 75 Q 11 [some (.ref 12), some (.int x1), none, none] [] h := by
  by_cases c : 512 ≤ x1
  · obtain ⟨n, e⟩ := kt c
    exact Exists.intro (n + 3) (Or.inl (And.intro c e))
  · obtain ⟨n, e⟩ := kf c
    exact Exists.intro (n + 3) (Or.inr (And.intro c e))
theorem bC_75_18 {d : Nat} {Q : Option Value → ai_H → Prop} {h : ai_H} {x1 : Int32} (hi1 : vp_in x1 512) (kt : (h 18 (Int32.toNatClampNeg x1)) ≤ 60 → RC d 75 Q 32 [some (.ref 12), some (.int x1), none, none] [] h) (kf : ¬ (h 18 (Int32.toNatClampNeg x1)) ≤ 60 → RC d 75 Q 29 [some (.ref 12), some (.int x1), none, none] [] h) : RC d 75 Q 18 [some (.ref 12), some (.int x1), none, none] [] h := by
  by_cases c : (h 18 (Int32.toNatClampNeg x1)) ≤ 60
  · obtain ⟨n, e⟩ := kt c
    exact Exists.intro (n + 6) (And.intro rfl (Exists.intro 512 (And.intro rfl (And.intro hi1 (Or.inl (And.intro c e))))))
  · obtain ⟨n, e⟩ := kf c
    exact Exists.intro (n + 6) (And.intro rfl (Exists.intro 512 (And.intro rfl (And.intro hi1 (Or.inr (And.intro c e))))))
theorem bC_75_29 {d : Nat} {Q : Option Value → ai_H → Prop} {h : ai_H} {x1 : Int32} (k : Q (some (.int (-5))) h) : RC d 75 Q 29 [some (.ref 12), some (.int x1), none, none] [] h := Exists.intro 2 (And.intro (Or.inl rfl) k)
theorem bC_75_32 {d : Nat} {Q : Option Value → ai_H → Prop} {h h2 : ai_H} {x1 r : Int32} (hc : CC d 76 [.ref 12, .int x1, .int 0] (ai_up (ai_up h 12 10 200) 12 11 1) (some (.int r)) h2) (k : RC d 75 Q 55 [some (.ref 12), some (.int x1), some (.int (h 12 9)), none] [.int r] h2) : RC d 75 Q 32 [some (.ref 12), some (.int x1), none, none] [] h := by
  obtain ⟨n, e⟩ := k
  exact Exists.intro (n + 13) (And.intro rfl (Exists.intro _ (And.intro rfl (And.intro (Exists.intro _ (And.intro rfl rfl)) (And.intro (Or.inl rfl) (And.intro (Exists.intro _ (And.intro rfl rfl)) (And.intro (Or.inr (Or.inr rfl)) (Exists.intro [.int x1, .int 0] (Exists.intro 12 (Exists.intro [] (Exists.intro _ (Exists.intro (some (.int r)) (Exists.intro h2 (And.intro rfl (And.intro rfl (And.intro rfl (And.intro (Nat.le_of_ble_eq_true rfl) (And.intro hc e))))))))))))))))))
theorem bC_75_55 {d : Nat} {Q : Option Value → ai_H → Prop} {h : ai_H} {x1 x2 y0 : Int32} (kt : ((ai_up h 12 11 0) 12 12) = 0 → RC d 75 Q 76 [some (.ref 12), some (.int x1), some (.int x2), some (.int y0)] [] (ai_up h 12 11 0)) (kf : ¬ ((ai_up h 12 11 0) 12 12) = 0 → RC d 75 Q 68 [some (.ref 12), some (.int x1), some (.int x2), some (.int y0)] [] (ai_up h 12 11 0)) : RC d 75 Q 55 [some (.ref 12), some (.int x1), some (.int x2), none] [.int y0] h := by
  by_cases c : ((ai_up h 12 11 0) 12 12) = 0
  · obtain ⟨n, e⟩ := kt c
    exact Exists.intro (n + 7) (Exists.intro _ (And.intro rfl (And.intro (Exists.intro _ (And.intro rfl rfl)) (And.intro (Or.inr (Or.inl rfl)) (And.intro rfl (Or.inl (And.intro c e)))))))
  · obtain ⟨n, e⟩ := kf c
    exact Exists.intro (n + 7) (Exists.intro _ (And.intro rfl (And.intro (Exists.intro _ (And.intro rfl rfl)) (And.intro (Or.inr (Or.inl rfl)) (And.intro rfl (Or.inr (And.intro c e)))))))
theorem bC_75_68 {d : Nat} {Q : Option Value → ai_H → Prop} {h : ai_H} {x1 x2 x3 : Int32} (k : Q (some (.int (-5))) (ai_up h 12 9 x2)) : RC d 75 Q 68 [some (.ref 12), some (.int x1), some (.int x2), some (.int x3)] [] h := Exists.intro 5 (And.intro (Exists.intro _ (And.intro rfl rfl)) (And.intro (Or.inl rfl) (And.intro (Or.inl rfl) k)))
theorem bC_75_76 {d : Nat} {Q : Option Value → ai_H → Prop} {h : ai_H} {x1 x2 x3 : Int32} (k : Q (some (.int x3)) h) : RC d 75 Q 76 [some (.ref 12), some (.int x1), some (.int x2), some (.int x3)] [] h := Exists.intro 2 (And.intro (Or.inl rfl) k)
theorem bC_76_0 {d : Nat} {Q : Option Value → ai_H → Prop} {h : ai_H} {x1 x2 : Int32} (kt : x1 < 200 → RC d 76 Q 20 [some (.ref 12), some (.int x1), some (.int x2), none, none, none, none] [] h) (kf : ¬ x1 < 200 → RC d 76 Q 7 [some (.ref 12), some (.int x1), some (.int x2), none, none, none, none] [] h) : RC d 76 Q 0 [some (.ref 12), some (.int x1), some (.int x2), none, none, none, none] [] h := by
  by_cases c : x1 < 200
  · obtain ⟨n, e⟩ := kt c
    exact Exists.intro (n + 3) (Or.inl (And.intro c e))
  · obtain ⟨n, e⟩ := kf c
    exact Exists.intro (n + 3) (Or.inr (And.intro c e))
theorem bC_76_7 {d : Nat} {Q : Option Value → ai_H → Prop} {h : ai_H} {x1 x2 : Int32} (kt : 512 ≤ x1 → RC d 76 Q 20 [some (.ref 12), some (.int x1), some (.int x2), none, none, none, none] [] h) (kf : ¬ 512 ≤ x1 → RC d 76 Q 14 [some (.ref 12), some (.int x1), some (.int x2), none, none, none, none] [] h) : RC d 76 Q 7 [some (.ref 12), some (.int x1), some (.int x2), none, none, none, none] [] h := by
  by_cases c : 512 ≤ x1
  · obtain ⟨n, e⟩ := kt c
    exact Exists.intro (n + 3) (Or.inl (And.intro c e))
  · obtain ⟨n, e⟩ := kf c
    exact Exists.intro (n + 3) (Or.inr (And.intro c e))
theorem bC_76_14 {d : Nat} {Q : Option Value → ai_H → Prop} {h : ai_H} {x1 x2 : Int32} (kt : x2 ≤ 64 → RC d 76 Q 22 [some (.ref 12), some (.int x1), some (.int x2), none, none, none, none] [] h) (kf : ¬ x2 ≤ 64 → RC d 76 Q 20 [some (.ref 12), some (.int x1), some (.int x2), none, none, none, none] [] h) : RC d 76 Q 14 [some (.ref 12), some (.int x1), some (.int x2), none, none, none, none] [] h := by
  by_cases c : x2 ≤ 64
  · obtain ⟨n, e⟩ := kt c
    exact Exists.intro (n + 3) (Or.inl (And.intro c e))
  · obtain ⟨n, e⟩ := kf c
    exact Exists.intro (n + 3) (Or.inr (And.intro c e))
theorem bC_76_20 {d : Nat} {Q : Option Value → ai_H → Prop} {h : ai_H} {x1 x2 : Int32} (k : Q (some (.int x1)) h) : RC d 76 Q 20 [some (.ref 12), some (.int x1), some (.int x2), none, none, none, none] [] h := Exists.intro 2 (And.intro (Or.inl rfl) k)
theorem bC_76_22 {d : Nat} {Q : Option Value → ai_H → Prop} {h h2 : ai_H} {x1 x2 r : Int32} (hi1 : vp_in x1 512) (hc : CC d 76 [.ref 12, .int (h 16 (Int32.toNatClampNeg x1)), .int (x2 + 1)] h (some (.int r)) h2) (k : RC d 76 Q 35 [some (.ref 12), some (.int x1), some (.int x2), none, none, none, none] [.int r] h2) : RC d 76 Q 22 [some (.ref 12), some (.int x1), some (.int x2), none, none, none, none] [] h := by
  obtain ⟨n, e⟩ := k
  exact Exists.intro (n + 9) (And.intro rfl (Exists.intro 512 (And.intro rfl (And.intro hi1 (Exists.intro [.int (h 16 (Int32.toNatClampNeg x1)), .int (x2 + 1)] (Exists.intro 12 (Exists.intro [] (Exists.intro _ (Exists.intro (some (.int r)) (Exists.intro h2 (And.intro rfl (And.intro rfl (And.intro rfl (And.intro (Nat.le_of_ble_eq_true rfl) (And.intro hc e)))))))))))))))
theorem bC_76_35 {d : Nat} {Q : Option Value → ai_H → Prop} {h h2 : ai_H} {x1 x2 y0 r : Int32} (hi1 : vp_in (x1 * 3) 1536) (hc : CC d 77 [.ref 12, .int (h 17 (Int32.toNatClampNeg (x1 * 3))), .int x2] h (some (.int r)) h2) (k : RC d 76 Q 49 [some (.ref 12), some (.int x1), some (.int x2), some (.int y0), none, none, none] [.int r] h2) : RC d 76 Q 35 [some (.ref 12), some (.int x1), some (.int x2), none, none, none, none] [.int y0] h := by
  obtain ⟨n, e⟩ := k
  exact Exists.intro (n + 10) (Exists.intro _ (And.intro rfl (And.intro rfl (Exists.intro 1536 (And.intro rfl (And.intro hi1 (Exists.intro [.int (h 17 (Int32.toNatClampNeg (x1 * 3))), .int x2] (Exists.intro 12 (Exists.intro [] (Exists.intro _ (Exists.intro (some (.int r)) (Exists.intro h2 (And.intro rfl (And.intro rfl (And.intro rfl (And.intro (Nat.le_of_ble_eq_true rfl) (And.intro hc e)))))))))))))))))
theorem bC_76_49 {d : Nat} {Q : Option Value → ai_H → Prop} {h h2 : ai_H} {x1 x2 x3 y0 r : Int32} (hi1 : vp_in ((x1 * 3) + 1) 1536) (hc : CC d 77 [.ref 12, .int (h 17 (Int32.toNatClampNeg ((x1 * 3) + 1))), .int x2] h (some (.int r)) h2) (k : RC d 76 Q 66 [some (.ref 12), some (.int x1), some (.int x2), some (.int x3), some (.int y0), none, none] [.int r] h2) : RC d 76 Q 49 [some (.ref 12), some (.int x1), some (.int x2), some (.int x3), none, none, none] [.int y0] h := by
  obtain ⟨n, e⟩ := k
  exact Exists.intro (n + 12) (Exists.intro _ (And.intro rfl (And.intro rfl (Exists.intro 1536 (And.intro rfl (And.intro hi1 (Exists.intro [.int (h 17 (Int32.toNatClampNeg ((x1 * 3) + 1))), .int x2] (Exists.intro 12 (Exists.intro [] (Exists.intro _ (Exists.intro (some (.int r)) (Exists.intro h2 (And.intro rfl (And.intro rfl (And.intro rfl (And.intro (Nat.le_of_ble_eq_true rfl) (And.intro hc e)))))))))))))))))
theorem bC_76_66 {d : Nat} {Q : Option Value → ai_H → Prop} {h h2 : ai_H} {x1 x2 x3 x4 y0 r : Int32} (hi1 : vp_in ((x1 * 3) + 2) 1536) (hc : CC d 77 [.ref 12, .int (h 17 (Int32.toNatClampNeg ((x1 * 3) + 2))), .int x2] h (some (.int r)) h2) (k : RC d 76 Q 83 [some (.ref 12), some (.int x1), some (.int x2), some (.int x3), some (.int x4), some (.int y0), none] [.int r] h2) : RC d 76 Q 66 [some (.ref 12), some (.int x1), some (.int x2), some (.int x3), some (.int x4), none, none] [.int y0] h := by
  obtain ⟨n, e⟩ := k
  exact Exists.intro (n + 12) (Exists.intro _ (And.intro rfl (And.intro rfl (Exists.intro 1536 (And.intro rfl (And.intro hi1 (Exists.intro [.int (h 17 (Int32.toNatClampNeg ((x1 * 3) + 2))), .int x2] (Exists.intro 12 (Exists.intro [] (Exists.intro _ (Exists.intro (some (.int r)) (Exists.intro h2 (And.intro rfl (And.intro rfl (And.intro rfl (And.intro (Nat.le_of_ble_eq_true rfl) (And.intro hc e)))))))))))))))))
theorem bC_76_83 {d : Nat} {Q : Option Value → ai_H → Prop} {h h2 : ai_H} {x1 x2 x3 x4 x5 y0 r : Int32} (hi1 : vp_in x1 512) (hi2 : vp_in x1 512) (hc : CC d 74 [.ref 12, .int (h 13 (Int32.toNatClampNeg x1)), .int (h 14 (Int32.toNatClampNeg x1)), .int x3, .int x4, .int x5, .int y0] h (some (.int r)) h2) (k : RC d 76 Q 108 [some (.ref 12), some (.int x1), some (.int x2), some (.int x3), some (.int x4), some (.int x5), some (.int y0)] [.int r] h2) : RC d 76 Q 83 [some (.ref 12), some (.int x1), some (.int x2), some (.int x3), some (.int x4), some (.int x5), none] [.int y0] h := by
  obtain ⟨n, e⟩ := k
  exact Exists.intro (n + 15) (Exists.intro _ (And.intro rfl (And.intro rfl (Exists.intro 512 (And.intro rfl (And.intro hi1 (And.intro rfl (Exists.intro 512 (And.intro rfl (And.intro hi2 (Exists.intro [.int (h 13 (Int32.toNatClampNeg x1)), .int (h 14 (Int32.toNatClampNeg x1)), .int x3, .int x4, .int x5, .int y0] (Exists.intro 12 (Exists.intro [] (Exists.intro _ (Exists.intro (some (.int r)) (Exists.intro h2 (And.intro rfl (And.intro rfl (And.intro rfl (And.intro (Nat.le_of_ble_eq_true rfl) (And.intro hc e)))))))))))))))))))))
theorem bC_76_108 {d : Nat} {Q : Option Value → ai_H → Prop} {h : ai_H} {x1 x2 x3 x4 x5 x6 y0 : Int32} (k : Q (some (.int y0)) h) : RC d 76 Q 108 [some (.ref 12), some (.int x1), some (.int x2), some (.int x3), some (.int x4), some (.int x5), some (.int x6)] [.int y0] h := Exists.intro 1 (And.intro (Or.inl rfl) k)
theorem bC_77_0 {d : Nat} {Q : Option Value → ai_H → Prop} {h h2 : ai_H} {x1 x2 r : Int32} (hc : CC d 98 [.int x1] h (some (.int r)) h2) (k : RC d 77 Q 4 [some (.ref 12), some (.int x1), some (.int x2), none] [.int r] h2) : RC d 77 Q 0 [some (.ref 12), some (.int x1), some (.int x2), none] [] h := by
  obtain ⟨n, e⟩ := k
  exact Exists.intro (n + 2) (Exists.intro [.int x1] (Exists.intro [] (Exists.intro (some (.int r)) (Exists.intro h2 (And.intro rfl (And.intro rfl (And.intro (Nat.le_of_ble_eq_true rfl) (And.intro hc e))))))))
theorem bC_77_4 {d : Nat} {Q : Option Value → ai_H → Prop} {h : ai_H} {x1 x2 y0 : Int32} (kt : ¬ y0 = (-1) → RC d 77 Q 14 [some (.ref 12), some (.int x1), some (.int x2), some (.int y0)] [] h) (kf : y0 = (-1) → RC d 77 Q 10 [some (.ref 12), some (.int x1), some (.int x2), some (.int y0)] [] h) : RC d 77 Q 4 [some (.ref 12), some (.int x1), some (.int x2), none] [.int y0] h := by
  by_cases c : y0 = (-1)
  · obtain ⟨n, e⟩ := kf c
    exact Exists.intro (n + 4) (Exists.intro _ (And.intro rfl (Or.inr (And.intro (fun z => z c) e))))
  · obtain ⟨n, e⟩ := kt c
    exact Exists.intro (n + 4) (Exists.intro _ (And.intro rfl (Or.inl (And.intro c e))))
theorem bC_77_10 {d : Nat} {Q : Option Value → ai_H → Prop} {h : ai_H} {x1 x2 x3 : Int32} (k : RC d 77 Q 29 [some (.ref 12), some (.int x1), some (.int x2), some (.int x3)] [.int x1] h) : RC d 77 Q 10 [some (.ref 12), some (.int x1), some (.int x2), some (.int x3)] [] h := by
  obtain ⟨n, e⟩ := k
  exact Exists.intro (n + 2) (e)
theorem bC_77_14 {d : Nat} {Q : Option Value → ai_H → Prop} {h h2 : ai_H} {x1 x2 x3 r : Int32} (hc : CC d 97 [.int x1] h (some (.int r)) h2) (k : RC d 77 Q 18 [some (.ref 12), some (.int x1), some (.int x2), some (.int x3)] [.int r] h2) : RC d 77 Q 14 [some (.ref 12), some (.int x1), some (.int x2), some (.int x3)] [] h := by
  obtain ⟨n, e⟩ := k
  exact Exists.intro (n + 2) (Exists.intro [.int x1] (Exists.intro [] (Exists.intro (some (.int r)) (Exists.intro h2 (And.intro rfl (And.intro rfl (And.intro (Nat.le_of_ble_eq_true rfl) (And.intro hc e))))))))
theorem bC_77_18 {d : Nat} {Q : Option Value → ai_H → Prop} {h h2 : ai_H} {x1 x2 x3 y0 r : Int32} (hc : CC d 76 [.ref 12, .int x3, .int (x2 + 1)] h (some (.int r)) h2) (k : RC d 77 Q 26 [some (.ref 12), some (.int x1), some (.int x2), some (.int x3)] [.int r, .int y0] h2) : RC d 77 Q 18 [some (.ref 12), some (.int x1), some (.int x2), some (.int x3)] [.int y0] h := by
  obtain ⟨n, e⟩ := k
  exact Exists.intro (n + 6) (Exists.intro [.int x3, .int (x2 + 1)] (Exists.intro 12 (Exists.intro [.int y0] (Exists.intro _ (Exists.intro (some (.int r)) (Exists.intro h2 (And.intro rfl (And.intro rfl (And.intro rfl (And.intro (Nat.le_of_ble_eq_true rfl) (And.intro hc e)))))))))))
theorem bC_77_26 {d : Nat} {Q : Option Value → ai_H → Prop} {h h2 : ai_H} {x1 x2 x3 y0 y1 r : Int32} (hc : CC d 96 [.int y0, .int y1] h (some (.int r)) h2) (k : RC d 77 Q 29 [some (.ref 12), some (.int x1), some (.int x2), some (.int x3)] [.int r] h2) : RC d 77 Q 26 [some (.ref 12), some (.int x1), some (.int x2), some (.int x3)] [.int y1, .int y0] h := by
  obtain ⟨n, e⟩ := k
  exact Exists.intro (n + 1) (Exists.intro [.int y0, .int y1] (Exists.intro [] (Exists.intro (some (.int r)) (Exists.intro h2 (And.intro rfl (And.intro rfl (And.intro (Nat.le_of_ble_eq_true rfl) (And.intro hc e))))))))
theorem bC_77_29 {d : Nat} {Q : Option Value → ai_H → Prop} {h : ai_H} {x1 x2 x3 y0 : Int32} (k : Q (some (.int y0)) h) : RC d 77 Q 29 [some (.ref 12), some (.int x1), some (.int x2), some (.int x3)] [.int y0] h := Exists.intro 1 (And.intro (Or.inl rfl) k)
theorem bC_78_0 {d : Nat} {Q : Option Value → ai_H → Prop} {h : ai_H} {x1 x2 x3 : Int32} (kt : x3 = (-1) → RC d 78 Q 19 [some (.ref 29), some (.int x1), some (.int x2), some (.int x3), none] [] h) (kf : ¬ x3 = (-1) → RC d 78 Q 5 [some (.ref 29), some (.int x1), some (.int x2), some (.int x3), none] [] h) : RC d 78 Q 0 [some (.ref 29), some (.int x1), some (.int x2), some (.int x3), none] [] h := by
  by_cases c : x3 = (-1)
  · obtain ⟨n, e⟩ := kt c
    exact Exists.intro (n + 3) (Or.inl (And.intro c e))
  · obtain ⟨n, e⟩ := kf c
    exact Exists.intro (n + 3) (Or.inr (And.intro c e))
theorem bC_78_5 {d : Nat} {Q : Option Value → ai_H → Prop} {h h2 : ai_H} {x1 x2 x3 r : Int32} (hc : CC d 1 [.ref 0, .int x3] h (some (.int r)) h2) (k : RC d 78 Q 13 [some (.ref 29), some (.int x1), some (.int x2), some (.int x3), none] [.int r] h2) : RC d 78 Q 5 [some (.ref 29), some (.int x1), some (.int x2), some (.int x3), none] [] h := by
  obtain ⟨n, e⟩ := k
  exact Exists.intro (n + 4) (And.intro rfl (Exists.intro [.int x3] (Exists.intro 0 (Exists.intro [] (Exists.intro _ (Exists.intro (some (.int r)) (Exists.intro h2 (And.intro rfl (And.intro rfl (And.intro rfl (And.intro (Nat.le_of_ble_eq_true rfl) (And.intro hc e))))))))))))
theorem bC_78_13 {d : Nat} {Q : Option Value → ai_H → Prop} {h : ai_H} {x1 x2 x3 y0 : Int32} (kt : ¬ y0 = 0 → RC d 78 Q 19 [some (.ref 29), some (.int x1), some (.int x2), some (.int x3), none] [] h) (kf : y0 = 0 → RC d 78 Q 16 [some (.ref 29), some (.int x1), some (.int x2), some (.int x3), none] [] h) : RC d 78 Q 13 [some (.ref 29), some (.int x1), some (.int x2), some (.int x3), none] [.int y0] h := by
  by_cases c : y0 = 0
  · obtain ⟨n, e⟩ := kf c
    exact Exists.intro (n + 1) (Or.inr (And.intro (fun z => z c) e))
  · obtain ⟨n, e⟩ := kt c
    exact Exists.intro (n + 1) (Or.inl (And.intro c e))
theorem bC_78_16 {d : Nat} {Q : Option Value → ai_H → Prop} {h : ai_H} {x1 x2 x3 : Int32} (k : Q (some (.int (-2))) h) : RC d 78 Q 16 [some (.ref 29), some (.int x1), some (.int x2), some (.int x3), none] [] h := Exists.intro 2 (And.intro (Or.inl rfl) k)
theorem bC_78_19 {d : Nat} {Q : Option Value → ai_H → Prop} {h : ai_H} {x1 x2 x3 : Int32} (kt : x1 < 0 → RC d 78 Q 37 [some (.ref 29), some (.int x1), some (.int x2), some (.int x3), none] [] h) (kf : ¬ x1 < 0 → RC d 78 Q 23 [some (.ref 29), some (.int x1), some (.int x2), some (.int x3), none] [] h) : RC d 78 Q 19 [some (.ref 29), some (.int x1), some (.int x2), some (.int x3), none] [] h := by
  by_cases c : x1 < 0
  · obtain ⟨n, e⟩ := kt c
    exact Exists.intro (n + 2) (Or.inl (And.intro c e))
  · obtain ⟨n, e⟩ := kf c
    exact Exists.intro (n + 2) (Or.inr (And.intro c e))
theorem bC_78_23 {d : Nat} {Q : Option Value → ai_H → Prop} {h : ai_H} {x1 x2 x3 : Int32} (kt : 2 < x1 → RC d 78 Q 37 [some (.ref 29), some (.int x1), some (.int x2), some (.int x3), none] [] h) (kf : ¬ 2 < x1 → RC d 78 Q 28 [some (.ref 29), some (.int x1), some (.int x2), some (.int x3), none] [] h) : RC d 78 Q 23 [some (.ref 29), some (.int x1), some (.int x2), some (.int x3), none] [] h := by
  by_cases c : 2 < x1
  · obtain ⟨n, e⟩ := kt c
    exact Exists.intro (n + 3) (Or.inl (And.intro c e))
  · obtain ⟨n, e⟩ := kf c
    exact Exists.intro (n + 3) (Or.inr (And.intro c e))
theorem bC_78_28 {d : Nat} {Q : Option Value → ai_H → Prop} {h : ai_H} {x1 x2 x3 : Int32} (kt : x2 < 0 → RC d 78 Q 37 [some (.ref 29), some (.int x1), some (.int x2), some (.int x3), none] [] h) (kf : ¬ x2 < 0 → RC d 78 Q 32 [some (.ref 29), some (.int x1), some (.int x2), some (.int x3), none] [] h) : RC d 78 Q 28 [some (.ref 29), some (.int x1), some (.int x2), some (.int x3), none] [] h := by
  by_cases c : x2 < 0
  · obtain ⟨n, e⟩ := kt c
    exact Exists.intro (n + 2) (Or.inl (And.intro c e))
  · obtain ⟨n, e⟩ := kf c
    exact Exists.intro (n + 2) (Or.inr (And.intro c e))
theorem bC_78_32 {d : Nat} {Q : Option Value → ai_H → Prop} {h : ai_H} {x1 x2 x3 : Int32} (kt : x2 ≤ 3 → RC d 78 Q 40 [some (.ref 29), some (.int x1), some (.int x2), some (.int x3), none] [] h) (kf : ¬ x2 ≤ 3 → RC d 78 Q 37 [some (.ref 29), some (.int x1), some (.int x2), some (.int x3), none] [] h) : RC d 78 Q 32 [some (.ref 29), some (.int x1), some (.int x2), some (.int x3), none] [] h := by
  by_cases c : x2 ≤ 3
  · obtain ⟨n, e⟩ := kt c
    exact Exists.intro (n + 3) (Or.inl (And.intro c e))
  · obtain ⟨n, e⟩ := kf c
    exact Exists.intro (n + 3) (Or.inr (And.intro c e))
theorem bC_78_37 {d : Nat} {Q : Option Value → ai_H → Prop} {h : ai_H} {x1 x2 x3 : Int32} (k : Q (some (.int (-3))) h) : RC d 78 Q 37 [some (.ref 29), some (.int x1), some (.int x2), some (.int x3), none] [] h := Exists.intro 2 (And.intro (Or.inl rfl) k)
theorem bC_78_40 {d : Nat} {Q : Option Value → ai_H → Prop} {h : ai_H} {x1 x2 x3 : Int32} (kt : ¬ x1 = 2 → RC d 78 Q 52 [some (.ref 29), some (.int x1), some (.int x2), some (.int x3), none] [] h) (kf : x1 = 2 → RC d 78 Q 45 [some (.ref 29), some (.int x1), some (.int x2), some (.int x3), none] [] h) : RC d 78 Q 40 [some (.ref 29), some (.int x1), some (.int x2), some (.int x3), none] [] h := by
  by_cases c : x1 = 2
  · obtain ⟨n, e⟩ := kf c
    exact Exists.intro (n + 3) (Or.inr (And.intro (fun z => z c) e))
  · obtain ⟨n, e⟩ := kt c
    exact Exists.intro (n + 3) (Or.inl (And.intro c e))
theorem bC_78_45 {d : Nat} {Q : Option Value → ai_H → Prop} {h : ai_H} {x1 x2 x3 : Int32} (kt : x2 ≤ 0 → RC d 78 Q 52 [some (.ref 29), some (.int x1), some (.int x2), some (.int x3), none] [] h) (kf : ¬ x2 ≤ 0 → RC d 78 Q 49 [some (.ref 29), some (.int x1), some (.int x2), some (.int x3), none] [] h) : RC d 78 Q 45 [some (.ref 29), some (.int x1), some (.int x2), some (.int x3), none] [] h := by
  by_cases c : x2 ≤ 0
  · obtain ⟨n, e⟩ := kt c
    exact Exists.intro (n + 2) (Or.inl (And.intro c e))
  · obtain ⟨n, e⟩ := kf c
    exact Exists.intro (n + 2) (Or.inr (And.intro c e))
theorem bC_78_49 {d : Nat} {Q : Option Value → ai_H → Prop} {h : ai_H} {x1 x2 x3 : Int32} (k : Q (some (.int (-101))) h) : RC d 78 Q 49 [some (.ref 29), some (.int x1), some (.int x2), some (.int x3), none] [] h := Exists.intro 2 (And.intro (Or.inl rfl) k)
theorem bC_78_52 {d : Nat} {Q : Option Value → ai_H → Prop} {h h2 : ai_H} {x1 x2 x3 r : Int32} (hc : CC d 2 [.ref 0] h (some (.int r)) h2) (k : RC d 78 Q 59 [some (.ref 29), some (.int x1), some (.int x2), some (.int x3), none] [.int r] h2) : RC d 78 Q 52 [some (.ref 29), some (.int x1), some (.int x2), some (.int x3), none] [] h := by
  obtain ⟨n, e⟩ := k
  exact Exists.intro (n + 3) (And.intro rfl (Exists.intro [] (Exists.intro 0 (Exists.intro [] (Exists.intro _ (Exists.intro (some (.int r)) (Exists.intro h2 (And.intro rfl (And.intro rfl (And.intro rfl (And.intro (Nat.le_of_ble_eq_true rfl) (And.intro hc e))))))))))))
theorem bC_78_59 {d : Nat} {Q : Option Value → ai_H → Prop} {h : ai_H} {x1 x2 x3 y0 : Int32} (kt : y0 = 0 → RC d 78 Q 73 [some (.ref 29), some (.int x1), some (.int x2), some (.int x3), none] [] h) (kf : ¬ y0 = 0 → RC d 78 Q 62 [some (.ref 29), some (.int x1), some (.int x2), some (.int x3), none] [] h) : RC d 78 Q 59 [some (.ref 29), some (.int x1), some (.int x2), some (.int x3), none] [.int y0] h := by
  by_cases c : y0 = 0
  · obtain ⟨n, e⟩ := kt c
    exact Exists.intro (n + 1) (Or.inl (And.intro c e))
  · obtain ⟨n, e⟩ := kf c
    exact Exists.intro (n + 1) (Or.inr (And.intro c e))
theorem bC_78_62 {d : Nat} {Q : Option Value → ai_H → Prop} {h h2 : ai_H} {x1 x2 x3 r : Int32} (hc : CC d 58 [.ref 12, .int x2] h (some (.int r)) h2) (k : RC d 78 Q 70 [some (.ref 29), some (.int x1), some (.int x2), some (.int x3), none] [.int r] h2) : RC d 78 Q 62 [some (.ref 29), some (.int x1), some (.int x2), some (.int x3), none] [] h := by
  obtain ⟨n, e⟩ := k
  exact Exists.intro (n + 4) (And.intro rfl (Exists.intro [.int x2] (Exists.intro 12 (Exists.intro [] (Exists.intro _ (Exists.intro (some (.int r)) (Exists.intro h2 (And.intro rfl (And.intro rfl (And.intro rfl (And.intro (Nat.le_of_ble_eq_true rfl) (And.intro hc e))))))))))))
theorem bC_78_70 {d : Nat} {Q : Option Value → ai_H → Prop} {h : ai_H} {x1 x2 x3 y0 : Int32} (kt : ¬ y0 = 0 → RC d 78 Q 76 [some (.ref 29), some (.int x1), some (.int x2), some (.int x3), none] [] h) (kf : y0 = 0 → RC d 78 Q 73 [some (.ref 29), some (.int x1), some (.int x2), some (.int x3), none] [] h) : RC d 78 Q 70 [some (.ref 29), some (.int x1), some (.int x2), some (.int x3), none] [.int y0] h := by
  by_cases c : y0 = 0
  · obtain ⟨n, e⟩ := kf c
    exact Exists.intro (n + 1) (Or.inr (And.intro (fun z => z c) e))
  · obtain ⟨n, e⟩ := kt c
    exact Exists.intro (n + 1) (Or.inl (And.intro c e))
theorem bC_78_73 {d : Nat} {Q : Option Value → ai_H → Prop} {h : ai_H} {x1 x2 x3 : Int32} (k : Q (some (.int (-5))) h) : RC d 78 Q 73 [some (.ref 29), some (.int x1), some (.int x2), some (.int x3), none] [] h := Exists.intro 2 (And.intro (Or.inl rfl) k)
theorem bC_78_76 {d : Nat} {Q : Option Value → ai_H → Prop} {h h2 : ai_H} {x1 x2 x3 r : Int32} (hc : CC d 0 [.ref 0] h (some (.int r)) h2) (k : RC d 78 Q 87 [some (.ref 29), some (.int x1), some (.int x2), some (.int x3), none] [.int r, .ref 12] h2) : RC d 78 Q 76 [some (.ref 29), some (.int x1), some (.int x2), some (.int x3), none] [] h := by
  obtain ⟨n, e⟩ := k
  exact Exists.intro (n + 5) (And.intro rfl (And.intro rfl (Exists.intro [] (Exists.intro 0 (Exists.intro [.ref 12] (Exists.intro _ (Exists.intro (some (.int r)) (Exists.intro h2 (And.intro rfl (And.intro rfl (And.intro rfl (And.intro (Nat.le_of_ble_eq_true rfl) (And.intro hc e)))))))))))))
theorem bC_78_87 {d : Nat} {Q : Option Value → ai_H → Prop} {h h2 : ai_H} {x1 x2 x3 y1 r : Int32} (hc : CC d 59 [.ref 12, .int y1, .int x2] h (some (.int r)) h2) (k : RC d 78 Q 91 [some (.ref 29), some (.int x1), some (.int x2), some (.int x3), none] [.int r] h2) : RC d 78 Q 87 [some (.ref 29), some (.int x1), some (.int x2), some (.int x3), none] [.int y1, .ref 12] h := by
  obtain ⟨n, e⟩ := k
  exact Exists.intro (n + 2) (Exists.intro [.int y1, .int x2] (Exists.intro 12 (Exists.intro [] (Exists.intro _ (Exists.intro (some (.int r)) (Exists.intro h2 (And.intro rfl (And.intro rfl (And.intro rfl (And.intro (Nat.le_of_ble_eq_true rfl) (And.intro hc e)))))))))))
theorem bC_78_91 {d : Nat} {Q : Option Value → ai_H → Prop} {h h2 : ai_H} {x1 x2 x3 y0 r : Int32} (hc : CC d 3 [.ref 0, .int x1, .int x2, .int x3, .int y0] h (some (.int r)) h2) (k : RC d 78 Q 105 [some (.ref 29), some (.int x1), some (.int x2), some (.int x3), some (.int y0)] [.int r] h2) : RC d 78 Q 91 [some (.ref 29), some (.int x1), some (.int x2), some (.int x3), none] [.int y0] h := by
  obtain ⟨n, e⟩ := k
  exact Exists.intro (n + 8) (Exists.intro _ (And.intro rfl (And.intro rfl (Exists.intro [.int x1, .int x2, .int x3, .int y0] (Exists.intro 0 (Exists.intro [] (Exists.intro _ (Exists.intro (some (.int r)) (Exists.intro h2 (And.intro rfl (And.intro rfl (And.intro rfl (And.intro (Nat.le_of_ble_eq_true rfl) (And.intro hc e))))))))))))))
theorem bC_78_105 {d : Nat} {Q : Option Value → ai_H → Prop} {h : ai_H} {x1 x2 x3 x4 y0 : Int32} (k : Q (some (.int y0)) h) : RC d 78 Q 105 [some (.ref 29), some (.int x1), some (.int x2), some (.int x3), some (.int x4)] [.int y0] h := Exists.intro 1 (And.intro (Or.inl rfl) k)
theorem bC_79_0 {d : Nat} {Q : Option Value → ai_H → Prop} {h h2 : ai_H} {x1 x2 r : Int32} (hc : CC d 9 [.ref 0, .int x1, .int x2] h (some (.int r)) h2) (k : RC d 79 Q 9 [some (.ref 29), some (.int x1), some (.int x2), none] [.int r] h2) : RC d 79 Q 0 [some (.ref 29), some (.int x1), some (.int x2), none] [] h := by
  obtain ⟨n, e⟩ := k
  exact Exists.intro (n + 5) (And.intro rfl (Exists.intro [.int x1, .int x2] (Exists.intro 0 (Exists.intro [] (Exists.intro _ (Exists.intro (some (.int r)) (Exists.intro h2 (And.intro rfl (And.intro rfl (And.intro rfl (And.intro (Nat.le_of_ble_eq_true rfl) (And.intro hc e))))))))))))
theorem bC_79_9 {d : Nat} {Q : Option Value → ai_H → Prop} {h : ai_H} {x1 x2 y0 : Int32} (kt : ¬ y0 = (-1) → RC d 79 Q 20 [some (.ref 29), some (.int x1), some (.int x2), some (.int y0)] [] h) (kf : y0 = (-1) → RC d 79 Q 15 [some (.ref 29), some (.int x1), some (.int x2), some (.int y0)] [] h) : RC d 79 Q 9 [some (.ref 29), some (.int x1), some (.int x2), none] [.int y0] h := by
  by_cases c : y0 = (-1)
  · obtain ⟨n, e⟩ := kf c
    exact Exists.intro (n + 4) (Exists.intro _ (And.intro rfl (Or.inr (And.intro (fun z => z c) e))))
  · obtain ⟨n, e⟩ := kt c
    exact Exists.intro (n + 4) (Exists.intro _ (And.intro rfl (Or.inl (And.intro c e))))
theorem bC_79_15 {d : Nat} {Q : Option Value → ai_H → Prop} {h : ai_H} {x1 x2 x3 : Int32} (k : RC d 79 Q 21 [some (.ref 29), some (.int x1), some (.int x2), some (.int x3)] [.int (-2)] h) : RC d 79 Q 15 [some (.ref 29), some (.int x1), some (.int x2), some (.int x3)] [] h := by
  obtain ⟨n, e⟩ := k
  exact Exists.intro (n + 2) (e)
theorem bC_79_20 {d : Nat} {Q : Option Value → ai_H → Prop} {h : ai_H} {x1 x2 x3 : Int32} (k : RC d 79 Q 21 [some (.ref 29), some (.int x1), some (.int x2), some (.int x3)] [.int x3] h) : RC d 79 Q 20 [some (.ref 29), some (.int x1), some (.int x2), some (.int x3)] [] h := by
  obtain ⟨n, e⟩ := k
  exact Exists.intro (n + 1) (e)
theorem bC_79_21 {d : Nat} {Q : Option Value → ai_H → Prop} {h : ai_H} {x1 x2 x3 y0 : Int32} (k : Q (some (.int y0)) h) : RC d 79 Q 21 [some (.ref 29), some (.int x1), some (.int x2), some (.int x3)] [.int y0] h := Exists.intro 1 (And.intro (Or.inl rfl) k)
theorem bC_80_0 {d : Nat} {Q : Option Value → ai_H → Prop} {h h2 : ai_H} {x1 x2 x3 r : Int32} (hc : CC d 9 [.ref 0, .int x1, .int x2] h (some (.int r)) h2) (k : RC d 80 Q 9 [some (.ref 29), some (.int x1), some (.int x2), some (.int x3), none] [.int r] h2) : RC d 80 Q 0 [some (.ref 29), some (.int x1), some (.int x2), some (.int x3), none] [] h := by
  obtain ⟨n, e⟩ := k
  exact Exists.intro (n + 5) (And.intro rfl (Exists.intro [.int x1, .int x2] (Exists.intro 0 (Exists.intro [] (Exists.intro _ (Exists.intro (some (.int r)) (Exists.intro h2 (And.intro rfl (And.intro rfl (And.intro rfl (And.intro (Nat.le_of_ble_eq_true rfl) (And.intro hc e))))))))))))
theorem bC_80_9 {d : Nat} {Q : Option Value → ai_H → Prop} {h : ai_H} {x1 x2 x3 y0 : Int32} (kt : y0 = (-1) → RC d 80 Q 24 [some (.ref 29), some (.int x1), some (.int x2), some (.int x3), none] [] h) (kf : ¬ y0 = (-1) → RC d 80 Q 13 [some (.ref 29), some (.int x1), some (.int x2), some (.int x3), none] [] h) : RC d 80 Q 9 [some (.ref 29), some (.int x1), some (.int x2), some (.int x3), none] [.int y0] h := by
  by_cases c : y0 = (-1)
  · obtain ⟨n, e⟩ := kt c
    exact Exists.intro (n + 2) (Or.inl (And.intro c e))
  · obtain ⟨n, e⟩ := kf c
    exact Exists.intro (n + 2) (Or.inr (And.intro c e))
theorem bC_80_13 {d : Nat} {Q : Option Value → ai_H → Prop} {h h2 : ai_H} {x1 x2 x3 r : Int32} (hc : CC d 57 [.ref 12, .int x3] h (some (.int r)) h2) (k : RC d 80 Q 21 [some (.ref 29), some (.int x1), some (.int x2), some (.int x3), none] [.int r] h2) : RC d 80 Q 13 [some (.ref 29), some (.int x1), some (.int x2), some (.int x3), none] [] h := by
  obtain ⟨n, e⟩ := k
  exact Exists.intro (n + 4) (And.intro rfl (Exists.intro [.int x3] (Exists.intro 12 (Exists.intro [] (Exists.intro _ (Exists.intro (some (.int r)) (Exists.intro h2 (And.intro rfl (And.intro rfl (And.intro rfl (And.intro (Nat.le_of_ble_eq_true rfl) (And.intro hc e))))))))))))
theorem bC_80_21 {d : Nat} {Q : Option Value → ai_H → Prop} {h : ai_H} {x1 x2 x3 y0 : Int32} (kt : ¬ y0 = 0 → RC d 80 Q 27 [some (.ref 29), some (.int x1), some (.int x2), some (.int x3), none] [] h) (kf : y0 = 0 → RC d 80 Q 24 [some (.ref 29), some (.int x1), some (.int x2), some (.int x3), none] [] h) : RC d 80 Q 21 [some (.ref 29), some (.int x1), some (.int x2), some (.int x3), none] [.int y0] h := by
  by_cases c : y0 = 0
  · obtain ⟨n, e⟩ := kf c
    exact Exists.intro (n + 1) (Or.inr (And.intro (fun z => z c) e))
  · obtain ⟨n, e⟩ := kt c
    exact Exists.intro (n + 1) (Or.inl (And.intro c e))
theorem bC_80_24 {d : Nat} {Q : Option Value → ai_H → Prop} {h : ai_H} {x1 x2 x3 : Int32} (k : Q (some (.int (-2))) h) : RC d 80 Q 24 [some (.ref 29), some (.int x1), some (.int x2), some (.int x3), none] [] h := Exists.intro 2 (And.intro (Or.inl rfl) k)
theorem bC_80_27 {d : Nat} {Q : Option Value → ai_H → Prop} {h h2 : ai_H} {x1 x2 x3 r : Int32} (hc : CC d 49 [.ref 23, .int x1, .int x2, .int x3] h (some (.int r)) h2) (k : RC d 80 Q 37 [some (.ref 29), some (.int x1), some (.int x2), some (.int x3), none] [.int r] h2) : RC d 80 Q 27 [some (.ref 29), some (.int x1), some (.int x2), some (.int x3), none] [] h := by
  obtain ⟨n, e⟩ := k
  exact Exists.intro (n + 6) (And.intro rfl (Exists.intro [.int x1, .int x2, .int x3] (Exists.intro 23 (Exists.intro [] (Exists.intro _ (Exists.intro (some (.int r)) (Exists.intro h2 (And.intro rfl (And.intro rfl (And.intro rfl (And.intro (Nat.le_of_ble_eq_true rfl) (And.intro hc e))))))))))))
theorem bC_80_37 {d : Nat} {Q : Option Value → ai_H → Prop} {h : ai_H} {x1 x2 x3 y0 : Int32} (kt : y0 = 0 → RC d 80 Q 52 [some (.ref 29), some (.int x1), some (.int x2), some (.int x3), some (.int y0)] [] h) (kf : ¬ y0 = 0 → RC d 80 Q 44 [some (.ref 29), some (.int x1), some (.int x2), some (.int x3), some (.int y0)] [] h) : RC d 80 Q 37 [some (.ref 29), some (.int x1), some (.int x2), some (.int x3), none] [.int y0] h := by
  by_cases c : y0 = 0
  · obtain ⟨n, e⟩ := kt c
    exact Exists.intro (n + 3) (Exists.intro _ (And.intro rfl (Or.inl (And.intro c e))))
  · obtain ⟨n, e⟩ := kf c
    exact Exists.intro (n + 3) (Exists.intro _ (And.intro rfl (Or.inr (And.intro c e))))
theorem bC_80_44 {d : Nat} {Q : Option Value → ai_H → Prop} {h : ai_H} {x1 x2 x3 x4 : Int32} (k : RC d 80 Q 62 [some (.ref 29), some (.int x1), some (.int x2), some (.int x3), some (.int x4)] [.int ((-100) - x4)] h) : RC d 80 Q 44 [some (.ref 29), some (.int x1), some (.int x2), some (.int x3), some (.int x4)] [] h := by
  obtain ⟨n, e⟩ := k
  exact Exists.intro (n + 4) (e)
theorem bC_80_52 {d : Nat} {Q : Option Value → ai_H → Prop} {h h2 : ai_H} {x1 x2 x3 x4 r : Int32} (hc : CC d 13 [.ref 0, .int x1, .int x2, .int x3] h (some (.int r)) h2) (k : RC d 80 Q 62 [some (.ref 29), some (.int x1), some (.int x2), some (.int x3), some (.int x4)] [.int r] h2) : RC d 80 Q 52 [some (.ref 29), some (.int x1), some (.int x2), some (.int x3), some (.int x4)] [] h := by
  obtain ⟨n, e⟩ := k
  exact Exists.intro (n + 6) (And.intro rfl (Exists.intro [.int x1, .int x2, .int x3] (Exists.intro 0 (Exists.intro [] (Exists.intro _ (Exists.intro (some (.int r)) (Exists.intro h2 (And.intro rfl (And.intro rfl (And.intro rfl (And.intro (Nat.le_of_ble_eq_true rfl) (And.intro hc e))))))))))))
theorem bC_80_62 {d : Nat} {Q : Option Value → ai_H → Prop} {h : ai_H} {x1 x2 x3 x4 y0 : Int32} (k : Q (some (.int y0)) h) : RC d 80 Q 62 [some (.ref 29), some (.int x1), some (.int x2), some (.int x3), some (.int x4)] [.int y0] h := Exists.intro 1 (And.intro (Or.inl rfl) k)
theorem bC_81_0 {d : Nat} {Q : Option Value → ai_H → Prop} {h : ai_H} {x1 x2 : Int32} (kt : x1 = 0 → RC d 81 Q 26 [some (.ref 29), some (.int x1), some (.int x2), none] [] h) (kf : ¬ x1 = 0 → RC d 81 Q 4 [some (.ref 29), some (.int x1), some (.int x2), none] [] h) : RC d 81 Q 0 [some (.ref 29), some (.int x1), some (.int x2), none] [] h := by
  by_cases c : x1 = 0
  · obtain ⟨n, e⟩ := kt c
    exact Exists.intro (n + 2) (Or.inl (And.intro c e))
  · obtain ⟨n, e⟩ := kf c
    exact Exists.intro (n + 2) (Or.inr (And.intro c e))
theorem bC_81_4 {d : Nat} {Q : Option Value → ai_H → Prop} {h h2 : ai_H} {x1 x2 r : Int32} (hc : CC d 1 [.ref 0, .int x1] h (some (.int r)) h2) (k : RC d 81 Q 12 [some (.ref 29), some (.int x1), some (.int x2), none] [.int r] h2) : RC d 81 Q 4 [some (.ref 29), some (.int x1), some (.int x2), none] [] h := by
  obtain ⟨n, e⟩ := k
  exact Exists.intro (n + 4) (And.intro rfl (Exists.intro [.int x1] (Exists.intro 0 (Exists.intro [] (Exists.intro _ (Exists.intro (some (.int r)) (Exists.intro h2 (And.intro rfl (And.intro rfl (And.intro rfl (And.intro (Nat.le_of_ble_eq_true rfl) (And.intro hc e))))))))))))
theorem bC_81_12 {d : Nat} {Q : Option Value → ai_H → Prop} {h : ai_H} {x1 x2 y0 : Int32} (kt : y0 = 0 → RC d 81 Q 26 [some (.ref 29), some (.int x1), some (.int x2), none] [] h) (kf : ¬ y0 = 0 → RC d 81 Q 15 [some (.ref 29), some (.int x1), some (.int x2), none] [] h) : RC d 81 Q 12 [some (.ref 29), some (.int x1), some (.int x2), none] [.int y0] h := by
  by_cases c : y0 = 0
  · obtain ⟨n, e⟩ := kt c
    exact Exists.intro (n + 1) (Or.inl (And.intro c e))
  · obtain ⟨n, e⟩ := kf c
    exact Exists.intro (n + 1) (Or.inr (And.intro c e))
theorem bC_81_15 {d : Nat} {Q : Option Value → ai_H → Prop} {h h2 : ai_H} {x1 x2 r : Int32} (hc : CC d 57 [.ref 12, .int x2] h (some (.int r)) h2) (k : RC d 81 Q 23 [some (.ref 29), some (.int x1), some (.int x2), none] [.int r] h2) : RC d 81 Q 15 [some (.ref 29), some (.int x1), some (.int x2), none] [] h := by
  obtain ⟨n, e⟩ := k
  exact Exists.intro (n + 4) (And.intro rfl (Exists.intro [.int x2] (Exists.intro 12 (Exists.intro [] (Exists.intro _ (Exists.intro (some (.int r)) (Exists.intro h2 (And.intro rfl (And.intro rfl (And.intro rfl (And.intro (Nat.le_of_ble_eq_true rfl) (And.intro hc e))))))))))))
theorem bC_81_23 {d : Nat} {Q : Option Value → ai_H → Prop} {h : ai_H} {x1 x2 y0 : Int32} (kt : ¬ y0 = 0 → RC d 81 Q 29 [some (.ref 29), some (.int x1), some (.int x2), none] [] h) (kf : y0 = 0 → RC d 81 Q 26 [some (.ref 29), some (.int x1), some (.int x2), none] [] h) : RC d 81 Q 23 [some (.ref 29), some (.int x1), some (.int x2), none] [.int y0] h := by
  by_cases c : y0 = 0
  · obtain ⟨n, e⟩ := kf c
    exact Exists.intro (n + 1) (Or.inr (And.intro (fun z => z c) e))
  · obtain ⟨n, e⟩ := kt c
    exact Exists.intro (n + 1) (Or.inl (And.intro c e))
theorem bC_81_26 {d : Nat} {Q : Option Value → ai_H → Prop} {h : ai_H} {x1 x2 : Int32} (k : Q (some (.int (-2))) h) : RC d 81 Q 26 [some (.ref 29), some (.int x1), some (.int x2), none] [] h := Exists.intro 2 (And.intro (Or.inl rfl) k)
theorem bC_81_29 {d : Nat} {Q : Option Value → ai_H → Prop} {h h2 : ai_H} {x1 x2 r : Int32} (hc : CC d 50 [.ref 23, .int x1, .int x2] h (some (.int r)) h2) (k : RC d 81 Q 38 [some (.ref 29), some (.int x1), some (.int x2), none] [.int r] h2) : RC d 81 Q 29 [some (.ref 29), some (.int x1), some (.int x2), none] [] h := by
  obtain ⟨n, e⟩ := k
  exact Exists.intro (n + 5) (And.intro rfl (Exists.intro [.int x1, .int x2] (Exists.intro 23 (Exists.intro [] (Exists.intro _ (Exists.intro (some (.int r)) (Exists.intro h2 (And.intro rfl (And.intro rfl (And.intro rfl (And.intro (Nat.le_of_ble_eq_true rfl) (And.intro hc e))))))))))))
theorem bC_81_38 {d : Nat} {Q : Option Value → ai_H → Prop} {h : ai_H} {x1 x2 y0 : Int32} (kt : y0 = 0 → RC d 81 Q 50 [some (.ref 29), some (.int x1), some (.int x2), some (.int y0)] [] h) (kf : ¬ y0 = 0 → RC d 81 Q 43 [some (.ref 29), some (.int x1), some (.int x2), some (.int y0)] [] h) : RC d 81 Q 38 [some (.ref 29), some (.int x1), some (.int x2), none] [.int y0] h := by
  by_cases c : y0 = 0
  · obtain ⟨n, e⟩ := kt c
    exact Exists.intro (n + 3) (Exists.intro _ (And.intro rfl (Or.inl (And.intro c e))))
  · obtain ⟨n, e⟩ := kf c
    exact Exists.intro (n + 3) (Exists.intro _ (And.intro rfl (Or.inr (And.intro c e))))
theorem bC_81_43 {d : Nat} {Q : Option Value → ai_H → Prop} {h : ai_H} {x1 x2 x3 : Int32} (k : RC d 81 Q 67 [some (.ref 29), some (.int x1), some (.int x2), some (.int x3)] [.int ((-100) - x3)] h) : RC d 81 Q 43 [some (.ref 29), some (.int x1), some (.int x2), some (.int x3)] [] h := by
  obtain ⟨n, e⟩ := k
  exact Exists.intro (n + 4) (e)
theorem bC_81_50 {d : Nat} {Q : Option Value → ai_H → Prop} {h h2 : ai_H} {x1 x2 x3 r : Int32} (hc : CC d 61 [.ref 12, .int x2] h (some (.int r)) h2) (k : RC d 81 Q 64 [some (.ref 29), some (.int x1), some (.int x2), some (.int x3)] [.int r, .int x2, .int x1, .ref 0] h2) : RC d 81 Q 50 [some (.ref 29), some (.int x1), some (.int x2), some (.int x3)] [] h := by
  obtain ⟨n, e⟩ := k
  exact Exists.intro (n + 8) (And.intro rfl (And.intro rfl (Exists.intro [.int x2] (Exists.intro 12 (Exists.intro [.int x2, .int x1, .ref 0] (Exists.intro _ (Exists.intro (some (.int r)) (Exists.intro h2 (And.intro rfl (And.intro rfl (And.intro rfl (And.intro (Nat.le_of_ble_eq_true rfl) (And.intro hc e)))))))))))))
theorem bC_81_64 {d : Nat} {Q : Option Value → ai_H → Prop} {h h2 : ai_H} {x1 x2 x3 y1 y2 y3 r : Int32} (hc : CC d 15 [.ref 0, .int y1, .int y2, .int y3] h (some (.int r)) h2) (k : RC d 81 Q 67 [some (.ref 29), some (.int x1), some (.int x2), some (.int x3)] [.int r] h2) : RC d 81 Q 64 [some (.ref 29), some (.int x1), some (.int x2), some (.int x3)] [.int y3, .int y2, .int y1, .ref 0] h := by
  obtain ⟨n, e⟩ := k
  exact Exists.intro (n + 1) (Exists.intro [.int y1, .int y2, .int y3] (Exists.intro 0 (Exists.intro [] (Exists.intro _ (Exists.intro (some (.int r)) (Exists.intro h2 (And.intro rfl (And.intro rfl (And.intro rfl (And.intro (Nat.le_of_ble_eq_true rfl) (And.intro hc e)))))))))))
theorem bC_81_67 {d : Nat} {Q : Option Value → ai_H → Prop} {h : ai_H} {x1 x2 x3 y0 : Int32} (k : Q (some (.int y0)) h) : RC d 81 Q 67 [some (.ref 29), some (.int x1), some (.int x2), some (.int x3)] [.int y0] h := Exists.intro 1 (And.intro (Or.inl rfl) k)
theorem bC_82_0 {d : Nat} {Q : Option Value → ai_H → Prop} {h : ai_H} {x1 x2 : Int32} (kt : x1 = 3 → RC d 82 Q 19 [some (.ref 29), some (.int x1), some (.int x2)] [] h) (kf : ¬ x1 = 3 → RC d 82 Q 5 [some (.ref 29), some (.int x1), some (.int x2)] [] h) : RC d 82 Q 0 [some (.ref 29), some (.int x1), some (.int x2)] [] h := by
  by_cases c : x1 = 3
  · obtain ⟨n, e⟩ := kt c
    exact Exists.intro (n + 3) (Or.inl (And.intro c e))
  · obtain ⟨n, e⟩ := kf c
    exact Exists.intro (n + 3) (Or.inr (And.intro c e))
theorem bC_82_5 {d : Nat} {Q : Option Value → ai_H → Prop} {h h2 : ai_H} {x1 x2 r : Int32} (hc : CC d 57 [.ref 12, .int x2] h (some (.int r)) h2) (k : RC d 82 Q 13 [some (.ref 29), some (.int x1), some (.int x2)] [.int r] h2) : RC d 82 Q 5 [some (.ref 29), some (.int x1), some (.int x2)] [] h := by
  obtain ⟨n, e⟩ := k
  exact Exists.intro (n + 4) (And.intro rfl (Exists.intro [.int x2] (Exists.intro 12 (Exists.intro [] (Exists.intro _ (Exists.intro (some (.int r)) (Exists.intro h2 (And.intro rfl (And.intro rfl (And.intro rfl (And.intro (Nat.le_of_ble_eq_true rfl) (And.intro hc e))))))))))))
theorem bC_82_13 {d : Nat} {Q : Option Value → ai_H → Prop} {h : ai_H} {x1 x2 y0 : Int32} (kt : ¬ y0 = 0 → RC d 82 Q 19 [some (.ref 29), some (.int x1), some (.int x2)] [] h) (kf : y0 = 0 → RC d 82 Q 16 [some (.ref 29), some (.int x1), some (.int x2)] [] h) : RC d 82 Q 13 [some (.ref 29), some (.int x1), some (.int x2)] [.int y0] h := by
  by_cases c : y0 = 0
  · obtain ⟨n, e⟩ := kf c
    exact Exists.intro (n + 1) (Or.inr (And.intro (fun z => z c) e))
  · obtain ⟨n, e⟩ := kt c
    exact Exists.intro (n + 1) (Or.inl (And.intro c e))
theorem bC_82_16 {d : Nat} {Q : Option Value → ai_H → Prop} {h : ai_H} {x1 x2 : Int32} (k : Q (some (.int (-2))) h) : RC d 82 Q 16 [some (.ref 29), some (.int x1), some (.int x2)] [] h := Exists.intro 2 (And.intro (Or.inl rfl) k)
theorem bC_82_19 {d : Nat} {Q : Option Value → ai_H → Prop} {h : ai_H} {x1 x2 : Int32} (kt : x1 < 0 → RC d 82 Q 28 [some (.ref 29), some (.int x1), some (.int x2)] [] h) (kf : ¬ x1 < 0 → RC d 82 Q 23 [some (.ref 29), some (.int x1), some (.int x2)] [] h) : RC d 82 Q 19 [some (.ref 29), some (.int x1), some (.int x2)] [] h := by
  by_cases c : x1 < 0
  · obtain ⟨n, e⟩ := kt c
    exact Exists.intro (n + 2) (Or.inl (And.intro c e))
  · obtain ⟨n, e⟩ := kf c
    exact Exists.intro (n + 2) (Or.inr (And.intro c e))
theorem bC_82_23 {d : Nat} {Q : Option Value → ai_H → Prop} {h : ai_H} {x1 x2 : Int32} (kt : x1 ≤ 3 → RC d 82 Q 31 [some (.ref 29), some (.int x1), some (.int x2)] [] h) (kf : ¬ x1 ≤ 3 → RC d 82 Q 28 [some (.ref 29), some (.int x1), some (.int x2)] [] h) : RC d 82 Q 23 [some (.ref 29), some (.int x1), some (.int x2)] [] h := by
  by_cases c : x1 ≤ 3
  · obtain ⟨n, e⟩ := kt c
    exact Exists.intro (n + 3) (Or.inl (And.intro c e))
  · obtain ⟨n, e⟩ := kf c
    exact Exists.intro (n + 3) (Or.inr (And.intro c e))
theorem bC_82_28 {d : Nat} {Q : Option Value → ai_H → Prop} {h : ai_H} {x1 x2 : Int32} (k : Q (some (.int (-3))) h) : RC d 82 Q 28 [some (.ref 29), some (.int x1), some (.int x2)] [] h := Exists.intro 2 (And.intro (Or.inl rfl) k)
theorem bC_82_31 {d : Nat} {Q : Option Value → ai_H → Prop} {h : ai_H} {x1 x2 : Int32} (kt : x1 = 3 → RC d 82 Q 50 [some (.ref 29), some (.int x1), some (.int x2)] [] h) (kf : ¬ x1 = 3 → RC d 82 Q 36 [some (.ref 29), some (.int x1), some (.int x2)] [] h) : RC d 82 Q 31 [some (.ref 29), some (.int x1), some (.int x2)] [] h := by
  by_cases c : x1 = 3
  · obtain ⟨n, e⟩ := kt c
    exact Exists.intro (n + 3) (Or.inl (And.intro c e))
  · obtain ⟨n, e⟩ := kf c
    exact Exists.intro (n + 3) (Or.inr (And.intro c e))
theorem bC_82_36 {d : Nat} {Q : Option Value → ai_H → Prop} {h h2 : ai_H} {x1 x2 r : Int32} (hc : CC d 69 [.ref 12, .int x2] h (some (.int r)) h2) (k : RC d 82 Q 44 [some (.ref 29), some (.int x1), some (.int x2)] [.int r] h2) : RC d 82 Q 36 [some (.ref 29), some (.int x1), some (.int x2)] [] h := by
  obtain ⟨n, e⟩ := k
  exact Exists.intro (n + 4) (And.intro rfl (Exists.intro [.int x2] (Exists.intro 12 (Exists.intro [] (Exists.intro _ (Exists.intro (some (.int r)) (Exists.intro h2 (And.intro rfl (And.intro rfl (And.intro rfl (And.intro (Nat.le_of_ble_eq_true rfl) (And.intro hc e))))))))))))
theorem bC_82_44 {d : Nat} {Q : Option Value → ai_H → Prop} {h : ai_H} {x1 x2 y0 : Int32} (kt : ¬ y0 = 0 → RC d 82 Q 50 [some (.ref 29), some (.int x1), some (.int x2)] [] h) (kf : y0 = 0 → RC d 82 Q 47 [some (.ref 29), some (.int x1), some (.int x2)] [] h) : RC d 82 Q 44 [some (.ref 29), some (.int x1), some (.int x2)] [.int y0] h := by
  by_cases c : y0 = 0
  · obtain ⟨n, e⟩ := kf c
    exact Exists.intro (n + 1) (Or.inr (And.intro (fun z => z c) e))
  · obtain ⟨n, e⟩ := kt c
    exact Exists.intro (n + 1) (Or.inl (And.intro c e))
theorem bC_82_47 {d : Nat} {Q : Option Value → ai_H → Prop} {h : ai_H} {x1 x2 : Int32} (k : Q (some (.int (-109))) h) : RC d 82 Q 47 [some (.ref 29), some (.int x1), some (.int x2)] [] h := Exists.intro 2 (And.intro (Or.inl rfl) k)
theorem bC_82_50 {d : Nat} {Q : Option Value → ai_H → Prop} {h : ai_H} {x1 x2 : Int32} (kt : (h 29 8) < 3 → RC d 82 Q 61 [some (.ref 29), some (.int x1), some (.int x2)] [] h) (kf : ¬ (h 29 8) < 3 → RC d 82 Q 58 [some (.ref 29), some (.int x1), some (.int x2)] [] h) : RC d 82 Q 50 [some (.ref 29), some (.int x1), some (.int x2)] [] h := by
  by_cases c : (h 29 8) < 3
  · obtain ⟨n, e⟩ := kt c
    exact Exists.intro (n + 4) (And.intro rfl (Or.inl (And.intro c e)))
  · obtain ⟨n, e⟩ := kf c
    exact Exists.intro (n + 4) (And.intro rfl (Or.inr (And.intro c e)))
theorem bC_82_58 {d : Nat} {Q : Option Value → ai_H → Prop} {h : ai_H} {x1 x2 : Int32} (k : Q (some (.int (-5))) h) : RC d 82 Q 58 [some (.ref 29), some (.int x1), some (.int x2)] [] h := Exists.intro 2 (And.intro (Or.inl rfl) k)
theorem bC_82_61 {d : Nat} {Q : Option Value → ai_H → Prop} {h h2 : ai_H} {x1 x2 r : Int32} (hc : CC d 96 [.int x1, .int x2] h (some (.int r)) h2) (k : RC d 82 Q 74 [some (.ref 29), some (.int x1), some (.int x2)] [.int r, .int (h 29 8), .ref 30] h2) : RC d 82 Q 61 [some (.ref 29), some (.int x1), some (.int x2)] [] h := by
  obtain ⟨n, e⟩ := k
  exact Exists.intro (n + 7) (And.intro rfl (And.intro rfl (Exists.intro [.int x1, .int x2] (Exists.intro [.int (h 29 8), .ref 30] (Exists.intro (some (.int r)) (Exists.intro h2 (And.intro rfl (And.intro rfl (And.intro (Nat.le_of_ble_eq_true rfl) (And.intro hc e))))))))))
theorem bC_82_74 {d : Nat} {Q : Option Value → ai_H → Prop} {h : ai_H} {x1 x2 y1 y2 : Int32} (hi1 : vp_in y1 3) (k : Q (some (.int ((ai_up (ai_up h 30 (Int32.toNatClampNeg y1) y2) 29 8 (((ai_up h 30 (Int32.toNatClampNeg y1) y2) 29 8) + 1)) 29 8))) (ai_up (ai_up h 30 (Int32.toNatClampNeg y1) y2) 29 8 (((ai_up h 30 (Int32.toNatClampNeg y1) y2) 29 8) + 1))) : RC d 82 Q 74 [some (.ref 29), some (.int x1), some (.int x2)] [.int y2, .int y1, .ref 30] h := Exists.intro 10 (Exists.intro 3 (And.intro rfl (And.intro hi1 (And.intro rfl (And.intro rfl (And.intro (Exists.intro _ (And.intro rfl rfl)) (And.intro (Or.inl rfl) (And.intro rfl (And.intro (Or.inl rfl) k)))))))))
theorem bC_83_0 {d : Nat} {Q : Option Value → ai_H → Prop} {h : ai_H} {x1 x2 : Int32} (kt : (h 29 8) ≤ 0 → RC d 83 Q 16 [some (.ref 29), some (.int x1), some (.int x2), none, none, none, none] [] h) (kf : ¬ (h 29 8) ≤ 0 → RC d 83 Q 7 [some (.ref 29), some (.int x1), some (.int x2), none, none, none, none] [] h) : RC d 83 Q 0 [some (.ref 29), some (.int x1), some (.int x2), none, none, none, none] [] h := by
  by_cases c : (h 29 8) ≤ 0
  · obtain ⟨n, e⟩ := kt c
    exact Exists.intro (n + 3) (And.intro rfl (Or.inl (And.intro c e)))
  · obtain ⟨n, e⟩ := kf c
    exact Exists.intro (n + 3) (And.intro rfl (Or.inr (And.intro c e)))
theorem bC_83_7 {d : Nat} {Q : Option Value → ai_H → Prop} {h : ai_H} {x1 x2 : Int32} (k : RC d 83 Q 17 [some (.ref 29), some (.int x1), some (.int x2), none, none, none, none] [.int (h 30 (Int32.toNatClampNeg 0))] h) : RC d 83 Q 7 [some (.ref 29), some (.int x1), some (.int x2), none, none, none, none] [] h := by
  obtain ⟨n, e⟩ := k
  exact Exists.intro (n + 5) (And.intro rfl (Exists.intro 3 (And.intro rfl (And.intro (show ¬ _ from by decide) (e)))))
theorem bC_83_16 {d : Nat} {Q : Option Value → ai_H → Prop} {h : ai_H} {x1 x2 : Int32} (k : RC d 83 Q 17 [some (.ref 29), some (.int x1), some (.int x2), none, none, none, none] [.int (-1)] h) : RC d 83 Q 16 [some (.ref 29), some (.int x1), some (.int x2), none, none, none, none] [] h := by
  obtain ⟨n, e⟩ := k
  exact Exists.intro (n + 1) (e)
theorem bC_83_17 {d : Nat} {Q : Option Value → ai_H → Prop} {h : ai_H} {x1 x2 y0 : Int32} (kt : (h 29 8) ≤ 1 → RC d 83 Q 35 [some (.ref 29), some (.int x1), some (.int x2), some (.int y0), none, none, none] [] h) (kf : ¬ (h 29 8) ≤ 1 → RC d 83 Q 26 [some (.ref 29), some (.int x1), some (.int x2), some (.int y0), none, none, none] [] h) : RC d 83 Q 17 [some (.ref 29), some (.int x1), some (.int x2), none, none, none, none] [.int y0] h := by
  by_cases c : (h 29 8) ≤ 1
  · obtain ⟨n, e⟩ := kt c
    exact Exists.intro (n + 5) (Exists.intro _ (And.intro rfl (And.intro rfl (Or.inl (And.intro c e)))))
  · obtain ⟨n, e⟩ := kf c
    exact Exists.intro (n + 5) (Exists.intro _ (And.intro rfl (And.intro rfl (Or.inr (And.intro c e)))))
theorem bC_83_26 {d : Nat} {Q : Option Value → ai_H → Prop} {h : ai_H} {x1 x2 x3 : Int32} (k : RC d 83 Q 36 [some (.ref 29), some (.int x1), some (.int x2), some (.int x3), none, none, none] [.int (h 30 (Int32.toNatClampNeg 1))] h) : RC d 83 Q 26 [some (.ref 29), some (.int x1), some (.int x2), some (.int x3), none, none, none] [] h := by
  obtain ⟨n, e⟩ := k
  exact Exists.intro (n + 5) (And.intro rfl (Exists.intro 3 (And.intro rfl (And.intro (show ¬ _ from by decide) (e)))))
theorem bC_83_35 {d : Nat} {Q : Option Value → ai_H → Prop} {h : ai_H} {x1 x2 x3 : Int32} (k : RC d 83 Q 36 [some (.ref 29), some (.int x1), some (.int x2), some (.int x3), none, none, none] [.int (-1)] h) : RC d 83 Q 35 [some (.ref 29), some (.int x1), some (.int x2), some (.int x3), none, none, none] [] h := by
  obtain ⟨n, e⟩ := k
  exact Exists.intro (n + 1) (e)
theorem bC_83_36 {d : Nat} {Q : Option Value → ai_H → Prop} {h : ai_H} {x1 x2 x3 y0 : Int32} (kt : (h 29 8) ≤ 2 → RC d 83 Q 55 [some (.ref 29), some (.int x1), some (.int x2), some (.int x3), some (.int y0), none, none] [] h) (kf : ¬ (h 29 8) ≤ 2 → RC d 83 Q 46 [some (.ref 29), some (.int x1), some (.int x2), some (.int x3), some (.int y0), none, none] [] h) : RC d 83 Q 36 [some (.ref 29), some (.int x1), some (.int x2), some (.int x3), none, none, none] [.int y0] h := by
  by_cases c : (h 29 8) ≤ 2
  · obtain ⟨n, e⟩ := kt c
    exact Exists.intro (n + 5) (Exists.intro _ (And.intro rfl (And.intro rfl (Or.inl (And.intro c e)))))
  · obtain ⟨n, e⟩ := kf c
    exact Exists.intro (n + 5) (Exists.intro _ (And.intro rfl (And.intro rfl (Or.inr (And.intro c e)))))
theorem bC_83_46 {d : Nat} {Q : Option Value → ai_H → Prop} {h : ai_H} {x1 x2 x3 x4 : Int32} (k : RC d 83 Q 56 [some (.ref 29), some (.int x1), some (.int x2), some (.int x3), some (.int x4), none, none] [.int (h 30 (Int32.toNatClampNeg 2))] h) : RC d 83 Q 46 [some (.ref 29), some (.int x1), some (.int x2), some (.int x3), some (.int x4), none, none] [] h := by
  obtain ⟨n, e⟩ := k
  exact Exists.intro (n + 5) (And.intro rfl (Exists.intro 3 (And.intro rfl (And.intro (show ¬ _ from by decide) (e)))))
theorem bC_83_55 {d : Nat} {Q : Option Value → ai_H → Prop} {h : ai_H} {x1 x2 x3 x4 : Int32} (k : RC d 83 Q 56 [some (.ref 29), some (.int x1), some (.int x2), some (.int x3), some (.int x4), none, none] [.int (-1)] h) : RC d 83 Q 55 [some (.ref 29), some (.int x1), some (.int x2), some (.int x3), some (.int x4), none, none] [] h := by
  obtain ⟨n, e⟩ := k
  exact Exists.intro (n + 1) (e)
theorem bC_83_56 {d : Nat} {Q : Option Value → ai_H → Prop} {h h2 : ai_H} {x1 x2 x3 x4 y0 r : Int32} (hc : CC d 1 [.ref 0, .int x1] (ai_up h 29 8 0) (some (.int r)) h2) (k : RC d 83 Q 71 [some (.ref 29), some (.int x1), some (.int x2), some (.int x3), some (.int x4), some (.int y0), none] [.int r] h2) : RC d 83 Q 56 [some (.ref 29), some (.int x1), some (.int x2), some (.int x3), some (.int x4), none, none] [.int y0] h := by
  obtain ⟨n, e⟩ := k
  exact Exists.intro (n + 8) (Exists.intro _ (And.intro rfl (And.intro (Exists.intro _ (And.intro rfl rfl)) (And.intro (Or.inl rfl) (And.intro rfl (Exists.intro [.int x1] (Exists.intro 0 (Exists.intro [] (Exists.intro _ (Exists.intro (some (.int r)) (Exists.intro h2 (And.intro rfl (And.intro rfl (And.intro rfl (And.intro (Nat.le_of_ble_eq_true rfl) (And.intro hc e))))))))))))))))
theorem bC_83_71 {d : Nat} {Q : Option Value → ai_H → Prop} {h : ai_H} {x1 x2 x3 x4 x5 y0 : Int32} (kt : y0 = 0 → RC d 83 Q 90 [some (.ref 29), some (.int x1), some (.int x2), some (.int x3), some (.int x4), some (.int x5), none] [] h) (kf : ¬ y0 = 0 → RC d 83 Q 74 [some (.ref 29), some (.int x1), some (.int x2), some (.int x3), some (.int x4), some (.int x5), none] [] h) : RC d 83 Q 71 [some (.ref 29), some (.int x1), some (.int x2), some (.int x3), some (.int x4), some (.int x5), none] [.int y0] h := by
  by_cases c : y0 = 0
  · obtain ⟨n, e⟩ := kt c
    exact Exists.intro (n + 1) (Or.inl (And.intro c e))
  · obtain ⟨n, e⟩ := kf c
    exact Exists.intro (n + 1) (Or.inr (And.intro c e))
theorem bC_83_74 {d : Nat} {Q : Option Value → ai_H → Prop} {h : ai_H} {x1 x2 x3 x4 x5 : Int32} (kt : x2 = (-1) → RC d 83 Q 93 [some (.ref 29), some (.int x1), some (.int x2), some (.int x3), some (.int x4), some (.int x5), none] [] h) (kf : ¬ x2 = (-1) → RC d 83 Q 79 [some (.ref 29), some (.int x1), some (.int x2), some (.int x3), some (.int x4), some (.int x5), none] [] h) : RC d 83 Q 74 [some (.ref 29), some (.int x1), some (.int x2), some (.int x3), some (.int x4), some (.int x5), none] [] h := by
  by_cases c : x2 = (-1)
  · obtain ⟨n, e⟩ := kt c
    exact Exists.intro (n + 3) (Or.inl (And.intro c e))
  · obtain ⟨n, e⟩ := kf c
    exact Exists.intro (n + 3) (Or.inr (And.intro c e))
theorem bC_83_79 {d : Nat} {Q : Option Value → ai_H → Prop} {h h2 : ai_H} {x1 x2 x3 x4 x5 r : Int32} (hc : CC d 57 [.ref 12, .int x2] h (some (.int r)) h2) (k : RC d 83 Q 87 [some (.ref 29), some (.int x1), some (.int x2), some (.int x3), some (.int x4), some (.int x5), none] [.int r] h2) : RC d 83 Q 79 [some (.ref 29), some (.int x1), some (.int x2), some (.int x3), some (.int x4), some (.int x5), none] [] h := by
  obtain ⟨n, e⟩ := k
  exact Exists.intro (n + 4) (And.intro rfl (Exists.intro [.int x2] (Exists.intro 12 (Exists.intro [] (Exists.intro _ (Exists.intro (some (.int r)) (Exists.intro h2 (And.intro rfl (And.intro rfl (And.intro rfl (And.intro (Nat.le_of_ble_eq_true rfl) (And.intro hc e))))))))))))
theorem bC_83_87 {d : Nat} {Q : Option Value → ai_H → Prop} {h : ai_H} {x1 x2 x3 x4 x5 y0 : Int32} (kt : ¬ y0 = 0 → RC d 83 Q 93 [some (.ref 29), some (.int x1), some (.int x2), some (.int x3), some (.int x4), some (.int x5), none] [] h) (kf : y0 = 0 → RC d 83 Q 90 [some (.ref 29), some (.int x1), some (.int x2), some (.int x3), some (.int x4), some (.int x5), none] [] h) : RC d 83 Q 87 [some (.ref 29), some (.int x1), some (.int x2), some (.int x3), some (.int x4), some (.int x5), none] [.int y0] h := by
  by_cases c : y0 = 0
  · obtain ⟨n, e⟩ := kf c
    exact Exists.intro (n + 1) (Or.inr (And.intro (fun z => z c) e))
  · obtain ⟨n, e⟩ := kt c
    exact Exists.intro (n + 1) (Or.inl (And.intro c e))
theorem bC_83_90 {d : Nat} {Q : Option Value → ai_H → Prop} {h : ai_H} {x1 x2 x3 x4 x5 : Int32} (k : Q (some (.int (-2))) h) : RC d 83 Q 90 [some (.ref 29), some (.int x1), some (.int x2), some (.int x3), some (.int x4), some (.int x5), none] [] h := Exists.intro 2 (And.intro (Or.inl rfl) k)
theorem bC_83_93 {d : Nat} {Q : Option Value → ai_H → Prop} {h h2 : ai_H} {x1 x2 x3 x4 x5 : Int32} (hc : CC d 73 [.ref 12] h (none) h2) (k : RC d 83 Q 100 [some (.ref 29), some (.int x1), some (.int x2), some (.int x3), some (.int x4), some (.int x5), none] [] h2) : RC d 83 Q 93 [some (.ref 29), some (.int x1), some (.int x2), some (.int x3), some (.int x4), some (.int x5), none] [] h := by
  obtain ⟨n, e⟩ := k
  exact Exists.intro (n + 3) (And.intro rfl (Exists.intro [] (Exists.intro 12 (Exists.intro [] (Exists.intro _ (Exists.intro (none) (Exists.intro h2 (And.intro rfl (And.intro rfl (And.intro rfl (And.intro (Nat.le_of_ble_eq_true rfl) (And.intro hc e))))))))))))
theorem bC_83_100 {d : Nat} {Q : Option Value → ai_H → Prop} {h h2 : ai_H} {x1 x2 x3 x4 x5 r : Int32} (hc : CC d 53 [.ref 23, .int x1, .int x2, .int x3, .int x4, .int x5] h (some (.int r)) h2) (k : RC d 83 Q 114 [some (.ref 29), some (.int x1), some (.int x2), some (.int x3), some (.int x4), some (.int x5), none] [.int r] h2) : RC d 83 Q 100 [some (.ref 29), some (.int x1), some (.int x2), some (.int x3), some (.int x4), some (.int x5), none] [] h := by
  obtain ⟨n, e⟩ := k
  exact Exists.intro (n + 8) (And.intro rfl (Exists.intro [.int x1, .int x2, .int x3, .int x4, .int x5] (Exists.intro 23 (Exists.intro [] (Exists.intro _ (Exists.intro (some (.int r)) (Exists.intro h2 (And.intro rfl (And.intro rfl (And.intro rfl (And.intro (Nat.le_of_ble_eq_true rfl) (And.intro hc e))))))))))))
theorem bC_83_114 {d : Nat} {Q : Option Value → ai_H → Prop} {h : ai_H} {x1 x2 x3 x4 x5 y0 : Int32} (kt : y0 = 0 → RC d 83 Q 127 [some (.ref 29), some (.int x1), some (.int x2), some (.int x3), some (.int x4), some (.int x5), some (.int y0)] [] h) (kf : ¬ y0 = 0 → RC d 83 Q 121 [some (.ref 29), some (.int x1), some (.int x2), some (.int x3), some (.int x4), some (.int x5), some (.int y0)] [] h) : RC d 83 Q 114 [some (.ref 29), some (.int x1), some (.int x2), some (.int x3), some (.int x4), some (.int x5), none] [.int y0] h := by
  by_cases c : y0 = 0
  · obtain ⟨n, e⟩ := kt c
    exact Exists.intro (n + 3) (Exists.intro _ (And.intro rfl (Or.inl (And.intro c e))))
  · obtain ⟨n, e⟩ := kf c
    exact Exists.intro (n + 3) (Exists.intro _ (And.intro rfl (Or.inr (And.intro c e))))
theorem bC_83_121 {d : Nat} {Q : Option Value → ai_H → Prop} {h : ai_H} {x1 x2 x3 x4 x5 x6 : Int32} (k : Q (some (.int ((-100) - x6))) h) : RC d 83 Q 121 [some (.ref 29), some (.int x1), some (.int x2), some (.int x3), some (.int x4), some (.int x5), some (.int x6)] [] h := Exists.intro 4 (And.intro (Or.inl rfl) k)
theorem bC_83_127 {d : Nat} {Q : Option Value → ai_H → Prop} {h h2 : ai_H} {x1 x2 x3 x4 x5 x6 r : Int32} (hc : CC d 74 [.ref 12, .int 5, .int x1, .int x2, .int x3, .int x4, .int x5] h (some (.int r)) h2) (k : RC d 83 Q 146 [some (.ref 29), some (.int x1), some (.int x2), some (.int x3), some (.int x4), some (.int x5), some (.int x6)] [.int r, .ref 12] h2) : RC d 83 Q 127 [some (.ref 29), some (.int x1), some (.int x2), some (.int x3), some (.int x4), some (.int x5), some (.int x6)] [] h := by
  obtain ⟨n, e⟩ := k
  exact Exists.intro (n + 11) (And.intro rfl (And.intro rfl (Exists.intro [.int 5, .int x1, .int x2, .int x3, .int x4, .int x5] (Exists.intro 12 (Exists.intro [.ref 12] (Exists.intro _ (Exists.intro (some (.int r)) (Exists.intro h2 (And.intro rfl (And.intro rfl (And.intro rfl (And.intro (Nat.le_of_ble_eq_true rfl) (And.intro hc e)))))))))))))
theorem bC_83_146 {d : Nat} {Q : Option Value → ai_H → Prop} {h h2 : ai_H} {x1 x2 x3 x4 x5 x6 y1 r : Int32} (hc : CC d 75 [.ref 12, .int y1] h (some (.int r)) h2) (k : RC d 83 Q 149 [some (.ref 29), some (.int x1), some (.int x2), some (.int x3), some (.int x4), some (.int x5), some (.int x6)] [.int r] h2) : RC d 83 Q 146 [some (.ref 29), some (.int x1), some (.int x2), some (.int x3), some (.int x4), some (.int x5), some (.int x6)] [.int y1, .ref 12] h := by
  obtain ⟨n, e⟩ := k
  exact Exists.intro (n + 1) (Exists.intro [.int y1] (Exists.intro 12 (Exists.intro [] (Exists.intro _ (Exists.intro (some (.int r)) (Exists.intro h2 (And.intro rfl (And.intro rfl (And.intro rfl (And.intro (Nat.le_of_ble_eq_true rfl) (And.intro hc e)))))))))))
theorem bC_83_149 {d : Nat} {Q : Option Value → ai_H → Prop} {h : ai_H} {x1 x2 x3 x4 x5 x6 y0 : Int32} (k : Q (some (.int y0)) h) : RC d 83 Q 149 [some (.ref 29), some (.int x1), some (.int x2), some (.int x3), some (.int x4), some (.int x5), some (.int x6)] [.int y0] h := Exists.intro 1 (And.intro (Or.inl rfl) k)
theorem bC_84_0 {d : Nat} {Q : Option Value → ai_H → Prop} {h h2 : ai_H} {x1 r : Int32} (hc : CC d 57 [.ref 12, .int x1] h (some (.int r)) h2) (k : RC d 84 Q 8 [some (.ref 29), some (.int x1)] [.int r] h2) : RC d 84 Q 0 [some (.ref 29), some (.int x1)] [] h := by
  obtain ⟨n, e⟩ := k
  exact Exists.intro (n + 4) (And.intro rfl (Exists.intro [.int x1] (Exists.intro 12 (Exists.intro [] (Exists.intro _ (Exists.intro (some (.int r)) (Exists.intro h2 (And.intro rfl (And.intro rfl (And.intro rfl (And.intro (Nat.le_of_ble_eq_true rfl) (And.intro hc e))))))))))))
theorem bC_84_8 {d : Nat} {Q : Option Value → ai_H → Prop} {h : ai_H} {x1 y0 : Int32} (kt : ¬ y0 = 0 → RC d 84 Q 14 [some (.ref 29), some (.int x1)] [] h) (kf : y0 = 0 → RC d 84 Q 11 [some (.ref 29), some (.int x1)] [] h) : RC d 84 Q 8 [some (.ref 29), some (.int x1)] [.int y0] h := by
  by_cases c : y0 = 0
  · obtain ⟨n, e⟩ := kf c
    exact Exists.intro (n + 1) (Or.inr (And.intro (fun z => z c) e))
  · obtain ⟨n, e⟩ := kt c
    exact Exists.intro (n + 1) (Or.inl (And.intro c e))
theorem bC_84_11 {d : Nat} {Q : Option Value → ai_H → Prop} {h : ai_H} {x1 : Int32} (k : Q (some (.int (-2))) h) : RC d 84 Q 11 [some (.ref 29), some (.int x1)] [] h := Exists.intro 2 (And.intro (Or.inl rfl) k)
theorem bC_84_14 {d : Nat} {Q : Option Value → ai_H → Prop} {h h2 : ai_H} {x1 r : Int32} (hc : CC d 70 [.ref 12, .int x1] h (some (.int r)) h2) (k : RC d 84 Q 22 [some (.ref 29), some (.int x1)] [.int r] h2) : RC d 84 Q 14 [some (.ref 29), some (.int x1)] [] h := by
  obtain ⟨n, e⟩ := k
  exact Exists.intro (n + 4) (And.intro rfl (Exists.intro [.int x1] (Exists.intro 12 (Exists.intro [] (Exists.intro _ (Exists.intro (some (.int r)) (Exists.intro h2 (And.intro rfl (And.intro rfl (And.intro rfl (And.intro (Nat.le_of_ble_eq_true rfl) (And.intro hc e))))))))))))
theorem bC_84_22 {d : Nat} {Q : Option Value → ai_H → Prop} {h : ai_H} {x1 y0 : Int32} (kt : ¬ y0 = 0 → RC d 84 Q 28 [some (.ref 29), some (.int x1)] [] h) (kf : y0 = 0 → RC d 84 Q 25 [some (.ref 29), some (.int x1)] [] h) : RC d 84 Q 22 [some (.ref 29), some (.int x1)] [.int y0] h := by
  by_cases c : y0 = 0
  · obtain ⟨n, e⟩ := kf c
    exact Exists.intro (n + 1) (Or.inr (And.intro (fun z => z c) e))
  · obtain ⟨n, e⟩ := kt c
    exact Exists.intro (n + 1) (Or.inl (And.intro c e))
theorem bC_84_25 {d : Nat} {Q : Option Value → ai_H → Prop} {h : ai_H} {x1 : Int32} (k : Q (some (.int (-114))) h) : RC d 84 Q 25 [some (.ref 29), some (.int x1)] [] h := Exists.intro 2 (And.intro (Or.inl rfl) k)
theorem bC_84_28 {d : Nat} {Q : Option Value → ai_H → Prop} {h h2 : ai_H} {x1 : Int32} (hc : CC d 73 [.ref 12] h (none) h2) (k : RC d 84 Q 35 [some (.ref 29), some (.int x1)] [] h2) : RC d 84 Q 28 [some (.ref 29), some (.int x1)] [] h := by
  obtain ⟨n, e⟩ := k
  exact Exists.intro (n + 3) (And.intro rfl (Exists.intro [] (Exists.intro 12 (Exists.intro [] (Exists.intro _ (Exists.intro (none) (Exists.intro h2 (And.intro rfl (And.intro rfl (And.intro rfl (And.intro (Nat.le_of_ble_eq_true rfl) (And.intro hc e))))))))))))
theorem bC_84_35 {d : Nat} {Q : Option Value → ai_H → Prop} {h h2 : ai_H} {x1 r : Int32} (hc : CC d 74 [.ref 12, .int 4, .int (-1), .int x1, .int (-1), .int (-1), .int (-1)] h (some (.int r)) h2) (k : RC d 84 Q 52 [some (.ref 29), some (.int x1)] [.int r, .ref 12] h2) : RC d 84 Q 35 [some (.ref 29), some (.int x1)] [] h := by
  obtain ⟨n, e⟩ := k
  exact Exists.intro (n + 11) (And.intro rfl (And.intro rfl (Exists.intro [.int 4, .int (-1), .int x1, .int (-1), .int (-1), .int (-1)] (Exists.intro 12 (Exists.intro [.ref 12] (Exists.intro _ (Exists.intro (some (.int r)) (Exists.intro h2 (And.intro rfl (And.intro rfl (And.intro rfl (And.intro (Nat.le_of_ble_eq_true rfl) (And.intro hc e)))))))))))))
theorem bC_84_52 {d : Nat} {Q : Option Value → ai_H → Prop} {h h2 : ai_H} {x1 y1 r : Int32} (hc : CC d 75 [.ref 12, .int y1] h (some (.int r)) h2) (k : RC d 84 Q 55 [some (.ref 29), some (.int x1)] [.int r] h2) : RC d 84 Q 52 [some (.ref 29), some (.int x1)] [.int y1, .ref 12] h := by
  obtain ⟨n, e⟩ := k
  exact Exists.intro (n + 1) (Exists.intro [.int y1] (Exists.intro 12 (Exists.intro [] (Exists.intro _ (Exists.intro (some (.int r)) (Exists.intro h2 (And.intro rfl (And.intro rfl (And.intro rfl (And.intro (Nat.le_of_ble_eq_true rfl) (And.intro hc e)))))))))))
theorem bC_84_55 {d : Nat} {Q : Option Value → ai_H → Prop} {h : ai_H} {x1 y0 : Int32} (k : Q (some (.int y0)) h) : RC d 84 Q 55 [some (.ref 29), some (.int x1)] [.int y0] h := Exists.intro 1 (And.intro (Or.inl rfl) k)
theorem bC_85_0 {d : Nat} {Q : Option Value → ai_H → Prop} {h h2 : ai_H} {x1 x2 r : Int32} (hc : CC d 57 [.ref 12, .int x1] h (some (.int r)) h2) (k : RC d 85 Q 8 [some (.ref 29), some (.int x1), some (.int x2)] [.int r] h2) : RC d 85 Q 0 [some (.ref 29), some (.int x1), some (.int x2)] [] h := by
  obtain ⟨n, e⟩ := k
  exact Exists.intro (n + 4) (And.intro rfl (Exists.intro [.int x1] (Exists.intro 12 (Exists.intro [] (Exists.intro _ (Exists.intro (some (.int r)) (Exists.intro h2 (And.intro rfl (And.intro rfl (And.intro rfl (And.intro (Nat.le_of_ble_eq_true rfl) (And.intro hc e))))))))))))
theorem bC_85_8 {d : Nat} {Q : Option Value → ai_H → Prop} {h : ai_H} {x1 x2 y0 : Int32} (kt : y0 = 0 → RC d 85 Q 21 [some (.ref 29), some (.int x1), some (.int x2)] [] h) (kf : ¬ y0 = 0 → RC d 85 Q 11 [some (.ref 29), some (.int x1), some (.int x2)] [] h) : RC d 85 Q 8 [some (.ref 29), some (.int x1), some (.int x2)] [.int y0] h := by
  by_cases c : y0 = 0
  · obtain ⟨n, e⟩ := kt c
    exact Exists.intro (n + 1) (Or.inl (And.intro c e))
  · obtain ⟨n, e⟩ := kf c
    exact Exists.intro (n + 1) (Or.inr (And.intro c e))
theorem bC_85_11 {d : Nat} {Q : Option Value → ai_H → Prop} {h : ai_H} {x1 x2 : Int32} (kt : x2 < 0 → RC d 85 Q 21 [some (.ref 29), some (.int x1), some (.int x2)] [] h) (kf : ¬ x2 < 0 → RC d 85 Q 15 [some (.ref 29), some (.int x1), some (.int x2)] [] h) : RC d 85 Q 11 [some (.ref 29), some (.int x1), some (.int x2)] [] h := by
  by_cases c : x2 < 0
  · obtain ⟨n, e⟩ := kt c
    exact Exists.intro (n + 2) (Or.inl (And.intro c e))
  · obtain ⟨n, e⟩ := kf c
    exact Exists.intro (n + 2) (Or.inr (And.intro c e))
theorem bC_85_15 {d : Nat} {Q : Option Value → ai_H → Prop} {h : ai_H} {x1 x2 : Int32} (kt : x2 ≤ 12 → RC d 85 Q 24 [some (.ref 29), some (.int x1), some (.int x2)] [] h) (kf : ¬ x2 ≤ 12 → RC d 85 Q 21 [some (.ref 29), some (.int x1), some (.int x2)] [] h) : RC d 85 Q 15 [some (.ref 29), some (.int x1), some (.int x2)] [] h := by
  by_cases c : x2 ≤ 12
  · obtain ⟨n, e⟩ := kt c
    exact Exists.intro (n + 3) (Or.inl (And.intro c e))
  · obtain ⟨n, e⟩ := kf c
    exact Exists.intro (n + 3) (Or.inr (And.intro c e))
theorem bC_85_21 {d : Nat} {Q : Option Value → ai_H → Prop} {h : ai_H} {x1 x2 : Int32} (k : Q (some (.int (-2))) h) : RC d 85 Q 21 [some (.ref 29), some (.int x1), some (.int x2)] [] h := Exists.intro 2 (And.intro (Or.inl rfl) k)
theorem bC_85_24d {d : Nat} {Q : Option Value → ai_H → Prop} {h : ai_H} {x1 x2 : Int32} (c : Int32.toInt x2 < 0 ∨ 12 < Int32.toInt x2) (k : RC d 85 Q 163 [some (.ref 29), some (.int x1), some (.int x2)] [] h) : RC d 85 Q 24 [some (.ref 29), some (.int x1), some (.int x2)] [] h := by
  obtain ⟨n, e⟩ := k
  exact Exists.intro (n + 2) (Or.inl (And.intro c (Exists.intro 163 (And.intro (by decide) e))))
theorem bC_85_24c0 {d : Nat} {Q : Option Value → ai_H → Prop} {h : ai_H} {x1 x2 : Int32} (c : x2 = 0) (k : RC d 85 Q 92 [some (.ref 29), some (.int x1), some (.int x2)] [] h) : RC d 85 Q 24 [some (.ref 29), some (.int x1), some (.int x2)] [] h := by
  obtain ⟨n, e⟩ := k
  exact Exists.intro (n + 2) (Or.inr (And.intro (by rw [c]; decide) (And.intro (by rw [c]; decide) (Exists.intro 67 (Exists.intro 92 (And.intro (by rw [c]; rfl) (And.intro (by decide) e)))))))
theorem bC_85_24c1 {d : Nat} {Q : Option Value → ai_H → Prop} {h : ai_H} {x1 x2 : Int32} (c : x2 = 1) (k : RC d 85 Q 101 [some (.ref 29), some (.int x1), some (.int x2)] [] h) : RC d 85 Q 24 [some (.ref 29), some (.int x1), some (.int x2)] [] h := by
  obtain ⟨n, e⟩ := k
  exact Exists.intro (n + 2) (Or.inr (And.intro (by rw [c]; decide) (And.intro (by rw [c]; decide) (Exists.intro 76 (Exists.intro 101 (And.intro (by rw [c]; rfl) (And.intro (by decide) e)))))))
theorem bC_85_24c2 {d : Nat} {Q : Option Value → ai_H → Prop} {h : ai_H} {x1 x2 : Int32} (c : x2 = 2) (k : RC d 85 Q 110 [some (.ref 29), some (.int x1), some (.int x2)] [] h) : RC d 85 Q 24 [some (.ref 29), some (.int x1), some (.int x2)] [] h := by
  obtain ⟨n, e⟩ := k
  exact Exists.intro (n + 2) (Or.inr (And.intro (by rw [c]; decide) (And.intro (by rw [c]; decide) (Exists.intro 85 (Exists.intro 110 (And.intro (by rw [c]; rfl) (And.intro (by decide) e)))))))
theorem bC_85_24c3 {d : Nat} {Q : Option Value → ai_H → Prop} {h : ai_H} {x1 x2 : Int32} (c : x2 = 3) (k : RC d 85 Q 119 [some (.ref 29), some (.int x1), some (.int x2)] [] h) : RC d 85 Q 24 [some (.ref 29), some (.int x1), some (.int x2)] [] h := by
  obtain ⟨n, e⟩ := k
  exact Exists.intro (n + 2) (Or.inr (And.intro (by rw [c]; decide) (And.intro (by rw [c]; decide) (Exists.intro 94 (Exists.intro 119 (And.intro (by rw [c]; rfl) (And.intro (by decide) e)))))))
theorem bC_85_24c4 {d : Nat} {Q : Option Value → ai_H → Prop} {h : ai_H} {x1 x2 : Int32} (c : x2 = 4) (k : RC d 85 Q 128 [some (.ref 29), some (.int x1), some (.int x2)] [] h) : RC d 85 Q 24 [some (.ref 29), some (.int x1), some (.int x2)] [] h := by
  obtain ⟨n, e⟩ := k
  exact Exists.intro (n + 2) (Or.inr (And.intro (by rw [c]; decide) (And.intro (by rw [c]; decide) (Exists.intro 103 (Exists.intro 128 (And.intro (by rw [c]; rfl) (And.intro (by decide) e)))))))
theorem bC_85_24c5 {d : Nat} {Q : Option Value → ai_H → Prop} {h : ai_H} {x1 x2 : Int32} (c : x2 = 5) (k : RC d 85 Q 137 [some (.ref 29), some (.int x1), some (.int x2)] [] h) : RC d 85 Q 24 [some (.ref 29), some (.int x1), some (.int x2)] [] h := by
  obtain ⟨n, e⟩ := k
  exact Exists.intro (n + 2) (Or.inr (And.intro (by rw [c]; decide) (And.intro (by rw [c]; decide) (Exists.intro 112 (Exists.intro 137 (And.intro (by rw [c]; rfl) (And.intro (by decide) e)))))))
theorem bC_85_24c12 {d : Nat} {Q : Option Value → ai_H → Prop} {h : ai_H} {x1 x2 : Int32} (c : x2 = 12) (k : RC d 85 Q 146 [some (.ref 29), some (.int x1), some (.int x2)] [] h) : RC d 85 Q 24 [some (.ref 29), some (.int x1), some (.int x2)] [] h := by
  obtain ⟨n, e⟩ := k
  exact Exists.intro (n + 2) (Or.inr (And.intro (by rw [c]; decide) (And.intro (by rw [c]; decide) (Exists.intro 121 (Exists.intro 146 (And.intro (by rw [c]; rfl) (And.intro (by decide) e)))))))
theorem bC_85_92 {d : Nat} {Q : Option Value → ai_H → Prop} {h h2 : ai_H} {x1 x2 r : Int32} (hc : CC d 60 [.ref 12, .int x1] h (some (.int r)) h2) (k : RC d 85 Q 100 [some (.ref 29), some (.int x1), some (.int x2)] [.int r] h2) : RC d 85 Q 92 [some (.ref 29), some (.int x1), some (.int x2)] [] h := by
  obtain ⟨n, e⟩ := k
  exact Exists.intro (n + 4) (And.intro rfl (Exists.intro [.int x1] (Exists.intro 12 (Exists.intro [] (Exists.intro _ (Exists.intro (some (.int r)) (Exists.intro h2 (And.intro rfl (And.intro rfl (And.intro rfl (And.intro (Nat.le_of_ble_eq_true rfl) (And.intro hc e))))))))))))
theorem bC_85_100 {d : Nat} {Q : Option Value → ai_H → Prop} {h : ai_H} {x1 x2 y0 : Int32} (k : Q (some (.int y0)) h) : RC d 85 Q 100 [some (.ref 29), some (.int x1), some (.int x2)] [.int y0] h := Exists.intro 1 (And.intro (Or.inl rfl) k)
theorem bC_85_101 {d : Nat} {Q : Option Value → ai_H → Prop} {h h2 : ai_H} {x1 x2 r : Int32} (hc : CC d 61 [.ref 12, .int x1] h (some (.int r)) h2) (k : RC d 85 Q 109 [some (.ref 29), some (.int x1), some (.int x2)] [.int r] h2) : RC d 85 Q 101 [some (.ref 29), some (.int x1), some (.int x2)] [] h := by
  obtain ⟨n, e⟩ := k
  exact Exists.intro (n + 4) (And.intro rfl (Exists.intro [.int x1] (Exists.intro 12 (Exists.intro [] (Exists.intro _ (Exists.intro (some (.int r)) (Exists.intro h2 (And.intro rfl (And.intro rfl (And.intro rfl (And.intro (Nat.le_of_ble_eq_true rfl) (And.intro hc e))))))))))))
theorem bC_85_109 {d : Nat} {Q : Option Value → ai_H → Prop} {h : ai_H} {x1 x2 y0 : Int32} (k : Q (some (.int y0)) h) : RC d 85 Q 109 [some (.ref 29), some (.int x1), some (.int x2)] [.int y0] h := Exists.intro 1 (And.intro (Or.inl rfl) k)
theorem bC_85_110 {d : Nat} {Q : Option Value → ai_H → Prop} {h h2 : ai_H} {x1 x2 r : Int32} (hc : CC d 62 [.ref 12, .int x1] h (some (.int r)) h2) (k : RC d 85 Q 118 [some (.ref 29), some (.int x1), some (.int x2)] [.int r] h2) : RC d 85 Q 110 [some (.ref 29), some (.int x1), some (.int x2)] [] h := by
  obtain ⟨n, e⟩ := k
  exact Exists.intro (n + 4) (And.intro rfl (Exists.intro [.int x1] (Exists.intro 12 (Exists.intro [] (Exists.intro _ (Exists.intro (some (.int r)) (Exists.intro h2 (And.intro rfl (And.intro rfl (And.intro rfl (And.intro (Nat.le_of_ble_eq_true rfl) (And.intro hc e))))))))))))
theorem bC_85_118 {d : Nat} {Q : Option Value → ai_H → Prop} {h : ai_H} {x1 x2 y0 : Int32} (k : Q (some (.int y0)) h) : RC d 85 Q 118 [some (.ref 29), some (.int x1), some (.int x2)] [.int y0] h := Exists.intro 1 (And.intro (Or.inl rfl) k)
theorem bC_85_119 {d : Nat} {Q : Option Value → ai_H → Prop} {h h2 : ai_H} {x1 x2 r : Int32} (hc : CC d 63 [.ref 12, .int x1] h (some (.int r)) h2) (k : RC d 85 Q 127 [some (.ref 29), some (.int x1), some (.int x2)] [.int r] h2) : RC d 85 Q 119 [some (.ref 29), some (.int x1), some (.int x2)] [] h := by
  obtain ⟨n, e⟩ := k
  exact Exists.intro (n + 4) (And.intro rfl (Exists.intro [.int x1] (Exists.intro 12 (Exists.intro [] (Exists.intro _ (Exists.intro (some (.int r)) (Exists.intro h2 (And.intro rfl (And.intro rfl (And.intro rfl (And.intro (Nat.le_of_ble_eq_true rfl) (And.intro hc e))))))))))))
theorem bC_85_127 {d : Nat} {Q : Option Value → ai_H → Prop} {h : ai_H} {x1 x2 y0 : Int32} (k : Q (some (.int y0)) h) : RC d 85 Q 127 [some (.ref 29), some (.int x1), some (.int x2)] [.int y0] h := Exists.intro 1 (And.intro (Or.inl rfl) k)
theorem bC_85_128 {d : Nat} {Q : Option Value → ai_H → Prop} {h h2 : ai_H} {x1 x2 r : Int32} (hc : CC d 64 [.ref 12, .int x1] h (some (.int r)) h2) (k : RC d 85 Q 136 [some (.ref 29), some (.int x1), some (.int x2)] [.int r] h2) : RC d 85 Q 128 [some (.ref 29), some (.int x1), some (.int x2)] [] h := by
  obtain ⟨n, e⟩ := k
  exact Exists.intro (n + 4) (And.intro rfl (Exists.intro [.int x1] (Exists.intro 12 (Exists.intro [] (Exists.intro _ (Exists.intro (some (.int r)) (Exists.intro h2 (And.intro rfl (And.intro rfl (And.intro rfl (And.intro (Nat.le_of_ble_eq_true rfl) (And.intro hc e))))))))))))
theorem bC_85_136 {d : Nat} {Q : Option Value → ai_H → Prop} {h : ai_H} {x1 x2 y0 : Int32} (k : Q (some (.int y0)) h) : RC d 85 Q 136 [some (.ref 29), some (.int x1), some (.int x2)] [.int y0] h := Exists.intro 1 (And.intro (Or.inl rfl) k)
theorem bC_85_137 {d : Nat} {Q : Option Value → ai_H → Prop} {h h2 : ai_H} {x1 x2 r : Int32} (hc : CC d 66 [.ref 12, .int x1] h (some (.int r)) h2) (k : RC d 85 Q 145 [some (.ref 29), some (.int x1), some (.int x2)] [.int r] h2) : RC d 85 Q 137 [some (.ref 29), some (.int x1), some (.int x2)] [] h := by
  obtain ⟨n, e⟩ := k
  exact Exists.intro (n + 4) (And.intro rfl (Exists.intro [.int x1] (Exists.intro 12 (Exists.intro [] (Exists.intro _ (Exists.intro (some (.int r)) (Exists.intro h2 (And.intro rfl (And.intro rfl (And.intro rfl (And.intro (Nat.le_of_ble_eq_true rfl) (And.intro hc e))))))))))))
theorem bC_85_145 {d : Nat} {Q : Option Value → ai_H → Prop} {h : ai_H} {x1 x2 y0 : Int32} (k : Q (some (.int y0)) h) : RC d 85 Q 145 [some (.ref 29), some (.int x1), some (.int x2)] [.int y0] h := Exists.intro 1 (And.intro (Or.inl rfl) k)
theorem bC_85_146 {d : Nat} {Q : Option Value → ai_H → Prop} {h h2 : ai_H} {x1 x2 r : Int32} (hc : CC d 67 [.ref 12, .int x1] h (some (.int r)) h2) (k : RC d 85 Q 154 [some (.ref 29), some (.int x1), some (.int x2)] [.int r] h2) : RC d 85 Q 146 [some (.ref 29), some (.int x1), some (.int x2)] [] h := by
  obtain ⟨n, e⟩ := k
  exact Exists.intro (n + 4) (And.intro rfl (Exists.intro [.int x1] (Exists.intro 12 (Exists.intro [] (Exists.intro _ (Exists.intro (some (.int r)) (Exists.intro h2 (And.intro rfl (And.intro rfl (And.intro rfl (And.intro (Nat.le_of_ble_eq_true rfl) (And.intro hc e))))))))))))
theorem bC_85_154 {d : Nat} {Q : Option Value → ai_H → Prop} {h : ai_H} {x1 x2 y0 : Int32} (kt : y0 = 0 → RC d 85 Q 161 [some (.ref 29), some (.int x1), some (.int x2)] [] h) (kf : ¬ y0 = 0 → RC d 85 Q 157 [some (.ref 29), some (.int x1), some (.int x2)] [] h) : RC d 85 Q 154 [some (.ref 29), some (.int x1), some (.int x2)] [.int y0] h := by
  by_cases c : y0 = 0
  · obtain ⟨n, e⟩ := kt c
    exact Exists.intro (n + 1) (Or.inl (And.intro c e))
  · obtain ⟨n, e⟩ := kf c
    exact Exists.intro (n + 1) (Or.inr (And.intro c e))
theorem bC_85_157 {d : Nat} {Q : Option Value → ai_H → Prop} {h : ai_H} {x1 x2 : Int32} (k : RC d 85 Q 162 [some (.ref 29), some (.int x1), some (.int x2)] [.int 1] h) : RC d 85 Q 157 [some (.ref 29), some (.int x1), some (.int x2)] [] h := by
  obtain ⟨n, e⟩ := k
  exact Exists.intro (n + 2) (e)
theorem bC_85_161 {d : Nat} {Q : Option Value → ai_H → Prop} {h : ai_H} {x1 x2 : Int32} (k : RC d 85 Q 162 [some (.ref 29), some (.int x1), some (.int x2)] [.int 0] h) : RC d 85 Q 161 [some (.ref 29), some (.int x1), some (.int x2)] [] h := by
  obtain ⟨n, e⟩ := k
  exact Exists.intro (n + 1) (e)
theorem bC_85_162 {d : Nat} {Q : Option Value → ai_H → Prop} {h : ai_H} {x1 x2 y0 : Int32} (k : Q (some (.int y0)) h) : RC d 85 Q 162 [some (.ref 29), some (.int x1), some (.int x2)] [.int y0] h := Exists.intro 1 (And.intro (Or.inl rfl) k)
theorem bC_85_163 {d : Nat} {Q : Option Value → ai_H → Prop} {h : ai_H} {x1 x2 : Int32} (kt : 9 ≤ x2 → RC d 85 Q 187 [some (.ref 29), some (.int x1), some (.int x2)] [] h) (kf : ¬ 9 ≤ x2 → RC d 85 Q 169 [some (.ref 29), some (.int x1), some (.int x2)] [] h) : RC d 85 Q 163 [some (.ref 29), some (.int x1), some (.int x2)] [] h := by
  by_cases c : 9 ≤ x2
  · obtain ⟨n, e⟩ := kt c
    exact Exists.intro (n + 3) (Or.inl (And.intro c e))
  · obtain ⟨n, e⟩ := kf c
    exact Exists.intro (n + 3) (Or.inr (And.intro c e))
theorem bC_85_169 {d : Nat} {Q : Option Value → ai_H → Prop} {h h2 : ai_H} {x1 x2 r : Int32} (hc : CC d 65 [.ref 12, .int x1, .int (x2 - 6)] h (some (.int r)) h2) (k : RC d 85 Q 181 [some (.ref 29), some (.int x1), some (.int x2)] [.int r] h2) : RC d 85 Q 169 [some (.ref 29), some (.int x1), some (.int x2)] [] h := by
  obtain ⟨n, e⟩ := k
  exact Exists.intro (n + 7) (And.intro rfl (Exists.intro [.int x1, .int (x2 - 6)] (Exists.intro 12 (Exists.intro [] (Exists.intro _ (Exists.intro (some (.int r)) (Exists.intro h2 (And.intro rfl (And.intro rfl (And.intro rfl (And.intro (Nat.le_of_ble_eq_true rfl) (And.intro hc e))))))))))))
theorem bC_85_181 {d : Nat} {Q : Option Value → ai_H → Prop} {h h2 : ai_H} {x1 x2 y0 r : Int32} (hc : CC d 97 [.int y0] h (some (.int r)) h2) (k : RC d 85 Q 184 [some (.ref 29), some (.int x1), some (.int x2)] [.int r] h2) : RC d 85 Q 181 [some (.ref 29), some (.int x1), some (.int x2)] [.int y0] h := by
  obtain ⟨n, e⟩ := k
  exact Exists.intro (n + 1) (Exists.intro [.int y0] (Exists.intro [] (Exists.intro (some (.int r)) (Exists.intro h2 (And.intro rfl (And.intro rfl (And.intro (Nat.le_of_ble_eq_true rfl) (And.intro hc e))))))))
theorem bC_85_184 {d : Nat} {Q : Option Value → ai_H → Prop} {h : ai_H} {x1 x2 y0 : Int32} (k : RC d 85 Q 202 [some (.ref 29), some (.int x1), some (.int x2)] [.int y0] h) : RC d 85 Q 184 [some (.ref 29), some (.int x1), some (.int x2)] [.int y0] h := by
  obtain ⟨n, e⟩ := k
  exact Exists.intro (n + 1) (e)
theorem bC_85_187 {d : Nat} {Q : Option Value → ai_H → Prop} {h h2 : ai_H} {x1 x2 r : Int32} (hc : CC d 65 [.ref 12, .int x1, .int (x2 - 9)] h (some (.int r)) h2) (k : RC d 85 Q 199 [some (.ref 29), some (.int x1), some (.int x2)] [.int r] h2) : RC d 85 Q 187 [some (.ref 29), some (.int x1), some (.int x2)] [] h := by
  obtain ⟨n, e⟩ := k
  exact Exists.intro (n + 7) (And.intro rfl (Exists.intro [.int x1, .int (x2 - 9)] (Exists.intro 12 (Exists.intro [] (Exists.intro _ (Exists.intro (some (.int r)) (Exists.intro h2 (And.intro rfl (And.intro rfl (And.intro rfl (And.intro (Nat.le_of_ble_eq_true rfl) (And.intro hc e))))))))))))
theorem bC_85_199 {d : Nat} {Q : Option Value → ai_H → Prop} {h h2 : ai_H} {x1 x2 y0 r : Int32} (hc : CC d 98 [.int y0] h (some (.int r)) h2) (k : RC d 85 Q 202 [some (.ref 29), some (.int x1), some (.int x2)] [.int r] h2) : RC d 85 Q 199 [some (.ref 29), some (.int x1), some (.int x2)] [.int y0] h := by
  obtain ⟨n, e⟩ := k
  exact Exists.intro (n + 1) (Exists.intro [.int y0] (Exists.intro [] (Exists.intro (some (.int r)) (Exists.intro h2 (And.intro rfl (And.intro rfl (And.intro (Nat.le_of_ble_eq_true rfl) (And.intro hc e))))))))
theorem bC_85_202 {d : Nat} {Q : Option Value → ai_H → Prop} {h : ai_H} {x1 x2 y0 : Int32} (k : Q (some (.int y0)) h) : RC d 85 Q 202 [some (.ref 29), some (.int x1), some (.int x2)] [.int y0] h := Exists.intro 1 (And.intro (Or.inl rfl) k)
theorem bC_86_0 {d : Nat} {Q : Option Value → ai_H → Prop} {h h2 : ai_H} {x1 x2 r : Int32} (hc : CC d 57 [.ref 12, .int x1] h (some (.int r)) h2) (k : RC d 86 Q 8 [some (.ref 29), some (.int x1), some (.int x2)] [.int r] h2) : RC d 86 Q 0 [some (.ref 29), some (.int x1), some (.int x2)] [] h := by
  obtain ⟨n, e⟩ := k
  exact Exists.intro (n + 4) (And.intro rfl (Exists.intro [.int x1] (Exists.intro 12 (Exists.intro [] (Exists.intro _ (Exists.intro (some (.int r)) (Exists.intro h2 (And.intro rfl (And.intro rfl (And.intro rfl (And.intro (Nat.le_of_ble_eq_true rfl) (And.intro hc e))))))))))))
theorem bC_86_8 {d : Nat} {Q : Option Value → ai_H → Prop} {h : ai_H} {x1 x2 y0 : Int32} (kt : y0 = 0 → RC d 86 Q 22 [some (.ref 29), some (.int x1), some (.int x2)] [] h) (kf : ¬ y0 = 0 → RC d 86 Q 11 [some (.ref 29), some (.int x1), some (.int x2)] [] h) : RC d 86 Q 8 [some (.ref 29), some (.int x1), some (.int x2)] [.int y0] h := by
  by_cases c : y0 = 0
  · obtain ⟨n, e⟩ := kt c
    exact Exists.intro (n + 1) (Or.inl (And.intro c e))
  · obtain ⟨n, e⟩ := kf c
    exact Exists.intro (n + 1) (Or.inr (And.intro c e))
theorem bC_86_11 {d : Nat} {Q : Option Value → ai_H → Prop} {h h2 : ai_H} {x1 x2 r : Int32} (hc : CC d 57 [.ref 12, .int x2] h (some (.int r)) h2) (k : RC d 86 Q 19 [some (.ref 29), some (.int x1), some (.int x2)] [.int r] h2) : RC d 86 Q 11 [some (.ref 29), some (.int x1), some (.int x2)] [] h := by
  obtain ⟨n, e⟩ := k
  exact Exists.intro (n + 4) (And.intro rfl (Exists.intro [.int x2] (Exists.intro 12 (Exists.intro [] (Exists.intro _ (Exists.intro (some (.int r)) (Exists.intro h2 (And.intro rfl (And.intro rfl (And.intro rfl (And.intro (Nat.le_of_ble_eq_true rfl) (And.intro hc e))))))))))))
theorem bC_86_19 {d : Nat} {Q : Option Value → ai_H → Prop} {h : ai_H} {x1 x2 y0 : Int32} (kt : ¬ y0 = 0 → RC d 86 Q 25 [some (.ref 29), some (.int x1), some (.int x2)] [] h) (kf : y0 = 0 → RC d 86 Q 22 [some (.ref 29), some (.int x1), some (.int x2)] [] h) : RC d 86 Q 19 [some (.ref 29), some (.int x1), some (.int x2)] [.int y0] h := by
  by_cases c : y0 = 0
  · obtain ⟨n, e⟩ := kf c
    exact Exists.intro (n + 1) (Or.inr (And.intro (fun z => z c) e))
  · obtain ⟨n, e⟩ := kt c
    exact Exists.intro (n + 1) (Or.inl (And.intro c e))
theorem bC_86_22 {d : Nat} {Q : Option Value → ai_H → Prop} {h : ai_H} {x1 x2 : Int32} (k : Q (some (.int (-2))) h) : RC d 86 Q 22 [some (.ref 29), some (.int x1), some (.int x2)] [] h := Exists.intro 2 (And.intro (Or.inl rfl) k)
theorem bC_86_25 {d : Nat} {Q : Option Value → ai_H → Prop} {h h2 : ai_H} {x1 x2 : Int32} (hc : CC d 73 [.ref 12] h (none) h2) (k : RC d 86 Q 32 [some (.ref 29), some (.int x1), some (.int x2)] [] h2) : RC d 86 Q 25 [some (.ref 29), some (.int x1), some (.int x2)] [] h := by
  obtain ⟨n, e⟩ := k
  exact Exists.intro (n + 3) (And.intro rfl (Exists.intro [] (Exists.intro 12 (Exists.intro [] (Exists.intro _ (Exists.intro (none) (Exists.intro h2 (And.intro rfl (And.intro rfl (And.intro rfl (And.intro (Nat.le_of_ble_eq_true rfl) (And.intro hc e))))))))))))
theorem bC_86_32 {d : Nat} {Q : Option Value → ai_H → Prop} {h h2 : ai_H} {x1 x2 r : Int32} (hc : CC d 25 [.ref 22, .int x1, .int x2, .int 0] h (some (.int r)) h2) (k : RC d 86 Q 42 [some (.ref 29), some (.int x1), some (.int x2)] [.int r] h2) : RC d 86 Q 32 [some (.ref 29), some (.int x1), some (.int x2)] [] h := by
  obtain ⟨n, e⟩ := k
  exact Exists.intro (n + 6) (And.intro rfl (Exists.intro [.int x1, .int x2, .int 0] (Exists.intro 22 (Exists.intro [] (Exists.intro _ (Exists.intro (some (.int r)) (Exists.intro h2 (And.intro rfl (And.intro rfl (And.intro rfl (And.intro (Nat.le_of_ble_eq_true rfl) (And.intro hc e))))))))))))
theorem bC_86_42 {d : Nat} {Q : Option Value → ai_H → Prop} {h : ai_H} {x1 x2 y0 : Int32} (k : Q (some (.int y0)) h) : RC d 86 Q 42 [some (.ref 29), some (.int x1), some (.int x2)] [.int y0] h := Exists.intro 1 (And.intro (Or.inl rfl) k)
theorem bC_87_0 {d : Nat} {Q : Option Value → ai_H → Prop} {h h2 : ai_H} {x1 r : Int32} (hc : CC d 57 [.ref 12, .int x1] h (some (.int r)) h2) (k : RC d 87 Q 8 [some (.ref 29), some (.int x1)] [.int r] h2) : RC d 87 Q 0 [some (.ref 29), some (.int x1)] [] h := by
  obtain ⟨n, e⟩ := k
  exact Exists.intro (n + 4) (And.intro rfl (Exists.intro [.int x1] (Exists.intro 12 (Exists.intro [] (Exists.intro _ (Exists.intro (some (.int r)) (Exists.intro h2 (And.intro rfl (And.intro rfl (And.intro rfl (And.intro (Nat.le_of_ble_eq_true rfl) (And.intro hc e))))))))))))
theorem bC_87_8 {d : Nat} {Q : Option Value → ai_H → Prop} {h : ai_H} {x1 y0 : Int32} (kt : ¬ y0 = 0 → RC d 87 Q 14 [some (.ref 29), some (.int x1)] [] h) (kf : y0 = 0 → RC d 87 Q 11 [some (.ref 29), some (.int x1)] [] h) : RC d 87 Q 8 [some (.ref 29), some (.int x1)] [.int y0] h := by
  by_cases c : y0 = 0
  · obtain ⟨n, e⟩ := kf c
    exact Exists.intro (n + 1) (Or.inr (And.intro (fun z => z c) e))
  · obtain ⟨n, e⟩ := kt c
    exact Exists.intro (n + 1) (Or.inl (And.intro c e))
theorem bC_87_11 {d : Nat} {Q : Option Value → ai_H → Prop} {h : ai_H} {x1 : Int32} (k : Q (some (.int (-2))) h) : RC d 87 Q 11 [some (.ref 29), some (.int x1)] [] h := Exists.intro 2 (And.intro (Or.inl rfl) k)
theorem bC_87_14 {d : Nat} {Q : Option Value → ai_H → Prop} {h h2 : ai_H} {x1 : Int32} (hc : CC d 73 [.ref 12] h (none) h2) (k : RC d 87 Q 21 [some (.ref 29), some (.int x1)] [] h2) : RC d 87 Q 14 [some (.ref 29), some (.int x1)] [] h := by
  obtain ⟨n, e⟩ := k
  exact Exists.intro (n + 3) (And.intro rfl (Exists.intro [] (Exists.intro 12 (Exists.intro [] (Exists.intro _ (Exists.intro (none) (Exists.intro h2 (And.intro rfl (And.intro rfl (And.intro rfl (And.intro (Nat.le_of_ble_eq_true rfl) (And.intro hc e))))))))))))
theorem bC_87_21 {d : Nat} {Q : Option Value → ai_H → Prop} {h h2 : ai_H} {x1 r : Int32} (hc : CC d 18 [.ref 21, .int x1] h (some (.int r)) h2) (k : RC d 87 Q 33 [some (.ref 29), some (.int x1)] [.int r, .ref 12] h2) : RC d 87 Q 21 [some (.ref 29), some (.int x1)] [] h := by
  obtain ⟨n, e⟩ := k
  exact Exists.intro (n + 6) (And.intro rfl (And.intro rfl (Exists.intro [.int x1] (Exists.intro 21 (Exists.intro [.ref 12] (Exists.intro _ (Exists.intro (some (.int r)) (Exists.intro h2 (And.intro rfl (And.intro rfl (And.intro rfl (And.intro (Nat.le_of_ble_eq_true rfl) (And.intro hc e)))))))))))))
theorem bC_87_33 {d : Nat} {Q : Option Value → ai_H → Prop} {h h2 : ai_H} {x1 y1 r : Int32} (hc : CC d 75 [.ref 12, .int y1] h (some (.int r)) h2) (k : RC d 87 Q 36 [some (.ref 29), some (.int x1)] [.int r] h2) : RC d 87 Q 33 [some (.ref 29), some (.int x1)] [.int y1, .ref 12] h := by
  obtain ⟨n, e⟩ := k
  exact Exists.intro (n + 1) (Exists.intro [.int y1] (Exists.intro 12 (Exists.intro [] (Exists.intro _ (Exists.intro (some (.int r)) (Exists.intro h2 (And.intro rfl (And.intro rfl (And.intro rfl (And.intro (Nat.le_of_ble_eq_true rfl) (And.intro hc e)))))))))))
theorem bC_87_36 {d : Nat} {Q : Option Value → ai_H → Prop} {h : ai_H} {x1 y0 : Int32} (k : Q (some (.int y0)) h) : RC d 87 Q 36 [some (.ref 29), some (.int x1)] [.int y0] h := Exists.intro 1 (And.intro (Or.inl rfl) k)
theorem bC_88_0 {d : Nat} {Q : Option Value → ai_H → Prop} {h h2 : ai_H} {x1 r : Int32} (hc : CC d 57 [.ref 12, .int x1] h (some (.int r)) h2) (k : RC d 88 Q 8 [some (.ref 29), some (.int x1)] [.int r] h2) : RC d 88 Q 0 [some (.ref 29), some (.int x1)] [] h := by
  obtain ⟨n, e⟩ := k
  exact Exists.intro (n + 4) (And.intro rfl (Exists.intro [.int x1] (Exists.intro 12 (Exists.intro [] (Exists.intro _ (Exists.intro (some (.int r)) (Exists.intro h2 (And.intro rfl (And.intro rfl (And.intro rfl (And.intro (Nat.le_of_ble_eq_true rfl) (And.intro hc e))))))))))))
theorem bC_88_8 {d : Nat} {Q : Option Value → ai_H → Prop} {h : ai_H} {x1 y0 : Int32} (kt : ¬ y0 = 0 → RC d 88 Q 14 [some (.ref 29), some (.int x1)] [] h) (kf : y0 = 0 → RC d 88 Q 11 [some (.ref 29), some (.int x1)] [] h) : RC d 88 Q 8 [some (.ref 29), some (.int x1)] [.int y0] h := by
  by_cases c : y0 = 0
  · obtain ⟨n, e⟩ := kf c
    exact Exists.intro (n + 1) (Or.inr (And.intro (fun z => z c) e))
  · obtain ⟨n, e⟩ := kt c
    exact Exists.intro (n + 1) (Or.inl (And.intro c e))
theorem bC_88_11 {d : Nat} {Q : Option Value → ai_H → Prop} {h : ai_H} {x1 : Int32} (k : Q (some (.int (-2))) h) : RC d 88 Q 11 [some (.ref 29), some (.int x1)] [] h := Exists.intro 2 (And.intro (Or.inl rfl) k)
theorem bC_88_14 {d : Nat} {Q : Option Value → ai_H → Prop} {h h2 : ai_H} {x1 r : Int32} (hc : CC d 24 [.ref 21, .int x1] h (some (.int r)) h2) (k : RC d 88 Q 22 [some (.ref 29), some (.int x1)] [.int r] h2) : RC d 88 Q 14 [some (.ref 29), some (.int x1)] [] h := by
  obtain ⟨n, e⟩ := k
  exact Exists.intro (n + 4) (And.intro rfl (Exists.intro [.int x1] (Exists.intro 21 (Exists.intro [] (Exists.intro _ (Exists.intro (some (.int r)) (Exists.intro h2 (And.intro rfl (And.intro rfl (And.intro rfl (And.intro (Nat.le_of_ble_eq_true rfl) (And.intro hc e))))))))))))
theorem bC_88_22 {d : Nat} {Q : Option Value → ai_H → Prop} {h : ai_H} {x1 y0 : Int32} (kt : y0 = 0 → RC d 88 Q 29 [some (.ref 29), some (.int x1)] [] h) (kf : ¬ y0 = 0 → RC d 88 Q 25 [some (.ref 29), some (.int x1)] [] h) : RC d 88 Q 22 [some (.ref 29), some (.int x1)] [.int y0] h := by
  by_cases c : y0 = 0
  · obtain ⟨n, e⟩ := kt c
    exact Exists.intro (n + 1) (Or.inl (And.intro c e))
  · obtain ⟨n, e⟩ := kf c
    exact Exists.intro (n + 1) (Or.inr (And.intro c e))
theorem bC_88_25 {d : Nat} {Q : Option Value → ai_H → Prop} {h : ai_H} {x1 : Int32} (k : RC d 88 Q 30 [some (.ref 29), some (.int x1)] [.int 1] h) : RC d 88 Q 25 [some (.ref 29), some (.int x1)] [] h := by
  obtain ⟨n, e⟩ := k
  exact Exists.intro (n + 2) (e)
theorem bC_88_29 {d : Nat} {Q : Option Value → ai_H → Prop} {h : ai_H} {x1 : Int32} (k : RC d 88 Q 30 [some (.ref 29), some (.int x1)] [.int 0] h) : RC d 88 Q 29 [some (.ref 29), some (.int x1)] [] h := by
  obtain ⟨n, e⟩ := k
  exact Exists.intro (n + 1) (e)
theorem bC_88_30 {d : Nat} {Q : Option Value → ai_H → Prop} {h : ai_H} {x1 y0 : Int32} (k : Q (some (.int y0)) h) : RC d 88 Q 30 [some (.ref 29), some (.int x1)] [.int y0] h := Exists.intro 1 (And.intro (Or.inl rfl) k)
theorem bC_89_0 {d : Nat} {Q : Option Value → ai_H → Prop} {h h2 : ai_H} {x1 x2 r : Int32} (hc : CC d 57 [.ref 12, .int x1] h (some (.int r)) h2) (k : RC d 89 Q 8 [some (.ref 29), some (.int x1), some (.int x2), none] [.int r] h2) : RC d 89 Q 0 [some (.ref 29), some (.int x1), some (.int x2), none] [] h := by
  obtain ⟨n, e⟩ := k
  exact Exists.intro (n + 4) (And.intro rfl (Exists.intro [.int x1] (Exists.intro 12 (Exists.intro [] (Exists.intro _ (Exists.intro (some (.int r)) (Exists.intro h2 (And.intro rfl (And.intro rfl (And.intro rfl (And.intro (Nat.le_of_ble_eq_true rfl) (And.intro hc e))))))))))))
theorem bC_89_8 {d : Nat} {Q : Option Value → ai_H → Prop} {h : ai_H} {x1 x2 y0 : Int32} (kt : y0 = 0 → RC d 89 Q 34 [some (.ref 29), some (.int x1), some (.int x2), none] [] h) (kf : ¬ y0 = 0 → RC d 89 Q 11 [some (.ref 29), some (.int x1), some (.int x2), none] [] h) : RC d 89 Q 8 [some (.ref 29), some (.int x1), some (.int x2), none] [.int y0] h := by
  by_cases c : y0 = 0
  · obtain ⟨n, e⟩ := kt c
    exact Exists.intro (n + 1) (Or.inl (And.intro c e))
  · obtain ⟨n, e⟩ := kf c
    exact Exists.intro (n + 1) (Or.inr (And.intro c e))
theorem bC_89_11 {d : Nat} {Q : Option Value → ai_H → Prop} {h h2 : ai_H} {x1 x2 r : Int32} (hc : CC d 60 [.ref 12, .int x1] h (some (.int r)) h2) (k : RC d 89 Q 19 [some (.ref 29), some (.int x1), some (.int x2), none] [.int r] h2) : RC d 89 Q 11 [some (.ref 29), some (.int x1), some (.int x2), none] [] h := by
  obtain ⟨n, e⟩ := k
  exact Exists.intro (n + 4) (And.intro rfl (Exists.intro [.int x1] (Exists.intro 12 (Exists.intro [] (Exists.intro _ (Exists.intro (some (.int r)) (Exists.intro h2 (And.intro rfl (And.intro rfl (And.intro rfl (And.intro (Nat.le_of_ble_eq_true rfl) (And.intro hc e))))))))))))
theorem bC_89_19 {d : Nat} {Q : Option Value → ai_H → Prop} {h : ai_H} {x1 x2 y0 : Int32} (kt : ¬ y0 = 5 → RC d 89 Q 34 [some (.ref 29), some (.int x1), some (.int x2), none] [] h) (kf : y0 = 5 → RC d 89 Q 23 [some (.ref 29), some (.int x1), some (.int x2), none] [] h) : RC d 89 Q 19 [some (.ref 29), some (.int x1), some (.int x2), none] [.int y0] h := by
  by_cases c : y0 = 5
  · obtain ⟨n, e⟩ := kf c
    exact Exists.intro (n + 2) (Or.inr (And.intro (fun z => z c) e))
  · obtain ⟨n, e⟩ := kt c
    exact Exists.intro (n + 2) (Or.inl (And.intro c e))
theorem bC_89_23 {d : Nat} {Q : Option Value → ai_H → Prop} {h h2 : ai_H} {x1 x2 r : Int32} (hc : CC d 1 [.ref 0, .int x2] h (some (.int r)) h2) (k : RC d 89 Q 31 [some (.ref 29), some (.int x1), some (.int x2), none] [.int r] h2) : RC d 89 Q 23 [some (.ref 29), some (.int x1), some (.int x2), none] [] h := by
  obtain ⟨n, e⟩ := k
  exact Exists.intro (n + 4) (And.intro rfl (Exists.intro [.int x2] (Exists.intro 0 (Exists.intro [] (Exists.intro _ (Exists.intro (some (.int r)) (Exists.intro h2 (And.intro rfl (And.intro rfl (And.intro rfl (And.intro (Nat.le_of_ble_eq_true rfl) (And.intro hc e))))))))))))
theorem bC_89_31 {d : Nat} {Q : Option Value → ai_H → Prop} {h : ai_H} {x1 x2 y0 : Int32} (kt : ¬ y0 = 0 → RC d 89 Q 37 [some (.ref 29), some (.int x1), some (.int x2), none] [] h) (kf : y0 = 0 → RC d 89 Q 34 [some (.ref 29), some (.int x1), some (.int x2), none] [] h) : RC d 89 Q 31 [some (.ref 29), some (.int x1), some (.int x2), none] [.int y0] h := by
  by_cases c : y0 = 0
  · obtain ⟨n, e⟩ := kf c
    exact Exists.intro (n + 1) (Or.inr (And.intro (fun z => z c) e))
  · obtain ⟨n, e⟩ := kt c
    exact Exists.intro (n + 1) (Or.inl (And.intro c e))
theorem bC_89_34 {d : Nat} {Q : Option Value → ai_H → Prop} {h : ai_H} {x1 x2 : Int32} (k : Q (some (.int (-2))) h) : RC d 89 Q 34 [some (.ref 29), some (.int x1), some (.int x2), none] [] h := Exists.intro 2 (And.intro (Or.inl rfl) k)
theorem bC_89_37 {d : Nat} {Q : Option Value → ai_H → Prop} {h h2 : ai_H} {x1 x2 : Int32} (hc : CC d 73 [.ref 12] h (none) h2) (k : RC d 89 Q 44 [some (.ref 29), some (.int x1), some (.int x2), none] [] h2) : RC d 89 Q 37 [some (.ref 29), some (.int x1), some (.int x2), none] [] h := by
  obtain ⟨n, e⟩ := k
  exact Exists.intro (n + 3) (And.intro rfl (Exists.intro [] (Exists.intro 12 (Exists.intro [] (Exists.intro _ (Exists.intro (none) (Exists.intro h2 (And.intro rfl (And.intro rfl (And.intro rfl (And.intro (Nat.le_of_ble_eq_true rfl) (And.intro hc e))))))))))))
theorem bC_89_44 {d : Nat} {Q : Option Value → ai_H → Prop} {h h2 : ai_H} {x1 x2 r : Int32} (hc : CC d 23 [.ref 21, .int x1, .int x2] h (some (.int r)) h2) (k : RC d 89 Q 53 [some (.ref 29), some (.int x1), some (.int x2), none] [.int r] h2) : RC d 89 Q 44 [some (.ref 29), some (.int x1), some (.int x2), none] [] h := by
  obtain ⟨n, e⟩ := k
  exact Exists.intro (n + 5) (And.intro rfl (Exists.intro [.int x1, .int x2] (Exists.intro 21 (Exists.intro [] (Exists.intro _ (Exists.intro (some (.int r)) (Exists.intro h2 (And.intro rfl (And.intro rfl (And.intro rfl (And.intro (Nat.le_of_ble_eq_true rfl) (And.intro hc e))))))))))))
theorem bC_89_53 {d : Nat} {Q : Option Value → ai_H → Prop} {h : ai_H} {x1 x2 y0 : Int32} (kt : ¬ y0 = (-1) → RC d 89 Q 63 [some (.ref 29), some (.int x1), some (.int x2), some (.int y0)] [] h) (kf : y0 = (-1) → RC d 89 Q 59 [some (.ref 29), some (.int x1), some (.int x2), some (.int y0)] [] h) : RC d 89 Q 53 [some (.ref 29), some (.int x1), some (.int x2), none] [.int y0] h := by
  by_cases c : y0 = (-1)
  · obtain ⟨n, e⟩ := kf c
    exact Exists.intro (n + 4) (Exists.intro _ (And.intro rfl (Or.inr (And.intro (fun z => z c) e))))
  · obtain ⟨n, e⟩ := kt c
    exact Exists.intro (n + 4) (Exists.intro _ (And.intro rfl (Or.inl (And.intro c e))))
theorem bC_89_59 {d : Nat} {Q : Option Value → ai_H → Prop} {h : ai_H} {x1 x2 x3 : Int32} (k : RC d 89 Q 71 [some (.ref 29), some (.int x1), some (.int x2), some (.int x3)] [.int (-1)] h) : RC d 89 Q 59 [some (.ref 29), some (.int x1), some (.int x2), some (.int x3)] [] h := by
  obtain ⟨n, e⟩ := k
  exact Exists.intro (n + 2) (e)
theorem bC_89_63 {d : Nat} {Q : Option Value → ai_H → Prop} {h h2 : ai_H} {x1 x2 x3 r : Int32} (hc : CC d 75 [.ref 12, .int x3] h (some (.int r)) h2) (k : RC d 89 Q 71 [some (.ref 29), some (.int x1), some (.int x2), some (.int x3)] [.int r] h2) : RC d 89 Q 63 [some (.ref 29), some (.int x1), some (.int x2), some (.int x3)] [] h := by
  obtain ⟨n, e⟩ := k
  exact Exists.intro (n + 4) (And.intro rfl (Exists.intro [.int x3] (Exists.intro 12 (Exists.intro [] (Exists.intro _ (Exists.intro (some (.int r)) (Exists.intro h2 (And.intro rfl (And.intro rfl (And.intro rfl (And.intro (Nat.le_of_ble_eq_true rfl) (And.intro hc e))))))))))))
theorem bC_89_71 {d : Nat} {Q : Option Value → ai_H → Prop} {h : ai_H} {x1 x2 x3 y0 : Int32} (k : Q (some (.int y0)) h) : RC d 89 Q 71 [some (.ref 29), some (.int x1), some (.int x2), some (.int x3)] [.int y0] h := Exists.intro 1 (And.intro (Or.inl rfl) k)
theorem bC_90_0 {d : Nat} {Q : Option Value → ai_H → Prop} {h h2 : ai_H} {x1 x2 r : Int32} (hc : CC d 57 [.ref 12, .int x1] h (some (.int r)) h2) (k : RC d 90 Q 8 [some (.ref 29), some (.int x1), some (.int x2)] [.int r] h2) : RC d 90 Q 0 [some (.ref 29), some (.int x1), some (.int x2)] [] h := by
  obtain ⟨n, e⟩ := k
  exact Exists.intro (n + 4) (And.intro rfl (Exists.intro [.int x1] (Exists.intro 12 (Exists.intro [] (Exists.intro _ (Exists.intro (some (.int r)) (Exists.intro h2 (And.intro rfl (And.intro rfl (And.intro rfl (And.intro (Nat.le_of_ble_eq_true rfl) (And.intro hc e))))))))))))
theorem bC_90_8 {d : Nat} {Q : Option Value → ai_H → Prop} {h : ai_H} {x1 x2 y0 : Int32} (kt : y0 = 0 → RC d 90 Q 34 [some (.ref 29), some (.int x1), some (.int x2)] [] h) (kf : ¬ y0 = 0 → RC d 90 Q 11 [some (.ref 29), some (.int x1), some (.int x2)] [] h) : RC d 90 Q 8 [some (.ref 29), some (.int x1), some (.int x2)] [.int y0] h := by
  by_cases c : y0 = 0
  · obtain ⟨n, e⟩ := kt c
    exact Exists.intro (n + 1) (Or.inl (And.intro c e))
  · obtain ⟨n, e⟩ := kf c
    exact Exists.intro (n + 1) (Or.inr (And.intro c e))
theorem bC_90_11 {d : Nat} {Q : Option Value → ai_H → Prop} {h h2 : ai_H} {x1 x2 r : Int32} (hc : CC d 57 [.ref 12, .int x2] h (some (.int r)) h2) (k : RC d 90 Q 19 [some (.ref 29), some (.int x1), some (.int x2)] [.int r] h2) : RC d 90 Q 11 [some (.ref 29), some (.int x1), some (.int x2)] [] h := by
  obtain ⟨n, e⟩ := k
  exact Exists.intro (n + 4) (And.intro rfl (Exists.intro [.int x2] (Exists.intro 12 (Exists.intro [] (Exists.intro _ (Exists.intro (some (.int r)) (Exists.intro h2 (And.intro rfl (And.intro rfl (And.intro rfl (And.intro (Nat.le_of_ble_eq_true rfl) (And.intro hc e))))))))))))
theorem bC_90_19 {d : Nat} {Q : Option Value → ai_H → Prop} {h : ai_H} {x1 x2 y0 : Int32} (kt : y0 = 0 → RC d 90 Q 34 [some (.ref 29), some (.int x1), some (.int x2)] [] h) (kf : ¬ y0 = 0 → RC d 90 Q 22 [some (.ref 29), some (.int x1), some (.int x2)] [] h) : RC d 90 Q 19 [some (.ref 29), some (.int x1), some (.int x2)] [.int y0] h := by
  by_cases c : y0 = 0
  · obtain ⟨n, e⟩ := kt c
    exact Exists.intro (n + 1) (Or.inl (And.intro c e))
  · obtain ⟨n, e⟩ := kf c
    exact Exists.intro (n + 1) (Or.inr (And.intro c e))
theorem bC_90_22 {d : Nat} {Q : Option Value → ai_H → Prop} {h h2 : ai_H} {x1 x2 r : Int32} (hc : CC d 60 [.ref 12, .int x2] h (some (.int r)) h2) (k : RC d 90 Q 30 [some (.ref 29), some (.int x1), some (.int x2)] [.int r] h2) : RC d 90 Q 22 [some (.ref 29), some (.int x1), some (.int x2)] [] h := by
  obtain ⟨n, e⟩ := k
  exact Exists.intro (n + 4) (And.intro rfl (Exists.intro [.int x2] (Exists.intro 12 (Exists.intro [] (Exists.intro _ (Exists.intro (some (.int r)) (Exists.intro h2 (And.intro rfl (And.intro rfl (And.intro rfl (And.intro (Nat.le_of_ble_eq_true rfl) (And.intro hc e))))))))))))
theorem bC_90_30 {d : Nat} {Q : Option Value → ai_H → Prop} {h : ai_H} {x1 x2 y0 : Int32} (kt : y0 = 5 → RC d 90 Q 37 [some (.ref 29), some (.int x1), some (.int x2)] [] h) (kf : ¬ y0 = 5 → RC d 90 Q 34 [some (.ref 29), some (.int x1), some (.int x2)] [] h) : RC d 90 Q 30 [some (.ref 29), some (.int x1), some (.int x2)] [.int y0] h := by
  by_cases c : y0 = 5
  · obtain ⟨n, e⟩ := kt c
    exact Exists.intro (n + 2) (Or.inl (And.intro c e))
  · obtain ⟨n, e⟩ := kf c
    exact Exists.intro (n + 2) (Or.inr (And.intro c e))
theorem bC_90_34 {d : Nat} {Q : Option Value → ai_H → Prop} {h : ai_H} {x1 x2 : Int32} (k : Q (some (.int (-2))) h) : RC d 90 Q 34 [some (.ref 29), some (.int x1), some (.int x2)] [] h := Exists.intro 2 (And.intro (Or.inl rfl) k)
theorem bC_90_37 {d : Nat} {Q : Option Value → ai_H → Prop} {h h2 : ai_H} {x1 x2 : Int32} (hc : CC d 73 [.ref 12] h (none) h2) (k : RC d 90 Q 44 [some (.ref 29), some (.int x1), some (.int x2)] [] h2) : RC d 90 Q 37 [some (.ref 29), some (.int x1), some (.int x2)] [] h := by
  obtain ⟨n, e⟩ := k
  exact Exists.intro (n + 3) (And.intro rfl (Exists.intro [] (Exists.intro 12 (Exists.intro [] (Exists.intro _ (Exists.intro (none) (Exists.intro h2 (And.intro rfl (And.intro rfl (And.intro rfl (And.intro (Nat.le_of_ble_eq_true rfl) (And.intro hc e))))))))))))
theorem bC_90_44 {d : Nat} {Q : Option Value → ai_H → Prop} {h h2 : ai_H} {x1 x2 r : Int32} (hc : CC d 19 [.ref 21, .int x1, .int x2, .int 0] h (some (.int r)) h2) (k : RC d 90 Q 58 [some (.ref 29), some (.int x1), some (.int x2)] [.int r, .ref 12] h2) : RC d 90 Q 44 [some (.ref 29), some (.int x1), some (.int x2)] [] h := by
  obtain ⟨n, e⟩ := k
  exact Exists.intro (n + 8) (And.intro rfl (And.intro rfl (Exists.intro [.int x1, .int x2, .int 0] (Exists.intro 21 (Exists.intro [.ref 12] (Exists.intro _ (Exists.intro (some (.int r)) (Exists.intro h2 (And.intro rfl (And.intro rfl (And.intro rfl (And.intro (Nat.le_of_ble_eq_true rfl) (And.intro hc e)))))))))))))
theorem bC_90_58 {d : Nat} {Q : Option Value → ai_H → Prop} {h h2 : ai_H} {x1 x2 y1 r : Int32} (hc : CC d 75 [.ref 12, .int y1] h (some (.int r)) h2) (k : RC d 90 Q 61 [some (.ref 29), some (.int x1), some (.int x2)] [.int r] h2) : RC d 90 Q 58 [some (.ref 29), some (.int x1), some (.int x2)] [.int y1, .ref 12] h := by
  obtain ⟨n, e⟩ := k
  exact Exists.intro (n + 1) (Exists.intro [.int y1] (Exists.intro 12 (Exists.intro [] (Exists.intro _ (Exists.intro (some (.int r)) (Exists.intro h2 (And.intro rfl (And.intro rfl (And.intro rfl (And.intro (Nat.le_of_ble_eq_true rfl) (And.intro hc e)))))))))))
theorem bC_90_61 {d : Nat} {Q : Option Value → ai_H → Prop} {h : ai_H} {x1 x2 y0 : Int32} (k : Q (some (.int y0)) h) : RC d 90 Q 61 [some (.ref 29), some (.int x1), some (.int x2)] [.int y0] h := Exists.intro 1 (And.intro (Or.inl rfl) k)
theorem bC_91_0 {d : Nat} {Q : Option Value → ai_H → Prop} {h : ai_H} {x1 : Int32} {w2 : Int64} (kt : x1 < 1 → RC d 91 Q 11 [some (.ref 29), some (.int x1), some (.long w2), none] [] h) (kf : ¬ x1 < 1 → RC d 91 Q 5 [some (.ref 29), some (.int x1), some (.long w2), none] [] h) : RC d 91 Q 0 [some (.ref 29), some (.int x1), some (.long w2), none] [] h := by
  by_cases c : x1 < 1
  · obtain ⟨n, e⟩ := kt c
    exact Exists.intro (n + 3) (Or.inl (And.intro c e))
  · obtain ⟨n, e⟩ := kf c
    exact Exists.intro (n + 3) (Or.inr (And.intro c e))
theorem bC_91_5 {d : Nat} {Q : Option Value → ai_H → Prop} {h : ai_H} {x1 : Int32} {w2 : Int64} (kt : x1 ≤ 8 → RC d 91 Q 14 [some (.ref 29), some (.int x1), some (.long w2), none] [] h) (kf : ¬ x1 ≤ 8 → RC d 91 Q 11 [some (.ref 29), some (.int x1), some (.long w2), none] [] h) : RC d 91 Q 5 [some (.ref 29), some (.int x1), some (.long w2), none] [] h := by
  by_cases c : x1 ≤ 8
  · obtain ⟨n, e⟩ := kt c
    exact Exists.intro (n + 3) (Or.inl (And.intro c e))
  · obtain ⟨n, e⟩ := kf c
    exact Exists.intro (n + 3) (Or.inr (And.intro c e))
theorem bC_91_11 {d : Nat} {Q : Option Value → ai_H → Prop} {h : ai_H} {x1 : Int32} {w2 : Int64} (k : Q (some (.int (-3))) h) : RC d 91 Q 11 [some (.ref 29), some (.int x1), some (.long w2), none] [] h := Exists.intro 2 (And.intro (Or.inl rfl) k)
theorem bC_91_14 {d : Nat} {Q : Option Value → ai_H → Prop} {h h2 : ai_H} {x1 r : Int32} {w2 : Int64} (hc : CC d 39 [.ref 24, .int x1, .long w2] h (some (.int r)) h2) (k : RC d 91 Q 23 [some (.ref 29), some (.int x1), some (.long w2), none] [.int r] h2) : RC d 91 Q 14 [some (.ref 29), some (.int x1), some (.long w2), none] [] h := by
  obtain ⟨n, e⟩ := k
  exact Exists.intro (n + 5) (And.intro rfl (Exists.intro [.int x1, .long w2] (Exists.intro 24 (Exists.intro [] (Exists.intro _ (Exists.intro (some (.int r)) (Exists.intro h2 (And.intro rfl (And.intro rfl (And.intro rfl (And.intro (Nat.le_of_ble_eq_true rfl) (And.intro hc e))))))))))))
theorem bC_91_23 {d : Nat} {Q : Option Value → ai_H → Prop} {h : ai_H} {x1 y0 : Int32} {w2 : Int64} (k : Q (some (.int y0)) h) : RC d 91 Q 23 [some (.ref 29), some (.int x1), some (.long w2), none] [.int y0] h := Exists.intro 1 (And.intro (Or.inl rfl) k)
theorem bC_92_0 {d : Nat} {Q : Option Value → ai_H → Prop} {h h2 : ai_H} (hc : CC d 73 [.ref 12] h (none) h2) (k : RC d 92 Q 7 [some (.ref 29), none, none] [] h2) : RC d 92 Q 0 [some (.ref 29), none, none] [] h := by
  obtain ⟨n, e⟩ := k
  exact Exists.intro (n + 3) (And.intro rfl (Exists.intro [] (Exists.intro 12 (Exists.intro [] (Exists.intro _ (Exists.intro (none) (Exists.intro h2 (And.intro rfl (And.intro rfl (And.intro rfl (And.intro (Nat.le_of_ble_eq_true rfl) (And.intro hc e))))))))))))
theorem bC_92_7 {d : Nat} {Q : Option Value → ai_H → Prop} {h h2 : ai_H} (hc : CC d 40 [.ref 24] h (none) h2) (k : RC d 92 Q 14 [some (.ref 29), none, none] [] h2) : RC d 92 Q 7 [some (.ref 29), none, none] [] h := by
  obtain ⟨n, e⟩ := k
  exact Exists.intro (n + 3) (And.intro rfl (Exists.intro [] (Exists.intro 24 (Exists.intro [] (Exists.intro _ (Exists.intro (none) (Exists.intro h2 (And.intro rfl (And.intro rfl (And.intro rfl (And.intro (Nat.le_of_ble_eq_true rfl) (And.intro hc e))))))))))))
theorem bC_92_14 {d : Nat} {Q : Option Value → ai_H → Prop} {h h2 : ai_H} {r : Int32} (hc : CC d 44 [.ref 24, .int 0] h (some (.int r)) h2) (k : RC d 92 Q 22 [some (.ref 29), none, none] [.int r] h2) : RC d 92 Q 14 [some (.ref 29), none, none] [] h := by
  obtain ⟨n, e⟩ := k
  exact Exists.intro (n + 4) (And.intro rfl (Exists.intro [.int 0] (Exists.intro 24 (Exists.intro [] (Exists.intro _ (Exists.intro (some (.int r)) (Exists.intro h2 (And.intro rfl (And.intro rfl (And.intro rfl (And.intro (Nat.le_of_ble_eq_true rfl) (And.intro hc e))))))))))))
theorem bC_92_22 {d : Nat} {Q : Option Value → ai_H → Prop} {h h2 : ai_H} {y0 r : Int32} (hc : CC d 41 [.ref 24] h (some (.int r)) h2) (k : RC d 92 Q 30 [some (.ref 29), some (.int y0), none] [.int r] h2) : RC d 92 Q 22 [some (.ref 29), none, none] [.int y0] h := by
  obtain ⟨n, e⟩ := k
  exact Exists.intro (n + 4) (Exists.intro _ (And.intro rfl (And.intro rfl (Exists.intro [] (Exists.intro 24 (Exists.intro [] (Exists.intro _ (Exists.intro (some (.int r)) (Exists.intro h2 (And.intro rfl (And.intro rfl (And.intro rfl (And.intro (Nat.le_of_ble_eq_true rfl) (And.intro hc e))))))))))))))
theorem bC_92_30 {d : Nat} {Q : Option Value → ai_H → Prop} {h : ai_H} {x1 y0 : Int32} (kt : y0 = (-1) → RC d 92 Q 43 [some (.ref 29), some (.int x1), some (.int y0)] [] h) (kf : ¬ y0 = (-1) → RC d 92 Q 36 [some (.ref 29), some (.int x1), some (.int y0)] [] h) : RC d 92 Q 30 [some (.ref 29), some (.int x1), none] [.int y0] h := by
  by_cases c : y0 = (-1)
  · obtain ⟨n, e⟩ := kt c
    exact Exists.intro (n + 4) (Exists.intro _ (And.intro rfl (Or.inl (And.intro c e))))
  · obtain ⟨n, e⟩ := kf c
    exact Exists.intro (n + 4) (Exists.intro _ (And.intro rfl (Or.inr (And.intro c e))))
theorem bC_92_36 {d : Nat} {Q : Option Value → ai_H → Prop} {h : ai_H} {x1 x2 : Int32} (k : RC d 92 Q 51 [some (.ref 29), some (.int x1), some (.int x2)] [.int ((-10) - x2)] h) : RC d 92 Q 36 [some (.ref 29), some (.int x1), some (.int x2)] [] h := by
  obtain ⟨n, e⟩ := k
  exact Exists.intro (n + 4) (e)
theorem bC_92_43 {d : Nat} {Q : Option Value → ai_H → Prop} {h h2 : ai_H} {x1 x2 r : Int32} (hc : CC d 75 [.ref 12, .int x1] h (some (.int r)) h2) (k : RC d 92 Q 51 [some (.ref 29), some (.int x1), some (.int x2)] [.int r] h2) : RC d 92 Q 43 [some (.ref 29), some (.int x1), some (.int x2)] [] h := by
  obtain ⟨n, e⟩ := k
  exact Exists.intro (n + 4) (And.intro rfl (Exists.intro [.int x1] (Exists.intro 12 (Exists.intro [] (Exists.intro _ (Exists.intro (some (.int r)) (Exists.intro h2 (And.intro rfl (And.intro rfl (And.intro rfl (And.intro (Nat.le_of_ble_eq_true rfl) (And.intro hc e))))))))))))
theorem bC_92_51 {d : Nat} {Q : Option Value → ai_H → Prop} {h : ai_H} {x1 x2 y0 : Int32} (k : Q (some (.int y0)) h) : RC d 92 Q 51 [some (.ref 29), some (.int x1), some (.int x2)] [.int y0] h := Exists.intro 1 (And.intro (Or.inl rfl) k)
theorem bC_93_0 {d : Nat} {Q : Option Value → ai_H → Prop} {h h2 : ai_H} {x1 r : Int32} (hc : CC d 57 [.ref 12, .int x1] h (some (.int r)) h2) (k : RC d 93 Q 8 [some (.ref 29), some (.int x1)] [.int r] h2) : RC d 93 Q 0 [some (.ref 29), some (.int x1)] [] h := by
  obtain ⟨n, e⟩ := k
  exact Exists.intro (n + 4) (And.intro rfl (Exists.intro [.int x1] (Exists.intro 12 (Exists.intro [] (Exists.intro _ (Exists.intro (some (.int r)) (Exists.intro h2 (And.intro rfl (And.intro rfl (And.intro rfl (And.intro (Nat.le_of_ble_eq_true rfl) (And.intro hc e))))))))))))
theorem bC_93_8 {d : Nat} {Q : Option Value → ai_H → Prop} {h : ai_H} {x1 y0 : Int32} (kt : ¬ y0 = 0 → RC d 93 Q 14 [some (.ref 29), some (.int x1)] [] h) (kf : y0 = 0 → RC d 93 Q 11 [some (.ref 29), some (.int x1)] [] h) : RC d 93 Q 8 [some (.ref 29), some (.int x1)] [.int y0] h := by
  by_cases c : y0 = 0
  · obtain ⟨n, e⟩ := kf c
    exact Exists.intro (n + 1) (Or.inr (And.intro (fun z => z c) e))
  · obtain ⟨n, e⟩ := kt c
    exact Exists.intro (n + 1) (Or.inl (And.intro c e))
theorem bC_93_11 {d : Nat} {Q : Option Value → ai_H → Prop} {h : ai_H} {x1 : Int32} (k : Q (some (.int (-2))) h) : RC d 93 Q 11 [some (.ref 29), some (.int x1)] [] h := Exists.intro 2 (And.intro (Or.inl rfl) k)
theorem bC_93_14 {d : Nat} {Q : Option Value → ai_H → Prop} {h h2 : ai_H} {x1 r : Int32} (hc : CC d 34 [.ref 26, .int x1] h (some (.int r)) h2) (k : RC d 93 Q 22 [some (.ref 29), some (.int x1)] [.int r] h2) : RC d 93 Q 14 [some (.ref 29), some (.int x1)] [] h := by
  obtain ⟨n, e⟩ := k
  exact Exists.intro (n + 4) (And.intro rfl (Exists.intro [.int x1] (Exists.intro 26 (Exists.intro [] (Exists.intro _ (Exists.intro (some (.int r)) (Exists.intro h2 (And.intro rfl (And.intro rfl (And.intro rfl (And.intro (Nat.le_of_ble_eq_true rfl) (And.intro hc e))))))))))))
theorem bC_93_22 {d : Nat} {Q : Option Value → ai_H → Prop} {h : ai_H} {x1 y0 : Int32} (k : Q (some (.int y0)) h) : RC d 93 Q 22 [some (.ref 29), some (.int x1)] [.int y0] h := Exists.intro 1 (And.intro (Or.inl rfl) k)
theorem bC_94_0 {d : Nat} {Q : Option Value → ai_H → Prop} {h h2 : ai_H} {x1 r : Int32} (hc : CC d 33 [.ref 26, .int x1] h (some (.int r)) h2) (k : RC d 94 Q 8 [some (.ref 29), some (.int x1)] [.int r] h2) : RC d 94 Q 0 [some (.ref 29), some (.int x1)] [] h := by
  obtain ⟨n, e⟩ := k
  exact Exists.intro (n + 4) (And.intro rfl (Exists.intro [.int x1] (Exists.intro 26 (Exists.intro [] (Exists.intro _ (Exists.intro (some (.int r)) (Exists.intro h2 (And.intro rfl (And.intro rfl (And.intro rfl (And.intro (Nat.le_of_ble_eq_true rfl) (And.intro hc e))))))))))))
theorem bC_94_8 {d : Nat} {Q : Option Value → ai_H → Prop} {h : ai_H} {x1 y0 : Int32} (k : Q (some (.int y0)) h) : RC d 94 Q 8 [some (.ref 29), some (.int x1)] [.int y0] h := Exists.intro 1 (And.intro (Or.inl rfl) k)
theorem bC_95_0d {d : Nat} {Q : Option Value → ai_H → Prop} {h : ai_H} {x1 : Int32} (c : Int32.toInt x1 < 0 ∨ 4 < Int32.toInt x1) (k : RC d 95 Q 73 [some (.ref 29), some (.int x1)] [] h) : RC d 95 Q 0 [some (.ref 29), some (.int x1)] [] h := by
  obtain ⟨n, e⟩ := k
  exact Exists.intro (n + 2) (Or.inl (And.intro c (Exists.intro 73 (And.intro (by decide) e))))
theorem bC_95_0c0 {d : Nat} {Q : Option Value → ai_H → Prop} {h : ai_H} {x1 : Int32} (c : x1 = 0) (k : RC d 95 Q 36 [some (.ref 29), some (.int x1)] [] h) : RC d 95 Q 0 [some (.ref 29), some (.int x1)] [] h := by
  obtain ⟨n, e⟩ := k
  exact Exists.intro (n + 2) (Or.inr (And.intro (by rw [c]; decide) (And.intro (by rw [c]; decide) (Exists.intro 35 (Exists.intro 36 (And.intro (by rw [c]; rfl) (And.intro (by decide) e)))))))
theorem bC_95_0c1 {d : Nat} {Q : Option Value → ai_H → Prop} {h : ai_H} {x1 : Int32} (c : x1 = 1) (k : RC d 95 Q 44 [some (.ref 29), some (.int x1)] [] h) : RC d 95 Q 0 [some (.ref 29), some (.int x1)] [] h := by
  obtain ⟨n, e⟩ := k
  exact Exists.intro (n + 2) (Or.inr (And.intro (by rw [c]; decide) (And.intro (by rw [c]; decide) (Exists.intro 43 (Exists.intro 44 (And.intro (by rw [c]; rfl) (And.intro (by decide) e)))))))
theorem bC_95_0c2 {d : Nat} {Q : Option Value → ai_H → Prop} {h : ai_H} {x1 : Int32} (c : x1 = 2) (k : RC d 95 Q 52 [some (.ref 29), some (.int x1)] [] h) : RC d 95 Q 0 [some (.ref 29), some (.int x1)] [] h := by
  obtain ⟨n, e⟩ := k
  exact Exists.intro (n + 2) (Or.inr (And.intro (by rw [c]; decide) (And.intro (by rw [c]; decide) (Exists.intro 51 (Exists.intro 52 (And.intro (by rw [c]; rfl) (And.intro (by decide) e)))))))
theorem bC_95_0c3 {d : Nat} {Q : Option Value → ai_H → Prop} {h : ai_H} {x1 : Int32} (c : x1 = 3) (k : RC d 95 Q 57 [some (.ref 29), some (.int x1)] [] h) : RC d 95 Q 0 [some (.ref 29), some (.int x1)] [] h := by
  obtain ⟨n, e⟩ := k
  exact Exists.intro (n + 2) (Or.inr (And.intro (by rw [c]; decide) (And.intro (by rw [c]; decide) (Exists.intro 56 (Exists.intro 57 (And.intro (by rw [c]; rfl) (And.intro (by decide) e)))))))
theorem bC_95_0c4 {d : Nat} {Q : Option Value → ai_H → Prop} {h : ai_H} {x1 : Int32} (c : x1 = 4) (k : RC d 95 Q 65 [some (.ref 29), some (.int x1)] [] h) : RC d 95 Q 0 [some (.ref 29), some (.int x1)] [] h := by
  obtain ⟨n, e⟩ := k
  exact Exists.intro (n + 2) (Or.inr (And.intro (by rw [c]; decide) (And.intro (by rw [c]; decide) (Exists.intro 64 (Exists.intro 65 (And.intro (by rw [c]; rfl) (And.intro (by decide) e)))))))
theorem bC_95_36 {d : Nat} {Q : Option Value → ai_H → Prop} {h h2 : ai_H} {x1 r : Int32} (hc : CC d 0 [.ref 0] h (some (.int r)) h2) (k : RC d 95 Q 43 [some (.ref 29), some (.int x1)] [.int r] h2) : RC d 95 Q 36 [some (.ref 29), some (.int x1)] [] h := by
  obtain ⟨n, e⟩ := k
  exact Exists.intro (n + 3) (And.intro rfl (Exists.intro [] (Exists.intro 0 (Exists.intro [] (Exists.intro _ (Exists.intro (some (.int r)) (Exists.intro h2 (And.intro rfl (And.intro rfl (And.intro rfl (And.intro (Nat.le_of_ble_eq_true rfl) (And.intro hc e))))))))))))
theorem bC_95_43 {d : Nat} {Q : Option Value → ai_H → Prop} {h : ai_H} {x1 y0 : Int32} (k : Q (some (.int y0)) h) : RC d 95 Q 43 [some (.ref 29), some (.int x1)] [.int y0] h := Exists.intro 1 (And.intro (Or.inl rfl) k)
theorem bC_95_44 {d : Nat} {Q : Option Value → ai_H → Prop} {h h2 : ai_H} {x1 r : Int32} (hc : CC d 56 [.ref 12] h (some (.int r)) h2) (k : RC d 95 Q 51 [some (.ref 29), some (.int x1)] [.int r] h2) : RC d 95 Q 44 [some (.ref 29), some (.int x1)] [] h := by
  obtain ⟨n, e⟩ := k
  exact Exists.intro (n + 3) (And.intro rfl (Exists.intro [] (Exists.intro 12 (Exists.intro [] (Exists.intro _ (Exists.intro (some (.int r)) (Exists.intro h2 (And.intro rfl (And.intro rfl (And.intro rfl (And.intro (Nat.le_of_ble_eq_true rfl) (And.intro hc e))))))))))))
theorem bC_95_51 {d : Nat} {Q : Option Value → ai_H → Prop} {h : ai_H} {x1 y0 : Int32} (k : Q (some (.int y0)) h) : RC d 95 Q 51 [some (.ref 29), some (.int x1)] [.int y0] h := Exists.intro 1 (And.intro (Or.inl rfl) k)
theorem bC_95_52 {d : Nat} {Q : Option Value → ai_H → Prop} {h : ai_H} {x1 : Int32} (k : Q (some (.int (h 29 8))) h) : RC d 95 Q 52 [some (.ref 29), some (.int x1)] [] h := Exists.intro 3 (And.intro rfl (And.intro (Or.inl rfl) k))
theorem bC_95_57 {d : Nat} {Q : Option Value → ai_H → Prop} {h h2 : ai_H} {x1 r : Int32} (hc : CC d 38 [.ref 24] h (some (.int r)) h2) (k : RC d 95 Q 64 [some (.ref 29), some (.int x1)] [.int r] h2) : RC d 95 Q 57 [some (.ref 29), some (.int x1)] [] h := by
  obtain ⟨n, e⟩ := k
  exact Exists.intro (n + 3) (And.intro rfl (Exists.intro [] (Exists.intro 24 (Exists.intro [] (Exists.intro _ (Exists.intro (some (.int r)) (Exists.intro h2 (And.intro rfl (And.intro rfl (And.intro rfl (And.intro (Nat.le_of_ble_eq_true rfl) (And.intro hc e))))))))))))
theorem bC_95_64 {d : Nat} {Q : Option Value → ai_H → Prop} {h : ai_H} {x1 y0 : Int32} (k : Q (some (.int y0)) h) : RC d 95 Q 64 [some (.ref 29), some (.int x1)] [.int y0] h := Exists.intro 1 (And.intro (Or.inl rfl) k)
theorem bC_95_65 {d : Nat} {Q : Option Value → ai_H → Prop} {h h2 : ai_H} {x1 r : Int32} (hc : CC d 32 [.ref 26] h (some (.int r)) h2) (k : RC d 95 Q 72 [some (.ref 29), some (.int x1)] [.int r] h2) : RC d 95 Q 65 [some (.ref 29), some (.int x1)] [] h := by
  obtain ⟨n, e⟩ := k
  exact Exists.intro (n + 3) (And.intro rfl (Exists.intro [] (Exists.intro 26 (Exists.intro [] (Exists.intro _ (Exists.intro (some (.int r)) (Exists.intro h2 (And.intro rfl (And.intro rfl (And.intro rfl (And.intro (Nat.le_of_ble_eq_true rfl) (And.intro hc e))))))))))))
theorem bC_95_72 {d : Nat} {Q : Option Value → ai_H → Prop} {h : ai_H} {x1 y0 : Int32} (k : Q (some (.int y0)) h) : RC d 95 Q 72 [some (.ref 29), some (.int x1)] [.int y0] h := Exists.intro 1 (And.intro (Or.inl rfl) k)
theorem bC_95_73 {d : Nat} {Q : Option Value → ai_H → Prop} {h : ai_H} {x1 : Int32} (kt : x1 < 5 → RC d 95 Q 102 [some (.ref 29), some (.int x1)] [] h) (kf : ¬ x1 < 5 → RC d 95 Q 78 [some (.ref 29), some (.int x1)] [] h) : RC d 95 Q 73 [some (.ref 29), some (.int x1)] [] h := by
  by_cases c : x1 < 5
  · obtain ⟨n, e⟩ := kt c
    exact Exists.intro (n + 3) (Or.inl (And.intro c e))
  · obtain ⟨n, e⟩ := kf c
    exact Exists.intro (n + 3) (Or.inr (And.intro c e))
theorem bC_95_78 {d : Nat} {Q : Option Value → ai_H → Prop} {h h2 : ai_H} {x1 r : Int32} (hc : CC d 1 [.ref 0, .int (x1 - 5)] h (some (.int r)) h2) (k : RC d 95 Q 88 [some (.ref 29), some (.int x1)] [.int r] h2) : RC d 95 Q 78 [some (.ref 29), some (.int x1)] [] h := by
  obtain ⟨n, e⟩ := k
  exact Exists.intro (n + 6) (And.intro rfl (Exists.intro [.int (x1 - 5)] (Exists.intro 0 (Exists.intro [] (Exists.intro _ (Exists.intro (some (.int r)) (Exists.intro h2 (And.intro rfl (And.intro rfl (And.intro rfl (And.intro (Nat.le_of_ble_eq_true rfl) (And.intro hc e))))))))))))
theorem bC_95_88 {d : Nat} {Q : Option Value → ai_H → Prop} {h : ai_H} {x1 y0 : Int32} (kt : y0 = 0 → RC d 95 Q 102 [some (.ref 29), some (.int x1)] [] h) (kf : ¬ y0 = 0 → RC d 95 Q 91 [some (.ref 29), some (.int x1)] [] h) : RC d 95 Q 88 [some (.ref 29), some (.int x1)] [.int y0] h := by
  by_cases c : y0 = 0
  · obtain ⟨n, e⟩ := kt c
    exact Exists.intro (n + 1) (Or.inl (And.intro c e))
  · obtain ⟨n, e⟩ := kf c
    exact Exists.intro (n + 1) (Or.inr (And.intro c e))
theorem bC_95_91 {d : Nat} {Q : Option Value → ai_H → Prop} {h h2 : ai_H} {x1 r : Int32} (hc : CC d 12 [.ref 0, .int (x1 - 5)] h (some (.int r)) h2) (k : RC d 95 Q 101 [some (.ref 29), some (.int x1)] [.int r] h2) : RC d 95 Q 91 [some (.ref 29), some (.int x1)] [] h := by
  obtain ⟨n, e⟩ := k
  exact Exists.intro (n + 6) (And.intro rfl (Exists.intro [.int (x1 - 5)] (Exists.intro 0 (Exists.intro [] (Exists.intro _ (Exists.intro (some (.int r)) (Exists.intro h2 (And.intro rfl (And.intro rfl (And.intro rfl (And.intro (Nat.le_of_ble_eq_true rfl) (And.intro hc e))))))))))))
theorem bC_95_101 {d : Nat} {Q : Option Value → ai_H → Prop} {h : ai_H} {x1 y0 : Int32} (k : Q (some (.int y0)) h) : RC d 95 Q 101 [some (.ref 29), some (.int x1)] [.int y0] h := Exists.intro 1 (And.intro (Or.inl rfl) k)
theorem bC_95_102 {d : Nat} {Q : Option Value → ai_H → Prop} {h : ai_H} {x1 : Int32} (kt : x1 < 20 → RC d 95 Q 134 [some (.ref 29), some (.int x1)] [] h) (kf : ¬ x1 < 20 → RC d 95 Q 108 [some (.ref 29), some (.int x1)] [] h) : RC d 95 Q 102 [some (.ref 29), some (.int x1)] [] h := by
  by_cases c : x1 < 20
  · obtain ⟨n, e⟩ := kt c
    exact Exists.intro (n + 3) (Or.inl (And.intro c e))
  · obtain ⟨n, e⟩ := kf c
    exact Exists.intro (n + 3) (Or.inr (And.intro c e))
theorem bC_95_108 {d : Nat} {Q : Option Value → ai_H → Prop} {h h2 : ai_H} {x1 r : Int32} (hc : CC d 1 [.ref 0, .int (x1 - 20)] h (some (.int r)) h2) (k : RC d 95 Q 119 [some (.ref 29), some (.int x1)] [.int r] h2) : RC d 95 Q 108 [some (.ref 29), some (.int x1)] [] h := by
  obtain ⟨n, e⟩ := k
  exact Exists.intro (n + 6) (And.intro rfl (Exists.intro [.int (x1 - 20)] (Exists.intro 0 (Exists.intro [] (Exists.intro _ (Exists.intro (some (.int r)) (Exists.intro h2 (And.intro rfl (And.intro rfl (And.intro rfl (And.intro (Nat.le_of_ble_eq_true rfl) (And.intro hc e))))))))))))
theorem bC_95_119 {d : Nat} {Q : Option Value → ai_H → Prop} {h : ai_H} {x1 y0 : Int32} (kt : y0 = 0 → RC d 95 Q 134 [some (.ref 29), some (.int x1)] [] h) (kf : ¬ y0 = 0 → RC d 95 Q 122 [some (.ref 29), some (.int x1)] [] h) : RC d 95 Q 119 [some (.ref 29), some (.int x1)] [.int y0] h := by
  by_cases c : y0 = 0
  · obtain ⟨n, e⟩ := kt c
    exact Exists.intro (n + 1) (Or.inl (And.intro c e))
  · obtain ⟨n, e⟩ := kf c
    exact Exists.intro (n + 1) (Or.inr (And.intro c e))
theorem bC_95_122 {d : Nat} {Q : Option Value → ai_H → Prop} {h h2 : ai_H} {x1 r : Int32} (hc : CC d 14 [.ref 0, .int (x1 - 20)] h (some (.int r)) h2) (k : RC d 95 Q 133 [some (.ref 29), some (.int x1)] [.int r] h2) : RC d 95 Q 122 [some (.ref 29), some (.int x1)] [] h := by
  obtain ⟨n, e⟩ := k
  exact Exists.intro (n + 6) (And.intro rfl (Exists.intro [.int (x1 - 20)] (Exists.intro 0 (Exists.intro [] (Exists.intro _ (Exists.intro (some (.int r)) (Exists.intro h2 (And.intro rfl (And.intro rfl (And.intro rfl (And.intro (Nat.le_of_ble_eq_true rfl) (And.intro hc e))))))))))))
theorem bC_95_133 {d : Nat} {Q : Option Value → ai_H → Prop} {h : ai_H} {x1 y0 : Int32} (k : Q (some (.int y0)) h) : RC d 95 Q 133 [some (.ref 29), some (.int x1)] [.int y0] h := Exists.intro 1 (And.intro (Or.inl rfl) k)
theorem bC_95_134 {d : Nat} {Q : Option Value → ai_H → Prop} {h : ai_H} {x1 : Int32} (k : Q (some (.int (-2))) h) : RC d 95 Q 134 [some (.ref 29), some (.int x1)] [] h := Exists.intro 2 (And.intro (Or.inl rfl) k)
theorem bC_96_0 {d : Nat} {Q : Option Value → ai_H → Prop} {h : ai_H} {x0 x1 : Int32} (kt : ¬ x0 = 3 → RC d 96 Q 9 [some (.int x0), some (.int x1)] [] h) (kf : x0 = 3 → RC d 96 Q 5 [some (.int x0), some (.int x1)] [] h) : RC d 96 Q 0 [some (.int x0), some (.int x1)] [] h := by
  by_cases c : x0 = 3
  · obtain ⟨n, e⟩ := kf c
    exact Exists.intro (n + 3) (Or.inr (And.intro (fun z => z c) e))
  · obtain ⟨n, e⟩ := kt c
    exact Exists.intro (n + 3) (Or.inl (And.intro c e))
theorem bC_96_5 {d : Nat} {Q : Option Value → ai_H → Prop} {h : ai_H} {x0 x1 : Int32} (k : RC d 96 Q 16 [some (.int x0), some (.int x1)] [.int 3] h) : RC d 96 Q 5 [some (.int x0), some (.int x1)] [] h := by
  obtain ⟨n, e⟩ := k
  exact Exists.intro (n + 2) (e)
theorem bC_96_9 {d : Nat} {Q : Option Value → ai_H → Prop} {h : ai_H} {x0 x1 : Int32} (k : RC d 96 Q 16 [some (.int x0), some (.int x1)] [.int (((x1 + 1) * 4) + x0)] h) : RC d 96 Q 9 [some (.int x0), some (.int x1)] [] h := by
  obtain ⟨n, e⟩ := k
  exact Exists.intro (n + 7) (e)
theorem bC_96_16 {d : Nat} {Q : Option Value → ai_H → Prop} {h : ai_H} {x0 x1 y0 : Int32} (k : Q (some (.int y0)) h) : RC d 96 Q 16 [some (.int x0), some (.int x1)] [.int y0] h := Exists.intro 1 (And.intro (Or.inl rfl) k)
theorem bC_97_0 {d : Nat} {Q : Option Value → ai_H → Prop} {h : ai_H} {x0 : Int32} (kt : 0 ≤ x0 → RC d 97 Q 8 [some (.int x0)] [] h) (kf : ¬ 0 ≤ x0 → RC d 97 Q 4 [some (.int x0)] [] h) : RC d 97 Q 0 [some (.int x0)] [] h := by
  by_cases c : 0 ≤ x0
  · obtain ⟨n, e⟩ := kt c
    exact Exists.intro (n + 2) (Or.inl (And.intro c e))
  · obtain ⟨n, e⟩ := kf c
    exact Exists.intro (n + 2) (Or.inr (And.intro c e))
theorem bC_97_4 {d : Nat} {Q : Option Value → ai_H → Prop} {h : ai_H} {x0 : Int32} (k : RC d 97 Q 11 [some (.int x0)] [.int (-1)] h) : RC d 97 Q 4 [some (.int x0)] [] h := by
  obtain ⟨n, e⟩ := k
  exact Exists.intro (n + 2) (e)
theorem bC_97_8 {d : Nat} {Q : Option Value → ai_H → Prop} {h : ai_H} {x0 : Int32} (k : RC d 97 Q 11 [some (.int x0)] [.int (x0 &&& 3)] h) : RC d 97 Q 8 [some (.int x0)] [] h := by
  obtain ⟨n, e⟩ := k
  exact Exists.intro (n + 3) (e)
theorem bC_97_11 {d : Nat} {Q : Option Value → ai_H → Prop} {h : ai_H} {x0 y0 : Int32} (k : Q (some (.int y0)) h) : RC d 97 Q 11 [some (.int x0)] [.int y0] h := Exists.intro 1 (And.intro (Or.inl rfl) k)
theorem bC_98_0 {d : Nat} {Q : Option Value → ai_H → Prop} {h : ai_H} {x0 : Int32} (kt : 0 ≤ x0 → RC d 98 Q 8 [some (.int x0)] [] h) (kf : ¬ 0 ≤ x0 → RC d 98 Q 4 [some (.int x0)] [] h) : RC d 98 Q 0 [some (.int x0)] [] h := by
  by_cases c : 0 ≤ x0
  · obtain ⟨n, e⟩ := kt c
    exact Exists.intro (n + 2) (Or.inl (And.intro c e))
  · obtain ⟨n, e⟩ := kf c
    exact Exists.intro (n + 2) (Or.inr (And.intro c e))
theorem bC_98_4 {d : Nat} {Q : Option Value → ai_H → Prop} {h : ai_H} {x0 : Int32} (k : RC d 98 Q 13 [some (.int x0)] [.int (-1)] h) : RC d 98 Q 4 [some (.int x0)] [] h := by
  obtain ⟨n, e⟩ := k
  exact Exists.intro (n + 2) (e)
theorem bC_98_8 {d : Nat} {Q : Option Value → ai_H → Prop} {h : ai_H} {x0 : Int32} (k : RC d 98 Q 13 [some (.int x0)] [.int ((x0 >>> (2 &&& 31)) - 1)] h) : RC d 98 Q 8 [some (.int x0)] [] h := by
  obtain ⟨n, e⟩ := k
  exact Exists.intro (n + 5) (e)
theorem bC_98_13 {d : Nat} {Q : Option Value → ai_H → Prop} {h : ai_H} {x0 y0 : Int32} (k : Q (some (.int y0)) h) : RC d 98 Q 13 [some (.int x0)] [.int y0] h := Exists.intro 1 (And.intro (Or.inl rfl) k)
